/-! ===== printed by program: methods as functions over a state, and their walks ===== -/
def hd_Md_goOnAnd_L0 (V : Sm → Wd) (D0 : Nat) (l : Launch) (Γ : Gm) (rF : Option Value) (wF : Wd)  (q : Sm) : Prop := G mX12_goOnAnd l Γ (rmD (D0 + 1) 0 0) (mQ Γ rF wF 0 0) 0 0 0 [some (.ref 53)] [] (V q)
def ps_Md_goOnAnd_L0 (V : Sm → Wd) (D0 : Nat) (l : Launch) (Γ : Gm) (rF : Option Value) (wF : Wd)  (x : Sm) : Prop := (fun (a : Sm) => G mX12_goOnAnd l Γ (rmD (D0 + 1) 0 0) (mQ Γ rF wF 0 0) 0 0 41 [none] [] (V a)) x
def Md_goOnAnd_L0 (rc : Nat → Sm → Option Sm) (q : Sm) : Option ((Sm) ⊕ (Sm)) := (if (gi q 53 4) = ((-1)) then ((Md_look q).bind fun q1 => (if q1.1 = 38 then ((rc 0 (si q1.2 53 3 ((gi q1.2 53 3) + 1))).bind fun q2 => ((Md_put 10 0 q2).bind fun q3 => (some (.inl q3)))) else (some (.inr q1.2)))) else (some (.inr q)))
set_option maxRecDepth 4000 in
theorem t_Md_goOnAnd_L0 {V : Sm → Wd} (hV : VwT V) {D0 : Nat} (hD0 : 43 ≤ D0) {rc : Nat → Sm → Option Sm} (hrc : (∀ (S q : Sm), rc 0 S = some q → Runs D0 mX12_unit [.ref 53] (V S) none (V q) 0 0) ∧ (∀ (S q : Sm), rc 1 S = some q → Runs D0 mX12_condition [.ref 53] (V S) none (V q) 0 0) ∧ (∀ (S q : Sm), rc 2 S = some q → Runs D0 mX12_goOnAnd [.ref 53] (V S) none (V q) 0 0) ∧ (∀ (S q : Sm), rc 3 S = some q → Runs D0 mX12_goOnOr [.ref 53] (V S) none (V q) 0 0)) {l : Launch} {Γ : Gm} {rF : Option Value} {wF : Wd}  {q : Sm} {o : (Sm) ⊕ (Sm)} (h : Md_goOnAnd_L0 rc q = some o) (hK : Sum.elim (hd_Md_goOnAnd_L0 V D0 l Γ rF wF) (ps_Md_goOnAnd_L0 V D0 l Γ rF wF) o) : hd_Md_goOnAnd_L0 V D0 l Γ rF wF q := by
  unfold Md_goOnAnd_L0 at h
  unfold hd_Md_goOnAnd_L0
  refine g_aload_n (pc := 0) dX12_goOnAnd_0 rfl ?_
  refine v_getI hV (pc := 1) dX12_goOnAnd_1 fo_12_4 rfl k0_53 own_53 ?_
  refine g_iconst (v := (-1)) (pc := 4) dX12_goOnAnd_4 (by decide) ?_
  refine g_icmp_ne (tgt := 41) (pc := 5) dX12_goOnAnd_5 (by decide) (fun c5 => ?_) (fun c5 => ?_)
  · rw [if_neg c5] at h
    refine g_wk [false] rfl ?_
    cases h
    exact hK
  · rw [if_pos c5] at h
    refine g_aload_n (pc := 8) dX12_goOnAnd_8 rfl ?_
    obtain ⟨q1, hq1, h⟩ := bnd h
    refine v_callVi hV (Mc := mX12_look) (v := q1.1) (S1 := q1.2) (As := []) (rest := []) (q := (RX12, TX12, 58)) (pc := 9) dX12_goOnAnd_9 mK_X12_152 mf_X12_look rfl k0_53 rfl rfl rfl (Nat.le_of_ble_eq_true rfl) ⟨by show 1 + 1 ≤ D0 + 1; omega, by show 8 + (1 + 11) + 64 * 1 ≤ 64 * (D0 + 1); omega⟩ (r_Md_look hV hq1) ?_
    refine g_bipush (v := 38) (pc := 12) dX12_goOnAnd_12 (by decide) ?_
    refine g_icmp_ne (tgt := 41) (pc := 14) dX12_goOnAnd_14 (by decide) (fun c4 => ?_) (fun c4 => ?_)
    · rw [if_neg c4] at h
      refine g_wk [false] rfl ?_
      cases h
      exact hK
    · rw [if_pos c4] at h
      refine g_aload_n (pc := 17) dX12_goOnAnd_17 rfl ?_
      refine g_dup (pc := 18) dX12_goOnAnd_18 rfl ?_
      refine v_getI hV (pc := 19) dX12_goOnAnd_19 fo_12_3 rfl k0_53 own_53 ?_
      refine g_iconst (v := 1) (pc := 22) dX12_goOnAnd_22 (by decide) ?_
      refine g_iadd (pc := 23) dX12_goOnAnd_23 ?_
      refine v_putI hV (pc := 24) dX12_goOnAnd_24 fo_12_3 rfl k0_53 own_53 rfl ?_
      refine g_aload_n (pc := 27) dX12_goOnAnd_27 rfl ?_
      obtain ⟨q2, hq2, h⟩ := bnd h
      refine v_callVv hV (Mc := mX12_unit) (S1 := q2) (As := []) (rest := []) (q := (RX12, TX12, 58)) (pc := 28) dX12_goOnAnd_28 mK_X12_189 mf_X12_unit rfl k0_53 rfl rfl rfl (Nat.le_of_ble_eq_true rfl) ⟨by show D0 + 1 ≤ D0 + 1; omega, by show 8 + (2 + 11) + 64 * D0 ≤ 64 * (D0 + 1); omega⟩ (hrc.1 _ _ hq2) ?_
      refine g_aload_n (pc := 31) dX12_goOnAnd_31 rfl ?_
      refine g_bipush (v := 10) (pc := 32) dX12_goOnAnd_32 (by decide) ?_
      refine g_iconst (v := 0) (pc := 34) dX12_goOnAnd_34 (by decide) ?_
      obtain ⟨q3, hq3, h⟩ := bnd h
      refine v_callVv hV (Mc := mX12_put) (S1 := q3) (As := [.int 10, .int 0]) (rest := []) (q := (RX12, TX12, 58)) (pc := 35) dX12_goOnAnd_35 mK_X12_162 mf_X12_put rfl k0_53 rfl rfl rfl (Nat.le_of_ble_eq_true rfl) ⟨by show 0 + 1 ≤ D0 + 1; omega, by show 8 + (3 + 11) + 64 * 0 ≤ 64 * (D0 + 1); omega⟩ (r_Md_put hV hq3) ?_
      refine g_goto (tgt := 0) (pc := 38) dX12_goOnAnd_38 (by decide) ?_
      cases h
      exact hK
set_option maxRecDepth 4000 in
theorem w_Md_goOnAnd_L0 {V : Sm → Wd} (hV : VwT V) {D0 : Nat} (hD0 : 43 ≤ D0) {rc : Nat → Sm → Option Sm} (hrc : (∀ (S q : Sm), rc 0 S = some q → Runs D0 mX12_unit [.ref 53] (V S) none (V q) 0 0) ∧ (∀ (S q : Sm), rc 1 S = some q → Runs D0 mX12_condition [.ref 53] (V S) none (V q) 0 0) ∧ (∀ (S q : Sm), rc 2 S = some q → Runs D0 mX12_goOnAnd [.ref 53] (V S) none (V q) 0 0) ∧ (∀ (S q : Sm), rc 3 S = some q → Runs D0 mX12_goOnOr [.ref 53] (V S) none (V q) 0 0)) {l : Launch} {Γ : Gm} {rF : Option Value} {wF : Wd}  {k : Nat} {q : Sm} {o : Sm} (h : lpN (Md_goOnAnd_L0 rc) k q = some o) (hP : ps_Md_goOnAnd_L0 V D0 l Γ rF wF o) : hd_Md_goOnAnd_L0 V D0 l Γ rF wF q := lpN_ind2 (hd_Md_goOnAnd_L0 V D0 l Γ rF wF) (ps_Md_goOnAnd_L0 V D0 l Γ rF wF) (fun s o h hK => t_Md_goOnAnd_L0 hV hD0 hrc h hK) k q o h hP
def Md_goOnAnd (rc : Nat → Sm → Option Sm) (S : Sm) : Option (Sm) := ((lpN (Md_goOnAnd_L0 rc) FU S).bind fun q6 => (some q6))
set_option maxRecDepth 4000 in
theorem rb_Md_goOnAnd {V : Sm → Wd} (hV : VwT V) {D0 : Nat} (hD0 : 43 ≤ D0) {rc : Nat → Sm → Option Sm} (hrc : (∀ (S q : Sm), rc 0 S = some q → Runs D0 mX12_unit [.ref 53] (V S) none (V q) 0 0) ∧ (∀ (S q : Sm), rc 1 S = some q → Runs D0 mX12_condition [.ref 53] (V S) none (V q) 0 0) ∧ (∀ (S q : Sm), rc 2 S = some q → Runs D0 mX12_goOnAnd [.ref 53] (V S) none (V q) 0 0) ∧ (∀ (S q : Sm), rc 3 S = some q → Runs D0 mX12_goOnOr [.ref 53] (V S) none (V q) 0 0))  {S : Sm} {q : Sm} (h : Md_goOnAnd rc S = some q) : Runs (D0 + 1) mX12_goOnAnd [.ref 53] (V S) none (V q) 0 0 := by
  unfold Md_goOnAnd at h
  refine Runs.of2 [some (.ref 53)] 0 rfl rfl (Nat.le_of_ble_eq_true rfl) (fun l Γ => ?_)
  obtain ⟨q6, hqq6, h⟩ := bnd h
  refine w_Md_goOnAnd_L0 hV hD0 hrc hqq6 ?_
  unfold ps_Md_goOnAnd_L0
  show G _ _ _ _ _ _ _ _ _ _ _
  cases h
  exact g_vret (pc := 41) dX12_goOnAnd_41 rfl (Nat.le_refl _) (Nat.le_refl _)
def hd_Md_goOnOr_L0 (V : Sm → Wd) (D0 : Nat) (l : Launch) (Γ : Gm) (rF : Option Value) (wF : Wd)  (q : Sm) : Prop := G mX12_goOnOr l Γ (rmD (D0 + 1) 0 0) (mQ Γ rF wF 0 0) 0 0 0 [some (.ref 53)] [] (V q)
def ps_Md_goOnOr_L0 (V : Sm → Wd) (D0 : Nat) (l : Launch) (Γ : Gm) (rF : Option Value) (wF : Wd)  (x : Sm) : Prop := (fun (a : Sm) => G mX12_goOnOr l Γ (rmD (D0 + 1) 0 0) (mQ Γ rF wF 0 0) 0 0 45 [none] [] (V a)) x
def Md_goOnOr_L0 (rc : Nat → Sm → Option Sm) (q : Sm) : Option ((Sm) ⊕ (Sm)) := (if (gi q 53 4) = ((-1)) then ((Md_look q).bind fun q1 => (if q1.1 = 124 then ((rc 0 (si q1.2 53 3 ((gi q1.2 53 3) + 1))).bind fun q2 => ((rc 2 q2).bind fun q3 => ((Md_put 11 0 q3).bind fun q4 => (some (.inl q4))))) else (some (.inr q1.2)))) else (some (.inr q)))
set_option maxRecDepth 4000 in
theorem t_Md_goOnOr_L0 {V : Sm → Wd} (hV : VwT V) {D0 : Nat} (hD0 : 43 ≤ D0) {rc : Nat → Sm → Option Sm} (hrc : (∀ (S q : Sm), rc 0 S = some q → Runs D0 mX12_unit [.ref 53] (V S) none (V q) 0 0) ∧ (∀ (S q : Sm), rc 1 S = some q → Runs D0 mX12_condition [.ref 53] (V S) none (V q) 0 0) ∧ (∀ (S q : Sm), rc 2 S = some q → Runs D0 mX12_goOnAnd [.ref 53] (V S) none (V q) 0 0) ∧ (∀ (S q : Sm), rc 3 S = some q → Runs D0 mX12_goOnOr [.ref 53] (V S) none (V q) 0 0)) {l : Launch} {Γ : Gm} {rF : Option Value} {wF : Wd}  {q : Sm} {o : (Sm) ⊕ (Sm)} (h : Md_goOnOr_L0 rc q = some o) (hK : Sum.elim (hd_Md_goOnOr_L0 V D0 l Γ rF wF) (ps_Md_goOnOr_L0 V D0 l Γ rF wF) o) : hd_Md_goOnOr_L0 V D0 l Γ rF wF q := by
  unfold Md_goOnOr_L0 at h
  unfold hd_Md_goOnOr_L0
  refine g_aload_n (pc := 0) dX12_goOnOr_0 rfl ?_
  refine v_getI hV (pc := 1) dX12_goOnOr_1 fo_12_4 rfl k0_53 own_53 ?_
  refine g_iconst (v := (-1)) (pc := 4) dX12_goOnOr_4 (by decide) ?_
  refine g_icmp_ne (tgt := 45) (pc := 5) dX12_goOnOr_5 (by decide) (fun c6 => ?_) (fun c6 => ?_)
  · rw [if_neg c6] at h
    refine g_wk [false] rfl ?_
    cases h
    exact hK
  · rw [if_pos c6] at h
    refine g_aload_n (pc := 8) dX12_goOnOr_8 rfl ?_
    obtain ⟨q1, hq1, h⟩ := bnd h
    refine v_callVi hV (Mc := mX12_look) (v := q1.1) (S1 := q1.2) (As := []) (rest := []) (q := (RX12, TX12, 58)) (pc := 9) dX12_goOnOr_9 mK_X12_152 mf_X12_look rfl k0_53 rfl rfl rfl (Nat.le_of_ble_eq_true rfl) ⟨by show 1 + 1 ≤ D0 + 1; omega, by show 8 + (1 + 11) + 64 * 1 ≤ 64 * (D0 + 1); omega⟩ (r_Md_look hV hq1) ?_
    refine g_bipush (v := 124) (pc := 12) dX12_goOnOr_12 (by decide) ?_
    refine g_icmp_ne (tgt := 45) (pc := 14) dX12_goOnOr_14 (by decide) (fun c5 => ?_) (fun c5 => ?_)
    · rw [if_neg c5] at h
      refine g_wk [false] rfl ?_
      cases h
      exact hK
    · rw [if_pos c5] at h
      refine g_aload_n (pc := 17) dX12_goOnOr_17 rfl ?_
      refine g_dup (pc := 18) dX12_goOnOr_18 rfl ?_
      refine v_getI hV (pc := 19) dX12_goOnOr_19 fo_12_3 rfl k0_53 own_53 ?_
      refine g_iconst (v := 1) (pc := 22) dX12_goOnOr_22 (by decide) ?_
      refine g_iadd (pc := 23) dX12_goOnOr_23 ?_
      refine v_putI hV (pc := 24) dX12_goOnOr_24 fo_12_3 rfl k0_53 own_53 rfl ?_
      refine g_aload_n (pc := 27) dX12_goOnOr_27 rfl ?_
      obtain ⟨q2, hq2, h⟩ := bnd h
      refine v_callVv hV (Mc := mX12_unit) (S1 := q2) (As := []) (rest := []) (q := (RX12, TX12, 58)) (pc := 28) dX12_goOnOr_28 mK_X12_189 mf_X12_unit rfl k0_53 rfl rfl rfl (Nat.le_of_ble_eq_true rfl) ⟨by show D0 + 1 ≤ D0 + 1; omega, by show 8 + (2 + 11) + 64 * D0 ≤ 64 * (D0 + 1); omega⟩ (hrc.1 _ _ hq2) ?_
      refine g_aload_n (pc := 31) dX12_goOnOr_31 rfl ?_
      obtain ⟨q3, hq3, h⟩ := bnd h
      refine v_callVv hV (Mc := mX12_goOnAnd) (S1 := q3) (As := []) (rest := []) (q := (RX12, TX12, 58)) (pc := 32) dX12_goOnOr_32 mK_X12_198 mf_X12_goOnAnd rfl k0_53 rfl rfl rfl (Nat.le_of_ble_eq_true rfl) ⟨by show D0 + 1 ≤ D0 + 1; omega, by show 8 + (1 + 11) + 64 * D0 ≤ 64 * (D0 + 1); omega⟩ (hrc.2.2.1 _ _ hq3) ?_
      refine g_aload_n (pc := 35) dX12_goOnOr_35 rfl ?_
      refine g_bipush (v := 11) (pc := 36) dX12_goOnOr_36 (by decide) ?_
      refine g_iconst (v := 0) (pc := 38) dX12_goOnOr_38 (by decide) ?_
      obtain ⟨q4, hq4, h⟩ := bnd h
      refine v_callVv hV (Mc := mX12_put) (S1 := q4) (As := [.int 11, .int 0]) (rest := []) (q := (RX12, TX12, 58)) (pc := 39) dX12_goOnOr_39 mK_X12_162 mf_X12_put rfl k0_53 rfl rfl rfl (Nat.le_of_ble_eq_true rfl) ⟨by show 0 + 1 ≤ D0 + 1; omega, by show 8 + (3 + 11) + 64 * 0 ≤ 64 * (D0 + 1); omega⟩ (r_Md_put hV hq4) ?_
      refine g_goto (tgt := 0) (pc := 42) dX12_goOnOr_42 (by decide) ?_
      cases h
      exact hK
set_option maxRecDepth 4000 in
theorem w_Md_goOnOr_L0 {V : Sm → Wd} (hV : VwT V) {D0 : Nat} (hD0 : 43 ≤ D0) {rc : Nat → Sm → Option Sm} (hrc : (∀ (S q : Sm), rc 0 S = some q → Runs D0 mX12_unit [.ref 53] (V S) none (V q) 0 0) ∧ (∀ (S q : Sm), rc 1 S = some q → Runs D0 mX12_condition [.ref 53] (V S) none (V q) 0 0) ∧ (∀ (S q : Sm), rc 2 S = some q → Runs D0 mX12_goOnAnd [.ref 53] (V S) none (V q) 0 0) ∧ (∀ (S q : Sm), rc 3 S = some q → Runs D0 mX12_goOnOr [.ref 53] (V S) none (V q) 0 0)) {l : Launch} {Γ : Gm} {rF : Option Value} {wF : Wd}  {k : Nat} {q : Sm} {o : Sm} (h : lpN (Md_goOnOr_L0 rc) k q = some o) (hP : ps_Md_goOnOr_L0 V D0 l Γ rF wF o) : hd_Md_goOnOr_L0 V D0 l Γ rF wF q := lpN_ind2 (hd_Md_goOnOr_L0 V D0 l Γ rF wF) (ps_Md_goOnOr_L0 V D0 l Γ rF wF) (fun s o h hK => t_Md_goOnOr_L0 hV hD0 hrc h hK) k q o h hP
def Md_goOnOr (rc : Nat → Sm → Option Sm) (S : Sm) : Option (Sm) := ((lpN (Md_goOnOr_L0 rc) FU S).bind fun q7 => (some q7))
set_option maxRecDepth 4000 in
theorem rb_Md_goOnOr {V : Sm → Wd} (hV : VwT V) {D0 : Nat} (hD0 : 43 ≤ D0) {rc : Nat → Sm → Option Sm} (hrc : (∀ (S q : Sm), rc 0 S = some q → Runs D0 mX12_unit [.ref 53] (V S) none (V q) 0 0) ∧ (∀ (S q : Sm), rc 1 S = some q → Runs D0 mX12_condition [.ref 53] (V S) none (V q) 0 0) ∧ (∀ (S q : Sm), rc 2 S = some q → Runs D0 mX12_goOnAnd [.ref 53] (V S) none (V q) 0 0) ∧ (∀ (S q : Sm), rc 3 S = some q → Runs D0 mX12_goOnOr [.ref 53] (V S) none (V q) 0 0))  {S : Sm} {q : Sm} (h : Md_goOnOr rc S = some q) : Runs (D0 + 1) mX12_goOnOr [.ref 53] (V S) none (V q) 0 0 := by
  unfold Md_goOnOr at h
  refine Runs.of2 [some (.ref 53)] 0 rfl rfl (Nat.le_of_ble_eq_true rfl) (fun l Γ => ?_)
  obtain ⟨q7, hqq7, h⟩ := bnd h
  refine w_Md_goOnOr_L0 hV hD0 hrc hqq7 ?_
  unfold ps_Md_goOnOr_L0
  show G _ _ _ _ _ _ _ _ _ _ _
  cases h
  exact g_vret (pc := 45) dX12_goOnOr_45 rfl (Nat.le_refl _) (Nat.le_refl _)
def fMu : Nat → Nat → Sm → Option Sm
  | 0, _, _ => none
  | D + 1, i, S => if i = 0 then Md_unit (fMu D) S else if i = 1 then Md_condition (fMu D) S else if i = 2 then Md_goOnAnd (fMu D) S else Md_goOnOr (fMu D) S
set_option maxRecDepth 4000 in
theorem fMu_ok {V : Sm → Wd} (hV : VwT V) : ∀ D : Nat, (∀ (S q : Sm), fMu D 0 S = some q → Runs (43 + D) mX12_unit [.ref 53] (V S) none (V q) 0 0) ∧ (∀ (S q : Sm), fMu D 1 S = some q → Runs (43 + D) mX12_condition [.ref 53] (V S) none (V q) 0 0) ∧ (∀ (S q : Sm), fMu D 2 S = some q → Runs (43 + D) mX12_goOnAnd [.ref 53] (V S) none (V q) 0 0) ∧ (∀ (S q : Sm), fMu D 3 S = some q → Runs (43 + D) mX12_goOnOr [.ref 53] (V S) none (V q) 0 0)
  | 0 => ⟨fun _ _ h => (by cases h), fun _ _ h => (by cases h), fun _ _ h => (by cases h), fun _ _ h => (by cases h)⟩
  | D + 1 => ⟨fun S q h => rb_Md_unit hV (D0 := 43 + D) (by omega) (fMu_ok hV D) h, fun S q h => rb_Md_condition hV (D0 := 43 + D) (by omega) (fMu_ok hV D) h, fun S q h => rb_Md_goOnAnd hV (D0 := 43 + D) (by omega) (fMu_ok hV D) h, fun S q h => rb_Md_goOnOr hV (D0 := 43 + D) (by omega) (fMu_ok hV D) h⟩
def Md_unit_r  (S : Sm) : Option Sm := fMu 40 0 S
set_option maxRecDepth 4000 in
theorem r_Md_unit_r {V : Sm → Wd} (hV : VwT V)  {S q : Sm} (h : Md_unit_r S = some q) : Runs 83 mX12_unit [.ref 53] (V S) none (V q) 0 0 := (fMu_ok hV 40).1 _ _ h
def Md_condition_r  (S : Sm) : Option Sm := fMu 40 1 S
set_option maxRecDepth 4000 in
theorem r_Md_condition_r {V : Sm → Wd} (hV : VwT V)  {S q : Sm} (h : Md_condition_r S = some q) : Runs 83 mX12_condition [.ref 53] (V S) none (V q) 0 0 := (fMu_ok hV 40).2.1 _ _ h
def Md_goOnAnd_r  (S : Sm) : Option Sm := fMu 40 2 S
set_option maxRecDepth 4000 in
theorem r_Md_goOnAnd_r {V : Sm → Wd} (hV : VwT V)  {S q : Sm} (h : Md_goOnAnd_r S = some q) : Runs 83 mX12_goOnAnd [.ref 53] (V S) none (V q) 0 0 := (fMu_ok hV 40).2.2.1 _ _ h
def Md_goOnOr_r  (S : Sm) : Option Sm := fMu 40 3 S
set_option maxRecDepth 4000 in
theorem r_Md_goOnOr_r {V : Sm → Wd} (hV : VwT V)  {S q : Sm} (h : Md_goOnOr_r S = some q) : Runs 83 mX12_goOnOr [.ref 53] (V S) none (V q) 0 0 := (fMu_ok hV 40).2.2.2 _ _ h
def Md_clause_251 (v1 : Int32) (S : Sm) : Option (Sm) := (if inb (gi S 53 14) 5 then (if inb v1 700 then (if inb (gi (si S 61 (ix v1) (gi S 57 (ix (gi S 53 14)))) 53 14) 5 then (if inb (gi (si S 61 (ix v1) (gi S 57 (ix (gi S 53 14)))) 53 14) 5 then (some (si (si S 61 (ix v1) (gi S 57 (ix (gi S 53 14)))) 58 (ix (gi (si S 61 (ix v1) (gi S 57 (ix (gi S 53 14)))) 53 14)) ((gi (si S 61 (ix v1) (gi S 57 (ix (gi S 53 14)))) 58 (ix (gi (si S 61 (ix v1) (gi S 57 (ix (gi S 53 14)))) 53 14))) + 1))) else none) else none) else none) else none)
set_option maxRecDepth 4000 in
theorem t_Md_clause_251 {V : Sm → Wd} (hV : VwT V) {l : Launch} {Γ : Gm} {v1 : Int32} {S : Sm} {q : Sm} (h : Md_clause_251 v1 S = some q) : G mX12_clause l Γ (rmD 84 0 0) (mQ Γ none (V q) 0 0) 0 0 251 [some (.ref 53), some (.int v1), none] [] (V S) := by
  unfold Md_clause_251 at h
  refine g_aload_n (pc := 251) dX12_clause_251 rfl ?_
  refine v_getR hV (pc := 252) dX12_clause_252 fo_12_12 rfl k0_53 r0_53_12 ?_
  refine g_iload_n (pc := 255) dX12_clause_255 rfl ?_
  refine g_aload_n (pc := 256) dX12_clause_256 rfl ?_
  refine v_getR hV (pc := 257) dX12_clause_257 fo_12_8 rfl k0_53 r0_53_8 ?_
  refine g_aload_n (pc := 260) dX12_clause_260 rfl ?_
  refine v_getI hV (pc := 261) dX12_clause_261 fo_12_14 rfl k0_53 own_53 ?_
  by_cases c8 : inb (gi S 53 14) 5
  · rw [if_pos c8] at h
    refine v_iald hV (pc := 264) dX12_clause_264 k0_57 own_57 c8 ?_
    by_cases c9 : inb v1 700
    · rw [if_pos c9] at h
      refine v_iast hV (pc := 265) dX12_clause_265 k0_61 own_61 c9 ?_
      refine g_aload_n (pc := 266) dX12_clause_266 rfl ?_
      refine v_getR hV (pc := 267) dX12_clause_267 fo_12_9 rfl k0_53 r0_53_9 ?_
      refine g_aload_n (pc := 270) dX12_clause_270 rfl ?_
      refine v_getI hV (pc := 271) dX12_clause_271 fo_12_14 rfl k0_53 own_53 ?_
      refine g_dup2 (pc := 274) dX12_clause_274 rfl rfl ?_
      by_cases c10 : inb (gi (si S 61 (ix v1) (gi S 57 (ix (gi S 53 14)))) 53 14) 5
      · rw [if_pos c10] at h
        refine v_iald hV (pc := 275) dX12_clause_275 k0_58 own_58 c10 ?_
        refine g_iconst (v := 1) (pc := 276) dX12_clause_276 (by decide) ?_
        refine g_iadd (pc := 277) dX12_clause_277 ?_
        by_cases c11 : inb (gi (si S 61 (ix v1) (gi S 57 (ix (gi S 53 14)))) 53 14) 5
        · rw [if_pos c11] at h
          refine v_iast hV (pc := 278) dX12_clause_278 k0_58 own_58 c11 ?_
          cases h
          exact g_vret (pc := 279) dX12_clause_279 rfl (Nat.le_refl _) (Nat.le_refl _)
        · rw [if_neg c11] at h; cases h
      · rw [if_neg c10] at h; cases h
    · rw [if_neg c9] at h; cases h
  · rw [if_neg c8] at h; cases h
def Md_clause_184 (v1 : Int32) (v2 : Int32) (S : Sm) : Option (Sm) := (if inb v1 700 then (if inb v1 700 then (if v2 = 0 then (Md_clause_251 v1 (si S 60 (ix v1) (gi S 59 (ix v1)))) else (if (gi (si S 60 (ix v1) (gi S 59 (ix v1))) 53 4) = ((-1)) then ((Md_look (si S 60 (ix v1) (gi S 59 (ix v1)))).bind fun q12 => (if q12.1 = 63 then (if inb (gi (si q12.2 53 3 ((gi q12.2 53 3) + 1)) 53 14) 5 then (if inb v1 700 then ((Md_sum_r (si (si q12.2 53 3 ((gi q12.2 53 3) + 1)) 60 (ix v1) (gi (si q12.2 53 3 ((gi q12.2 53 3) + 1)) 57 (ix (gi (si q12.2 53 3 ((gi q12.2 53 3) + 1)) 53 14))))).bind fun q15 => (Md_clause_251 v1 q15)) else none) else none) else (app (Md_bad q12.2) fun q16 => (some q16)))) else (Md_clause_251 v1 (si S 60 (ix v1) (gi S 59 (ix v1)))))) else none) else none)
set_option maxRecDepth 4000 in
theorem t_Md_clause_184 {V : Sm → Wd} (hV : VwT V) {l : Launch} {Γ : Gm} {v1 : Int32} {v2 : Int32} {S : Sm} {q : Sm} (h : Md_clause_184 v1 v2 S = some q) : G mX12_clause l Γ (rmD 84 0 0) (mQ Γ none (V q) 0 0) 0 0 184 [some (.ref 53), some (.int v1), some (.int v2)] [] (V S) := by
  unfold Md_clause_184 at h
  refine g_aload_n (pc := 184) dX12_clause_184 rfl ?_
  refine v_getR hV (pc := 185) dX12_clause_185 fo_12_11 rfl k0_53 r0_53_11 ?_
  refine g_iload_n (pc := 188) dX12_clause_188 rfl ?_
  refine g_aload_n (pc := 189) dX12_clause_189 rfl ?_
  refine v_getR hV (pc := 190) dX12_clause_190 fo_12_10 rfl k0_53 r0_53_10 ?_
  refine g_iload_n (pc := 193) dX12_clause_193 rfl ?_
  by_cases c6 : inb v1 700
  · rw [if_pos c6] at h
    refine v_iald hV (pc := 194) dX12_clause_194 k0_59 own_59 c6 ?_
    by_cases c7 : inb v1 700
    · rw [if_pos c7] at h
      refine v_iast hV (pc := 195) dX12_clause_195 k0_60 own_60 c7 ?_
      refine g_iload_n (pc := 196) dX12_clause_196 rfl ?_
      refine g_if_eq (tgt := 251) (pc := 197) dX12_clause_197 (by decide) (fun c19 => ?_) (fun c19 => ?_)
      · rw [if_pos c19] at h
        refine g_wk [true, true, false] rfl ?_
        exact t_Md_clause_251 hV h
      · rw [if_neg c19] at h
        refine g_aload_n (pc := 200) dX12_clause_200 rfl ?_
        refine v_getI hV (pc := 201) dX12_clause_201 fo_12_4 rfl k0_53 own_53 ?_
        refine g_iconst (v := (-1)) (pc := 204) dX12_clause_204 (by decide) ?_
        refine g_icmp_ne (tgt := 251) (pc := 205) dX12_clause_205 (by decide) (fun c18 => ?_) (fun c18 => ?_)
        · rw [if_neg c18] at h
          refine g_wk [true, true, false] rfl ?_
          exact t_Md_clause_251 hV h
        · rw [if_pos c18] at h
          refine g_aload_n (pc := 208) dX12_clause_208 rfl ?_
          obtain ⟨q12, hq12, h⟩ := bnd h
          refine v_callVi hV (Mc := mX12_look) (v := q12.1) (S1 := q12.2) (As := []) (rest := []) (q := (RX12, TX12, 58)) (pc := 209) dX12_clause_209 mK_X12_152 mf_X12_look rfl k0_53 rfl rfl rfl (Nat.le_of_ble_eq_true rfl) ⟨Nat.le_of_ble_eq_true rfl, Nat.le_of_ble_eq_true rfl⟩ (r_Md_look hV hq12) ?_
          refine g_bipush (v := 63) (pc := 212) dX12_clause_212 (by decide) ?_
          refine g_icmp_eq (tgt := 222) (pc := 214) dX12_clause_214 (by decide) (fun c17 => ?_) (fun c17 => ?_)
          · rw [if_pos c17] at h
            refine g_aload_n (pc := 222) dX12_clause_222 rfl ?_
            refine g_dup (pc := 223) dX12_clause_223 rfl ?_
            refine v_getI hV (pc := 224) dX12_clause_224 fo_12_3 rfl k0_53 own_53 ?_
            refine g_iconst (v := 1) (pc := 227) dX12_clause_227 (by decide) ?_
            refine g_iadd (pc := 228) dX12_clause_228 ?_
            refine v_putI hV (pc := 229) dX12_clause_229 fo_12_3 rfl k0_53 own_53 rfl ?_
            refine g_aload_n (pc := 232) dX12_clause_232 rfl ?_
            refine v_getR hV (pc := 233) dX12_clause_233 fo_12_11 rfl k0_53 r0_53_11 ?_
            refine g_iload_n (pc := 236) dX12_clause_236 rfl ?_
            refine g_aload_n (pc := 237) dX12_clause_237 rfl ?_
            refine v_getR hV (pc := 238) dX12_clause_238 fo_12_8 rfl k0_53 r0_53_8 ?_
            refine g_aload_n (pc := 241) dX12_clause_241 rfl ?_
            refine v_getI hV (pc := 242) dX12_clause_242 fo_12_14 rfl k0_53 own_53 ?_
            by_cases c13 : inb (gi (si q12.2 53 3 ((gi q12.2 53 3) + 1)) 53 14) 5
            · rw [if_pos c13] at h
              refine v_iald hV (pc := 245) dX12_clause_245 k0_57 own_57 c13 ?_
              by_cases c14 : inb v1 700
              · rw [if_pos c14] at h
                refine v_iast hV (pc := 246) dX12_clause_246 k0_60 own_60 c14 ?_
                refine g_aload_n (pc := 247) dX12_clause_247 rfl ?_
                obtain ⟨q15, hq15, h⟩ := bnd h
                refine v_callVv hV (Mc := mX12_sum) (S1 := q15) (As := []) (rest := []) (q := (RX12, TX12, 58)) (pc := 248) dX12_clause_248 mK_X12_173 mf_X12_sum rfl k0_53 rfl rfl rfl (Nat.le_of_ble_eq_true rfl) ⟨Nat.le_of_ble_eq_true rfl, Nat.le_of_ble_eq_true rfl⟩ (r_Md_sum_r hV hq15) ?_
                refine g_wk [true, true, false] rfl ?_
                exact t_Md_clause_251 hV h
              · rw [if_neg c14] at h; cases h
            · rw [if_neg c13] at h; cases h
          · rw [if_neg c17] at h
            refine g_aload_n (pc := 217) dX12_clause_217 rfl ?_
            obtain ⟨q16, hq16, h⟩ := app_of h
            refine v_callVv hV (Mc := mX12_bad) (S1 := q16) (As := []) (rest := []) (q := (RX12, TX12, 58)) (pc := 218) dX12_clause_218 mK_X12_149 mf_X12_bad rfl k0_53 rfl rfl rfl (Nat.le_of_ble_eq_true rfl) ⟨Nat.le_of_ble_eq_true rfl, Nat.le_of_ble_eq_true rfl⟩ (r_Md_bad hV hq16) ?_
            cases h
            exact g_vret (pc := 221) dX12_clause_221 rfl (Nat.le_refl _) (Nat.le_refl _)
    · rw [if_neg c7] at h; cases h
  · rw [if_neg c6] at h; cases h
def Md_clause_167 (v1 : Int32) (s0 : Int32) (S : Sm) : Option (Sm) := (if s0 = 0 then (Md_clause_184 v1 s0 S) else ((Md_compare S).bind fun q20 => ((Md_goOnAnd_r q20).bind fun q21 => ((Md_goOnOr_r q21).bind fun q22 => (Md_clause_184 v1 s0 q22)))))
set_option maxRecDepth 4000 in
theorem t_Md_clause_167 {V : Sm → Wd} (hV : VwT V) {l : Launch} {Γ : Gm} {v1 : Int32} {s0 : Int32} {S : Sm} {q : Sm} (h : Md_clause_167 v1 s0 S = some q) : G mX12_clause l Γ (rmD 84 0 0) (mQ Γ none (V q) 0 0) 0 0 167 [some (.ref 53), some (.int v1), none] [.int s0] (V S) := by
  unfold Md_clause_167 at h
  refine g_istore_n (ls1 := [some (.ref 53), some (.int v1), some (.int s0)]) (pc := 167) dX12_clause_167 (by decide) rfl ?_
  refine g_iload_n (pc := 168) dX12_clause_168 rfl ?_
  refine g_if_eq (tgt := 184) (pc := 169) dX12_clause_169 (by decide) (fun c23 => ?_) (fun c23 => ?_)
  · rw [if_pos c23] at h
    exact t_Md_clause_184 hV h
  · rw [if_neg c23] at h
    refine g_aload_n (pc := 172) dX12_clause_172 rfl ?_
    obtain ⟨q20, hq20, h⟩ := bnd h
    refine v_callVv hV (Mc := mX12_compare) (S1 := q20) (As := []) (rest := []) (q := (RX12, TX12, 58)) (pc := 173) dX12_clause_173 mK_X12_195 mf_X12_compare rfl k0_53 rfl rfl rfl (Nat.le_of_ble_eq_true rfl) ⟨Nat.le_of_ble_eq_true rfl, Nat.le_of_ble_eq_true rfl⟩ (r_Md_compare hV hq20) ?_
    refine g_aload_n (pc := 176) dX12_clause_176 rfl ?_
    obtain ⟨q21, hq21, h⟩ := bnd h
    refine v_callVv hV (Mc := mX12_goOnAnd) (S1 := q21) (As := []) (rest := []) (q := (RX12, TX12, 58)) (pc := 177) dX12_clause_177 mK_X12_198 mf_X12_goOnAnd rfl k0_53 rfl rfl rfl (Nat.le_of_ble_eq_true rfl) ⟨Nat.le_of_ble_eq_true rfl, Nat.le_of_ble_eq_true rfl⟩ (r_Md_goOnAnd_r hV hq21) ?_
    refine g_aload_n (pc := 180) dX12_clause_180 rfl ?_
    obtain ⟨q22, hq22, h⟩ := bnd h
    refine v_callVv hV (Mc := mX12_goOnOr) (S1 := q22) (As := []) (rest := []) (q := (RX12, TX12, 58)) (pc := 181) dX12_clause_181 mK_X12_201 mf_X12_goOnOr rfl k0_53 rfl rfl rfl (Nat.le_of_ble_eq_true rfl) ⟨Nat.le_of_ble_eq_true rfl, Nat.le_of_ble_eq_true rfl⟩ (r_Md_goOnOr_r hV hq22) ?_
    exact t_Md_clause_184 hV h
def Md_clause_166 (v1 : Int32) (S : Sm) : Option (Sm) := (Md_clause_167 v1 0 S)
set_option maxRecDepth 4000 in
theorem t_Md_clause_166 {V : Sm → Wd} (hV : VwT V) {l : Launch} {Γ : Gm} {v1 : Int32} {S : Sm} {q : Sm} (h : Md_clause_166 v1 S = some q) : G mX12_clause l Γ (rmD 84 0 0) (mQ Γ none (V q) 0 0) 0 0 166 [some (.ref 53), some (.int v1), none] [] (V S) := by
  unfold Md_clause_166 at h
  refine g_iconst (v := 0) (pc := 166) dX12_clause_166 (by decide) ?_
  exact t_Md_clause_167 hV h
def Md_clause_128 (v1 : Int32) (s0 : Int32) (S : Sm) : Option (Sm) := (if s0 = 0 then ((Md_sum_r S).bind fun q5 => (if (gi q5 53 4) = ((-1)) then ((Md_look q5).bind fun q24 => (if (Md_isSign q24.1) = 0 then (Md_clause_166 v1 q24.2) else (Md_clause_167 v1 1 q24.2))) else (Md_clause_166 v1 q5))) else ((Md_condition_r S).bind fun q27 => (Md_clause_184 v1 s0 q27)))
set_option maxRecDepth 4000 in
theorem t_Md_clause_128 {V : Sm → Wd} (hV : VwT V) {l : Launch} {Γ : Gm} {v1 : Int32} {s0 : Int32} {S : Sm} {q : Sm} (h : Md_clause_128 v1 s0 S = some q) : G mX12_clause l Γ (rmD 84 0 0) (mQ Γ none (V q) 0 0) 0 0 128 [some (.ref 53), some (.int v1), none] [.int s0] (V S) := by
  unfold Md_clause_128 at h
  refine g_istore_n (ls1 := [some (.ref 53), some (.int v1), some (.int s0)]) (pc := 128) dX12_clause_128 (by decide) rfl ?_
  refine g_iload_n (pc := 129) dX12_clause_129 rfl ?_
  refine g_if_eq (tgt := 140) (pc := 130) dX12_clause_130 (by decide) (fun c28 => ?_) (fun c28 => ?_)
  · rw [if_pos c28] at h
    refine g_aload_n (pc := 140) dX12_clause_140 rfl ?_
    obtain ⟨q5, hq5, h⟩ := bnd h
    refine v_callVv hV (Mc := mX12_sum) (S1 := q5) (As := []) (rest := []) (q := (RX12, TX12, 58)) (pc := 141) dX12_clause_141 mK_X12_173 mf_X12_sum rfl k0_53 rfl rfl rfl (Nat.le_of_ble_eq_true rfl) ⟨Nat.le_of_ble_eq_true rfl, Nat.le_of_ble_eq_true rfl⟩ (r_Md_sum_r hV hq5) ?_
    refine g_aload_n (pc := 144) dX12_clause_144 rfl ?_
    refine v_getI hV (pc := 145) dX12_clause_145 fo_12_4 rfl k0_53 own_53 ?_
    refine g_iconst (v := (-1)) (pc := 148) dX12_clause_148 (by decide) ?_
    refine g_icmp_ne (tgt := 166) (pc := 149) dX12_clause_149 (by decide) (fun c26 => ?_) (fun c26 => ?_)
    · rw [if_neg c26] at h
      refine g_wk [true, true, false] rfl ?_
      exact t_Md_clause_166 hV h
    · rw [if_pos c26] at h
      refine g_aload_n (pc := 152) dX12_clause_152 rfl ?_
      obtain ⟨q24, hq24, h⟩ := bnd h
      refine v_callVi hV (Mc := mX12_look) (v := q24.1) (S1 := q24.2) (As := []) (rest := []) (q := (RX12, TX12, 58)) (pc := 153) dX12_clause_153 mK_X12_152 mf_X12_look rfl k0_53 rfl rfl rfl (Nat.le_of_ble_eq_true rfl) ⟨Nat.le_of_ble_eq_true rfl, Nat.le_of_ble_eq_true rfl⟩ (r_Md_look hV hq24) ?_
      refine v_callSi (Mc := mX12_isSign) (v := Md_isSign q24.1) (S1 := q24.2) (As := [.int q24.1]) (rest := []) (pc := 156) dX12_clause_156 mK_X12_186 mf_X12_isSign rfl rfl (Nat.le_of_ble_eq_true rfl) ⟨Nat.le_of_ble_eq_true rfl, Nat.le_of_ble_eq_true rfl⟩ (r_Md_isSign hV rfl) ?_
      refine g_if_eq (tgt := 166) (pc := 159) dX12_clause_159 (by decide) (fun c25 => ?_) (fun c25 => ?_)
      · rw [if_pos c25] at h
        refine g_wk [true, true, false] rfl ?_
        exact t_Md_clause_166 hV h
      · rw [if_neg c25] at h
        refine g_iconst (v := 1) (pc := 162) dX12_clause_162 (by decide) ?_
        refine g_goto (tgt := 167) (pc := 163) dX12_clause_163 (by decide) ?_
        refine g_wk [true, true, false] rfl ?_
        exact t_Md_clause_167 hV h
  · rw [if_neg c28] at h
    refine g_aload_n (pc := 133) dX12_clause_133 rfl ?_
    obtain ⟨q27, hq27, h⟩ := bnd h
    refine v_callVv hV (Mc := mX12_condition) (S1 := q27) (As := []) (rest := []) (q := (RX12, TX12, 58)) (pc := 134) dX12_clause_134 mK_X12_192 mf_X12_condition rfl k0_53 rfl rfl rfl (Nat.le_of_ble_eq_true rfl) ⟨Nat.le_of_ble_eq_true rfl, Nat.le_of_ble_eq_true rfl⟩ (r_Md_condition_r hV hq27) ?_
    refine g_goto (tgt := 184) (pc := 137) dX12_clause_137 (by decide) ?_
    exact t_Md_clause_184 hV h
def Md_clause_123 (v1 : Int32) (S : Sm) : Option (Sm) := (Md_clause_128 v1 1 S)
set_option maxRecDepth 4000 in
theorem t_Md_clause_123 {V : Sm → Wd} (hV : VwT V) {l : Launch} {Γ : Gm} {v1 : Int32} {S : Sm} {q : Sm} (h : Md_clause_123 v1 S = some q) : G mX12_clause l Γ (rmD 84 0 0) (mQ Γ none (V q) 0 0) 0 0 123 [some (.ref 53), some (.int v1), none] [] (V S) := by
  unfold Md_clause_123 at h
  refine g_iconst (v := 1) (pc := 123) dX12_clause_123 (by decide) ?_
  refine g_goto (tgt := 128) (pc := 124) dX12_clause_124 (by decide) ?_
  exact t_Md_clause_128 hV h
def Md_clause_71 (v1 : Int32) (S : Sm) : Option (Sm) := (if (gi (si S 53 3 ((gi S 53 3) + 1)) 53 4) = ((-1)) then (if inb (gi (si S 53 3 ((gi S 53 3) + 1)) 53 14) 5 then (if inb v1 700 then ((Md_look (si (si S 53 3 ((gi S 53 3) + 1)) 59 (ix v1) (gi (si S 53 3 ((gi S 53 3) + 1)) 57 (ix (gi (si S 53 3 ((gi S 53 3) + 1)) 53 14))))).bind fun q4 => (if q4.1 = 33 then (Md_clause_123 v1 q4.2) else ((Md_look q4.2).bind fun q29 => (if q29.1 = 40 then (Md_clause_123 v1 q29.2) else (Md_clause_128 v1 0 q29.2))))) else none) else none) else (some (si S 53 3 ((gi S 53 3) + 1))))
set_option maxRecDepth 4000 in
theorem t_Md_clause_71 {V : Sm → Wd} (hV : VwT V) {l : Launch} {Γ : Gm} {v1 : Int32} {S : Sm} {q : Sm} (h : Md_clause_71 v1 S = some q) : G mX12_clause l Γ (rmD 84 0 0) (mQ Γ none (V q) 0 0) 0 0 71 [some (.ref 53), some (.int v1), none] [] (V S) := by
  unfold Md_clause_71 at h
  refine g_aload_n (pc := 71) dX12_clause_71 rfl ?_
  refine g_dup (pc := 72) dX12_clause_72 rfl ?_
  refine v_getI hV (pc := 73) dX12_clause_73 fo_12_3 rfl k0_53 own_53 ?_
  refine g_iconst (v := 1) (pc := 76) dX12_clause_76 (by decide) ?_
  refine g_iadd (pc := 77) dX12_clause_77 ?_
  refine v_putI hV (pc := 78) dX12_clause_78 fo_12_3 rfl k0_53 own_53 rfl ?_
  refine g_aload_n (pc := 81) dX12_clause_81 rfl ?_
  refine v_getI hV (pc := 82) dX12_clause_82 fo_12_4 rfl k0_53 own_53 ?_
  refine g_iconst (v := (-1)) (pc := 85) dX12_clause_85 (by decide) ?_
  refine g_icmp_eq (tgt := 90) (pc := 86) dX12_clause_86 (by decide) (fun c32 => ?_) (fun c32 => ?_)
  · rw [if_pos c32] at h
    refine g_aload_n (pc := 90) dX12_clause_90 rfl ?_
    refine v_getR hV (pc := 91) dX12_clause_91 fo_12_10 rfl k0_53 r0_53_10 ?_
    refine g_iload_n (pc := 94) dX12_clause_94 rfl ?_
    refine g_aload_n (pc := 95) dX12_clause_95 rfl ?_
    refine v_getR hV (pc := 96) dX12_clause_96 fo_12_8 rfl k0_53 r0_53_8 ?_
    refine g_aload_n (pc := 99) dX12_clause_99 rfl ?_
    refine v_getI hV (pc := 100) dX12_clause_100 fo_12_14 rfl k0_53 own_53 ?_
    by_cases c2 : inb (gi (si S 53 3 ((gi S 53 3) + 1)) 53 14) 5
    · rw [if_pos c2] at h
      refine v_iald hV (pc := 103) dX12_clause_103 k0_57 own_57 c2 ?_
      by_cases c3 : inb v1 700
      · rw [if_pos c3] at h
        refine v_iast hV (pc := 104) dX12_clause_104 k0_59 own_59 c3 ?_
        refine g_aload_n (pc := 105) dX12_clause_105 rfl ?_
        obtain ⟨q4, hq4, h⟩ := bnd h
        refine v_callVi hV (Mc := mX12_look) (v := q4.1) (S1 := q4.2) (As := []) (rest := []) (q := (RX12, TX12, 58)) (pc := 106) dX12_clause_106 mK_X12_152 mf_X12_look rfl k0_53 rfl rfl rfl (Nat.le_of_ble_eq_true rfl) ⟨Nat.le_of_ble_eq_true rfl, Nat.le_of_ble_eq_true rfl⟩ (r_Md_look hV hq4) ?_
        refine g_bipush (v := 33) (pc := 109) dX12_clause_109 (by decide) ?_
        refine g_icmp_eq (tgt := 123) (pc := 111) dX12_clause_111 (by decide) (fun c31 => ?_) (fun c31 => ?_)
        · rw [if_pos c31] at h
          exact t_Md_clause_123 hV h
        · rw [if_neg c31] at h
          refine g_aload_n (pc := 114) dX12_clause_114 rfl ?_
          obtain ⟨q29, hq29, h⟩ := bnd h
          refine v_callVi hV (Mc := mX12_look) (v := q29.1) (S1 := q29.2) (As := []) (rest := []) (q := (RX12, TX12, 58)) (pc := 115) dX12_clause_115 mK_X12_152 mf_X12_look rfl k0_53 rfl rfl rfl (Nat.le_of_ble_eq_true rfl) ⟨Nat.le_of_ble_eq_true rfl, Nat.le_of_ble_eq_true rfl⟩ (r_Md_look hV hq29) ?_
          refine g_bipush (v := 40) (pc := 118) dX12_clause_118 (by decide) ?_
          refine g_icmp_ne (tgt := 127) (pc := 120) dX12_clause_120 (by decide) (fun c30 => ?_) (fun c30 => ?_)
          · rw [if_neg c30] at h
            refine g_iconst (v := 0) (pc := 127) dX12_clause_127 (by decide) ?_
            exact t_Md_clause_128 hV h
          · rw [if_pos c30] at h
            exact t_Md_clause_123 hV h
      · rw [if_neg c3] at h; cases h
    · rw [if_neg c2] at h; cases h
  · rw [if_neg c32] at h
    cases h
    exact g_vret (pc := 89) dX12_clause_89 rfl (Nat.le_refl _) (Nat.le_refl _)
def Md_clause_40 (v1 : Int32) (S : Sm) : Option (Sm) := (if (gi (si S 53 3 ((gi S 53 3) + 1)) 53 4) = ((-1)) then ((Md_look (si S 53 3 ((gi S 53 3) + 1))).bind fun q33 => (if q33.1 = 58 then (Md_clause_71 v1 q33.2) else (app (Md_bad q33.2) fun q34 => (Md_clause_71 v1 q34)))) else (Md_clause_71 v1 (si S 53 3 ((gi S 53 3) + 1))))
set_option maxRecDepth 4000 in
theorem t_Md_clause_40 {V : Sm → Wd} (hV : VwT V) {l : Launch} {Γ : Gm} {v1 : Int32} {S : Sm} {q : Sm} (h : Md_clause_40 v1 S = some q) : G mX12_clause l Γ (rmD 84 0 0) (mQ Γ none (V q) 0 0) 0 0 40 [some (.ref 53), some (.int v1), none] [] (V S) := by
  unfold Md_clause_40 at h
  refine g_aload_n (pc := 40) dX12_clause_40 rfl ?_
  refine g_dup (pc := 41) dX12_clause_41 rfl ?_
  refine v_getI hV (pc := 42) dX12_clause_42 fo_12_3 rfl k0_53 own_53 ?_
  refine g_iconst (v := 1) (pc := 45) dX12_clause_45 (by decide) ?_
  refine g_iadd (pc := 46) dX12_clause_46 ?_
  refine v_putI hV (pc := 47) dX12_clause_47 fo_12_3 rfl k0_53 own_53 rfl ?_
  refine g_aload_n (pc := 50) dX12_clause_50 rfl ?_
  refine v_getI hV (pc := 51) dX12_clause_51 fo_12_4 rfl k0_53 own_53 ?_
  refine g_iconst (v := (-1)) (pc := 54) dX12_clause_54 (by decide) ?_
  refine g_icmp_ne (tgt := 71) (pc := 55) dX12_clause_55 (by decide) (fun c36 => ?_) (fun c36 => ?_)
  · rw [if_neg c36] at h
    exact t_Md_clause_71 hV h
  · rw [if_pos c36] at h
    refine g_aload_n (pc := 58) dX12_clause_58 rfl ?_
    obtain ⟨q33, hq33, h⟩ := bnd h
    refine v_callVi hV (Mc := mX12_look) (v := q33.1) (S1 := q33.2) (As := []) (rest := []) (q := (RX12, TX12, 58)) (pc := 59) dX12_clause_59 mK_X12_152 mf_X12_look rfl k0_53 rfl rfl rfl (Nat.le_of_ble_eq_true rfl) ⟨Nat.le_of_ble_eq_true rfl, Nat.le_of_ble_eq_true rfl⟩ (r_Md_look hV hq33) ?_
    refine g_bipush (v := 58) (pc := 62) dX12_clause_62 (by decide) ?_
    refine g_icmp_eq (tgt := 71) (pc := 64) dX12_clause_64 (by decide) (fun c35 => ?_) (fun c35 => ?_)
    · rw [if_pos c35] at h
      exact t_Md_clause_71 hV h
    · rw [if_neg c35] at h
      refine g_aload_n (pc := 67) dX12_clause_67 rfl ?_
      obtain ⟨q34, hq34, h⟩ := app_of h
      refine v_callVv hV (Mc := mX12_bad) (S1 := q34) (As := []) (rest := []) (q := (RX12, TX12, 58)) (pc := 68) dX12_clause_68 mK_X12_149 mf_X12_bad rfl k0_53 rfl rfl rfl (Nat.le_of_ble_eq_true rfl) ⟨Nat.le_of_ble_eq_true rfl, Nat.le_of_ble_eq_true rfl⟩ (r_Md_bad hV hq34) ?_
      exact t_Md_clause_71 hV h
def Md_clause (S : Sm) : Option (Sm) := (if inb (gi S 53 14) 5 then (if (gi S 53 4) = ((-1)) then ((Md_look S).bind fun q37 => (if q37.1 = 121 then (Md_clause_40 ((140 * (gi S 53 14)) + (gi S 58 (ix (gi S 53 14)))) q37.2) else (app (Md_bad q37.2) fun q38 => (Md_clause_40 ((140 * (gi S 53 14)) + (gi S 58 (ix (gi S 53 14)))) q38)))) else (Md_clause_40 ((140 * (gi S 53 14)) + (gi S 58 (ix (gi S 53 14)))) S)) else none)
set_option maxRecDepth 4000 in
theorem r_Md_clause {V : Sm → Wd} (hV : VwT V)  {S : Sm} {q : Sm} (h : Md_clause S = some q) : Runs 84 mX12_clause [.ref 53] (V S) none (V q) 0 0 := by
  unfold Md_clause at h
  refine Runs.of2 [some (.ref 53), none, none] 2 rfl rfl (Nat.le_of_ble_eq_true rfl) (fun l Γ => ?_)
  refine g_sipush (v := 140) (pc := 0) dX12_clause_0 (by decide) ?_
  refine g_aload_n (pc := 3) dX12_clause_3 rfl ?_
  refine v_getI hV (pc := 4) dX12_clause_4 fo_12_14 rfl k0_53 own_53 ?_
  refine g_imul (pc := 7) dX12_clause_7 ?_
  refine g_aload_n (pc := 8) dX12_clause_8 rfl ?_
  refine v_getR hV (pc := 9) dX12_clause_9 fo_12_9 rfl k0_53 r0_53_9 ?_
  refine g_aload_n (pc := 12) dX12_clause_12 rfl ?_
  refine v_getI hV (pc := 13) dX12_clause_13 fo_12_14 rfl k0_53 own_53 ?_
  by_cases c1 : inb (gi S 53 14) 5
  · rw [if_pos c1] at h
    refine v_iald hV (pc := 16) dX12_clause_16 k0_58 own_58 c1 ?_
    refine g_iadd (pc := 17) dX12_clause_17 ?_
    refine g_istore_n (ls1 := [some (.ref 53), some (.int ((140 * (gi S 53 14)) + (gi S 58 (ix (gi S 53 14))))), none]) (pc := 18) dX12_clause_18 (by decide) rfl ?_
    refine g_aload_n (pc := 19) dX12_clause_19 rfl ?_
    refine v_getI hV (pc := 20) dX12_clause_20 fo_12_4 rfl k0_53 own_53 ?_
    refine g_iconst (v := (-1)) (pc := 23) dX12_clause_23 (by decide) ?_
    refine g_icmp_ne (tgt := 40) (pc := 24) dX12_clause_24 (by decide) (fun c40 => ?_) (fun c40 => ?_)
    · rw [if_neg c40] at h
      exact t_Md_clause_40 hV h
    · rw [if_pos c40] at h
      refine g_aload_n (pc := 27) dX12_clause_27 rfl ?_
      obtain ⟨q37, hq37, h⟩ := bnd h
      refine v_callVi hV (Mc := mX12_look) (v := q37.1) (S1 := q37.2) (As := []) (rest := []) (q := (RX12, TX12, 58)) (pc := 28) dX12_clause_28 mK_X12_152 mf_X12_look rfl k0_53 rfl rfl rfl (Nat.le_of_ble_eq_true rfl) ⟨Nat.le_of_ble_eq_true rfl, Nat.le_of_ble_eq_true rfl⟩ (r_Md_look hV hq37) ?_
      refine g_bipush (v := 121) (pc := 31) dX12_clause_31 (by decide) ?_
      refine g_icmp_eq (tgt := 40) (pc := 33) dX12_clause_33 (by decide) (fun c39 => ?_) (fun c39 => ?_)
      · rw [if_pos c39] at h
        exact t_Md_clause_40 hV h
      · rw [if_neg c39] at h
        refine g_aload_n (pc := 36) dX12_clause_36 rfl ?_
        obtain ⟨q38, hq38, h⟩ := app_of h
        refine v_callVv hV (Mc := mX12_bad) (S1 := q38) (As := []) (rest := []) (q := (RX12, TX12, 58)) (pc := 37) dX12_clause_37 mK_X12_149 mf_X12_bad rfl k0_53 rfl rfl rfl (Nat.le_of_ble_eq_true rfl) ⟨Nat.le_of_ble_eq_true rfl, Nat.le_of_ble_eq_true rfl⟩ (r_Md_bad hV hq38) ?_
        exact t_Md_clause_40 hV h
  · rw [if_neg c1] at h; cases h
def Md_open (v1 : Int32) (S : Sm) : Option (Sm) := (if inb v1 5 then (if inb v1 5 then (some (si (si (si (si (si (si S 53 14 v1) 53 3 0) 53 4 ((-1))) 53 5 0) 57 (ix v1) 0) 58 (ix v1) 0)) else none) else none)
set_option maxRecDepth 4000 in
theorem r_Md_open {V : Sm → Wd} (hV : VwT V) {v1 : Int32} {S : Sm} {q : Sm} (h : Md_open v1 S = some q) : Runs 0 mX12_open [.ref 53, .int v1] (V S) none (V q) 0 0 := by
  unfold Md_open at h
  refine Runs.of2 [some (.ref 53), some (.int v1)] 0 rfl rfl (Nat.le_of_ble_eq_true rfl) (fun l Γ => ?_)
  refine g_aload_n (pc := 0) dX12_open_0 rfl ?_
  refine g_iload_n (pc := 1) dX12_open_1 rfl ?_
  refine v_putI hV (pc := 2) dX12_open_2 fo_12_14 rfl k0_53 own_53 rfl ?_
  refine g_aload_n (pc := 5) dX12_open_5 rfl ?_
  refine g_iconst (v := 0) (pc := 6) dX12_open_6 (by decide) ?_
  refine v_putI hV (pc := 7) dX12_open_7 fo_12_3 rfl k0_53 own_53 rfl ?_
  refine g_aload_n (pc := 10) dX12_open_10 rfl ?_
  refine g_iconst (v := (-1)) (pc := 11) dX12_open_11 (by decide) ?_
  refine v_putI hV (pc := 12) dX12_open_12 fo_12_4 rfl k0_53 own_53 rfl ?_
  refine g_aload_n (pc := 15) dX12_open_15 rfl ?_
  refine g_iconst (v := 0) (pc := 16) dX12_open_16 (by decide) ?_
  refine v_putI hV (pc := 17) dX12_open_17 fo_12_5 rfl k0_53 own_53 rfl ?_
  refine g_aload_n (pc := 20) dX12_open_20 rfl ?_
  refine v_getR hV (pc := 21) dX12_open_21 fo_12_8 rfl k0_53 r0_53_8 ?_
  refine g_iload_n (pc := 24) dX12_open_24 rfl ?_
  refine g_iconst (v := 0) (pc := 25) dX12_open_25 (by decide) ?_
  by_cases c1 : inb v1 5
  · rw [if_pos c1] at h
    refine v_iast hV (pc := 26) dX12_open_26 k0_57 own_57 c1 ?_
    refine g_aload_n (pc := 27) dX12_open_27 rfl ?_
    refine v_getR hV (pc := 28) dX12_open_28 fo_12_9 rfl k0_53 r0_53_9 ?_
    refine g_iload_n (pc := 31) dX12_open_31 rfl ?_
    refine g_iconst (v := 0) (pc := 32) dX12_open_32 (by decide) ?_
    by_cases c2 : inb v1 5
    · rw [if_pos c2] at h
      refine v_iast hV (pc := 33) dX12_open_33 k0_58 own_58 c2 ?_
      cases h
      exact g_vret (pc := 34) dX12_open_34 rfl (Nat.le_refl _) (Nat.le_refl _)
    · rw [if_neg c2] at h; cases h
  · rw [if_neg c1] at h; cases h
def Md_atEnd_20 (S : Sm) : Option (Int32 × Sm) := (some ((gi S 53 4, S)))
set_option maxRecDepth 4000 in
theorem t_Md_atEnd_20 {V : Sm → Wd} (hV : VwT V) {l : Launch} {Γ : Gm}  {S : Sm} {q : Int32 × Sm} (h : Md_atEnd_20 S = some q) : G mX12_atEnd l Γ (rmD 2 0 0) (mQ Γ (some (.int q.1)) (V q.2) 0 0) 0 0 20 [some (.ref 53)] [] (V S) := by
  unfold Md_atEnd_20 at h
  refine g_aload_n (pc := 20) dX12_atEnd_20 rfl ?_
  refine v_getI hV (pc := 21) dX12_atEnd_21 fo_12_4 rfl k0_53 own_53 ?_
  cases h
  exact g_iret (pc := 24) dX12_atEnd_24 rfl rfl (Nat.le_refl _) (Nat.le_refl _)
def Md_atEnd (S : Sm) : Option (Int32 × Sm) := (if (gi S 53 4) = ((-1)) then ((Md_look S).bind fun q1 => (if q1.1 = ((-1)) then (Md_atEnd_20 q1.2) else (app (Md_bad q1.2) fun q2 => (Md_atEnd_20 q2)))) else (Md_atEnd_20 S))
set_option maxRecDepth 4000 in
theorem r_Md_atEnd {V : Sm → Wd} (hV : VwT V)  {S : Sm} {q : Int32 × Sm} (h : Md_atEnd S = some q) : Runs 2 mX12_atEnd [.ref 53] (V S) (some (.int q.1)) (V q.2) 0 0 := by
  unfold Md_atEnd at h
  refine Runs.of2 [some (.ref 53)] 0 rfl rfl (Nat.le_of_ble_eq_true rfl) (fun l Γ => ?_)
  refine g_aload_n (pc := 0) dX12_atEnd_0 rfl ?_
  refine v_getI hV (pc := 1) dX12_atEnd_1 fo_12_4 rfl k0_53 own_53 ?_
  refine g_iconst (v := (-1)) (pc := 4) dX12_atEnd_4 (by decide) ?_
  refine g_icmp_ne (tgt := 20) (pc := 5) dX12_atEnd_5 (by decide) (fun c4 => ?_) (fun c4 => ?_)
  · rw [if_neg c4] at h
    exact t_Md_atEnd_20 hV h
  · rw [if_pos c4] at h
    refine g_aload_n (pc := 8) dX12_atEnd_8 rfl ?_
    obtain ⟨q1, hq1, h⟩ := bnd h
    refine v_callVi hV (Mc := mX12_look) (v := q1.1) (S1 := q1.2) (As := []) (rest := []) (q := (RX12, TX12, 58)) (pc := 9) dX12_atEnd_9 mK_X12_152 mf_X12_look rfl k0_53 rfl rfl rfl (Nat.le_of_ble_eq_true rfl) ⟨Nat.le_of_ble_eq_true rfl, Nat.le_of_ble_eq_true rfl⟩ (r_Md_look hV hq1) ?_
    refine g_iconst (v := (-1)) (pc := 12) dX12_atEnd_12 (by decide) ?_
    refine g_icmp_eq (tgt := 20) (pc := 13) dX12_atEnd_13 (by decide) (fun c3 => ?_) (fun c3 => ?_)
    · rw [if_pos c3] at h
      exact t_Md_atEnd_20 hV h
    · rw [if_neg c3] at h
      refine g_aload_n (pc := 16) dX12_atEnd_16 rfl ?_
      obtain ⟨q2, hq2, h⟩ := app_of h
      refine v_callVv hV (Mc := mX12_bad) (S1 := q2) (As := []) (rest := []) (q := (RX12, TX12, 58)) (pc := 17) dX12_atEnd_17 mK_X12_149 mf_X12_bad rfl k0_53 rfl rfl rfl (Nat.le_of_ble_eq_true rfl) ⟨Nat.le_of_ble_eq_true rfl, Nat.le_of_ble_eq_true rfl⟩ (r_Md_bad hV hq2) ?_
      exact t_Md_atEnd_20 hV h
def hd_Md_readLaw_L9 (V : Sm → Wd) (l : Launch) (Γ : Gm) (rF : Option Value) (wF : Wd)  (q : Sm) : Prop := G mX12_readLaw l Γ (rmD 85 0 0) (mQ Γ rF wF 0 0) 0 0 9 [some (.ref 53), none] [] (V q)
def ps_Md_readLaw_L9 (V : Sm → Wd) (l : Launch) (Γ : Gm) (rF : Option Value) (wF : Wd)  (x : Sm) : Prop := (fun (a : Sm) => G mX12_readLaw l Γ (rmD 85 0 0) (mQ Γ rF wF 0 0) 0 0 43 [some (.ref 53), none] [] (V a)) x
def Md_readLaw_L9 (q : Sm) : Option ((Sm) ⊕ (Sm)) := (if (gi q 53 4) = ((-1)) then ((Md_look q).bind fun q3 => (if q3.1 = 59 then ((Md_clause (si q3.2 53 3 ((gi q3.2 53 3) + 1))).bind fun q4 => (some (.inl q4))) else (some (.inr q3.2)))) else (some (.inr q)))
set_option maxRecDepth 4000 in
theorem t_Md_readLaw_L9 {V : Sm → Wd} (hV : VwT V) {l : Launch} {Γ : Gm} {rF : Option Value} {wF : Wd}  {q : Sm} {o : (Sm) ⊕ (Sm)} (h : Md_readLaw_L9 q = some o) (hK : Sum.elim (hd_Md_readLaw_L9 V l Γ rF wF) (ps_Md_readLaw_L9 V l Γ rF wF) o) : hd_Md_readLaw_L9 V l Γ rF wF q := by
  unfold Md_readLaw_L9 at h
  unfold hd_Md_readLaw_L9
  refine g_aload_n (pc := 9) dX12_readLaw_9 rfl ?_
  refine v_getI hV (pc := 10) dX12_readLaw_10 fo_12_4 rfl k0_53 own_53 ?_
  refine g_iconst (v := (-1)) (pc := 13) dX12_readLaw_13 (by decide) ?_
  refine g_icmp_ne (tgt := 43) (pc := 14) dX12_readLaw_14 (by decide) (fun c6 => ?_) (fun c6 => ?_)
  · rw [if_neg c6] at h
    cases h
    exact hK
  · rw [if_pos c6] at h
    refine g_aload_n (pc := 17) dX12_readLaw_17 rfl ?_
    obtain ⟨q3, hq3, h⟩ := bnd h
    refine v_callVi hV (Mc := mX12_look) (v := q3.1) (S1 := q3.2) (As := []) (rest := []) (q := (RX12, TX12, 58)) (pc := 18) dX12_readLaw_18 mK_X12_152 mf_X12_look rfl k0_53 rfl rfl rfl (Nat.le_of_ble_eq_true rfl) ⟨Nat.le_of_ble_eq_true rfl, Nat.le_of_ble_eq_true rfl⟩ (r_Md_look hV hq3) ?_
    refine g_bipush (v := 59) (pc := 21) dX12_readLaw_21 (by decide) ?_
    refine g_icmp_ne (tgt := 43) (pc := 23) dX12_readLaw_23 (by decide) (fun c5 => ?_) (fun c5 => ?_)
    · rw [if_neg c5] at h
      cases h
      exact hK
    · rw [if_pos c5] at h
      refine g_aload_n (pc := 26) dX12_readLaw_26 rfl ?_
      refine g_dup (pc := 27) dX12_readLaw_27 rfl ?_
      refine v_getI hV (pc := 28) dX12_readLaw_28 fo_12_3 rfl k0_53 own_53 ?_
      refine g_iconst (v := 1) (pc := 31) dX12_readLaw_31 (by decide) ?_
      refine g_iadd (pc := 32) dX12_readLaw_32 ?_
      refine v_putI hV (pc := 33) dX12_readLaw_33 fo_12_3 rfl k0_53 own_53 rfl ?_
      refine g_aload_n (pc := 36) dX12_readLaw_36 rfl ?_
      obtain ⟨q4, hq4, h⟩ := bnd h
      refine v_callVv hV (Mc := mX12_clause) (S1 := q4) (As := []) (rest := []) (q := (RX12, TX12, 58)) (pc := 37) dX12_readLaw_37 mK_X12_207 mf_X12_clause rfl k0_53 rfl rfl rfl (Nat.le_of_ble_eq_true rfl) ⟨Nat.le_of_ble_eq_true rfl, Nat.le_of_ble_eq_true rfl⟩ (r_Md_clause hV hq4) ?_
      refine g_goto (tgt := 9) (pc := 40) dX12_readLaw_40 (by decide) ?_
      cases h
      exact hK
set_option maxRecDepth 4000 in
theorem w_Md_readLaw_L9 {V : Sm → Wd} (hV : VwT V) {l : Launch} {Γ : Gm} {rF : Option Value} {wF : Wd}  {k : Nat} {q : Sm} {o : Sm} (h : lpN (Md_readLaw_L9) k q = some o) (hP : ps_Md_readLaw_L9 V l Γ rF wF o) : hd_Md_readLaw_L9 V l Γ rF wF q := lpN_ind2 (hd_Md_readLaw_L9 V l Γ rF wF) (ps_Md_readLaw_L9 V l Γ rF wF) (fun s o h hK => t_Md_readLaw_L9 hV h hK) k q o h hP
def Md_readLaw (v1 : Int32) (S : Sm) : Option (Int32 × Sm) := ((Md_open v1 S).bind fun q1 => ((Md_clause q1).bind fun q2 => ((lpN (Md_readLaw_L9) FU q2).bind fun q7 => ((Md_atEnd q7).bind fun q8 => (some ((q8.1, q8.2)))))))
set_option maxRecDepth 4000 in
theorem r_Md_readLaw {V : Sm → Wd} (hV : VwT V) {v1 : Int32} {S : Sm} {q : Int32 × Sm} (h : Md_readLaw v1 S = some q) : Runs 85 mX12_readLaw [.ref 53, .int v1] (V S) (some (.int q.1)) (V q.2) 0 0 := by
  unfold Md_readLaw at h
  refine Runs.of2 [some (.ref 53), some (.int v1)] 0 rfl rfl (Nat.le_of_ble_eq_true rfl) (fun l Γ => ?_)
  refine g_aload_n (pc := 0) dX12_readLaw_0 rfl ?_
  refine g_iload_n (pc := 1) dX12_readLaw_1 rfl ?_
  obtain ⟨q1, hq1, h⟩ := bnd h
  refine v_callVv hV (Mc := mX12_open) (S1 := q1) (As := [.int v1]) (rest := []) (q := (RX12, TX12, 58)) (pc := 2) dX12_readLaw_2 mK_X12_204 mf_X12_open rfl k0_53 rfl rfl rfl (Nat.le_of_ble_eq_true rfl) ⟨Nat.le_of_ble_eq_true rfl, Nat.le_of_ble_eq_true rfl⟩ (r_Md_open hV hq1) ?_
  refine g_aload_n (pc := 5) dX12_readLaw_5 rfl ?_
  obtain ⟨q2, hq2, h⟩ := bnd h
  refine v_callVv hV (Mc := mX12_clause) (S1 := q2) (As := []) (rest := []) (q := (RX12, TX12, 58)) (pc := 6) dX12_readLaw_6 mK_X12_207 mf_X12_clause rfl k0_53 rfl rfl rfl (Nat.le_of_ble_eq_true rfl) ⟨Nat.le_of_ble_eq_true rfl, Nat.le_of_ble_eq_true rfl⟩ (r_Md_clause hV hq2) ?_
  refine g_wk [true, false] rfl ?_
  obtain ⟨q7, hqq7, h⟩ := bnd h
  refine w_Md_readLaw_L9 hV hqq7 ?_
  unfold ps_Md_readLaw_L9
  show G _ _ _ _ _ _ _ _ _ _ _
  refine g_aload_n (pc := 43) dX12_readLaw_43 rfl ?_
  obtain ⟨q8, hq8, h⟩ := bnd h
  refine v_callVi hV (Mc := mX12_atEnd) (v := q8.1) (S1 := q8.2) (As := []) (rest := []) (q := (RX12, TX12, 58)) (pc := 44) dX12_readLaw_44 mK_X12_210 mf_X12_atEnd rfl k0_53 rfl rfl rfl (Nat.le_of_ble_eq_true rfl) ⟨Nat.le_of_ble_eq_true rfl, Nat.le_of_ble_eq_true rfl⟩ (r_Md_atEnd hV hq8) ?_
  cases h
  exact g_iret (pc := 47) dX12_readLaw_47 rfl rfl (Nat.le_refl _) (Nat.le_refl _)
def Md_bounded (v0 : Int64) : Int32 := (Int64.toInt32 (lMax ((-1000000)) (lMin 1000000 v0)))
set_option maxRecDepth 4000 in
theorem r_Md_bounded {V : Sm → Wd} (hV : VwT V) {v0 : Int64} {S : Sm} {q : Int32} (h : Md_bounded v0 = q) : Runs 1 mX12_bounded [.long v0] (V S) (some (.int q)) (V S) 0 0 := by
  unfold Md_bounded at h
  refine Runs.of2 [some (.long v0), none] 0 rfl rfl (Nat.le_of_ble_eq_true rfl) (fun l Γ => ?_)
  refine g_ldc2 (v := (-1000000)) (pc := 0) dX12_bounded_0 kL_X12_213 ?_
  refine g_ldc2 (v := 1000000) (pc := 3) dX12_bounded_3 kL_X12_215 ?_
  refine g_lload_n (pc := 6) dX12_bounded_6 rfl ?_
  refine g_lMin (pc := 7) dX12_bounded_7 mK_X12_217 ⟨Nat.le_of_ble_eq_true rfl, Nat.le_of_ble_eq_true rfl⟩ (Nat.zero_le _) (Nat.zero_le _) ?_
  refine g_lMax (pc := 10) dX12_bounded_10 mK_X12_223 ⟨Nat.le_of_ble_eq_true rfl, Nat.le_of_ble_eq_true rfl⟩ (Nat.zero_le _) (Nat.zero_le _) ?_
  refine g_l2i (pc := 13) dX12_bounded_13 ?_
  subst h
  exact g_iret (pc := 14) dX12_bounded_14 rfl rfl (Nat.le_refl _) (Nat.le_refl _)
def Md_worked_89 (s0 : Int32) : Option (Int32) := (some s0)
set_option maxRecDepth 4000 in
theorem t_Md_worked_89 {V : Sm → Wd} (hV : VwT V) {l : Launch} {Γ : Gm} {s0 : Int32} {S : Sm} {q : Int32} (h : Md_worked_89 s0 = some q) : G mX12_worked l Γ (rmD 2 0 0) (mQ Γ (some (.int q)) (V S) 0 0) 0 0 89 [none, none, none, none, none] [.int s0] (V S) := by
  unfold Md_worked_89 at h
  cases h
  exact g_iret (pc := 89) dX12_worked_89 rfl rfl (Nat.le_refl _) (Nat.le_refl _)
def Md_worked_101 (s0 : Int32) : Option (Int32) := (some s0)
set_option maxRecDepth 4000 in
theorem t_Md_worked_101 {V : Sm → Wd} (hV : VwT V) {l : Launch} {Γ : Gm} {s0 : Int32} {S : Sm} {q : Int32} (h : Md_worked_101 s0 = some q) : G mX12_worked l Γ (rmD 2 0 0) (mQ Γ (some (.int q)) (V S) 0 0) 0 0 101 [none, none, none, none, none] [.int s0] (V S) := by
  unfold Md_worked_101 at h
  cases h
  exact g_iret (pc := 101) dX12_worked_101 rfl rfl (Nat.le_refl _) (Nat.le_refl _)
def Md_worked_113 (s0 : Int32) : Option (Int32) := (some s0)
set_option maxRecDepth 4000 in
theorem t_Md_worked_113 {V : Sm → Wd} (hV : VwT V) {l : Launch} {Γ : Gm} {s0 : Int32} {S : Sm} {q : Int32} (h : Md_worked_113 s0 = some q) : G mX12_worked l Γ (rmD 2 0 0) (mQ Γ (some (.int q)) (V S) 0 0) 0 0 113 [none, none, none, none, none] [.int s0] (V S) := by
  unfold Md_worked_113 at h
  cases h
  exact g_iret (pc := 113) dX12_worked_113 rfl rfl (Nat.le_refl _) (Nat.le_refl _)
def Md_worked_125 (s0 : Int32) : Option (Int32) := (some s0)
set_option maxRecDepth 4000 in
theorem t_Md_worked_125 {V : Sm → Wd} (hV : VwT V) {l : Launch} {Γ : Gm} {s0 : Int32} {S : Sm} {q : Int32} (h : Md_worked_125 s0 = some q) : G mX12_worked l Γ (rmD 2 0 0) (mQ Γ (some (.int q)) (V S) 0 0) 0 0 125 [none, none, none, none, none] [.int s0] (V S) := by
  unfold Md_worked_125 at h
  cases h
  exact g_iret (pc := 125) dX12_worked_125 rfl rfl (Nat.le_refl _) (Nat.le_refl _)
def Md_worked_143 (s0 : Int32) : Option (Int32) := (some s0)
set_option maxRecDepth 4000 in
theorem t_Md_worked_143 {V : Sm → Wd} (hV : VwT V) {l : Launch} {Γ : Gm} {s0 : Int32} {S : Sm} {q : Int32} (h : Md_worked_143 s0 = some q) : G mX12_worked l Γ (rmD 2 0 0) (mQ Γ (some (.int q)) (V S) 0 0) 0 0 143 [none, none, none, none, none] [.int s0] (V S) := by
  unfold Md_worked_143 at h
  cases h
  exact g_iret (pc := 143) dX12_worked_143 rfl rfl (Nat.le_refl _) (Nat.le_refl _)
def Md_worked_142  : Option (Int32) := (Md_worked_143 0)
set_option maxRecDepth 4000 in
theorem t_Md_worked_142 {V : Sm → Wd} (hV : VwT V) {l : Launch} {Γ : Gm}  {S : Sm} {q : Int32} (h : Md_worked_142 = some q) : G mX12_worked l Γ (rmD 2 0 0) (mQ Γ (some (.int q)) (V S) 0 0) 0 0 142 [none, none, none, none, none] [] (V S) := by
  unfold Md_worked_142 at h
  refine g_iconst (v := 0) (pc := 142) dX12_worked_142 (by decide) ?_
  exact t_Md_worked_143 hV h
def Md_worked_161 (s0 : Int32) : Option (Int32) := (some s0)
set_option maxRecDepth 4000 in
theorem t_Md_worked_161 {V : Sm → Wd} (hV : VwT V) {l : Launch} {Γ : Gm} {s0 : Int32} {S : Sm} {q : Int32} (h : Md_worked_161 s0 = some q) : G mX12_worked l Γ (rmD 2 0 0) (mQ Γ (some (.int q)) (V S) 0 0) 0 0 161 [none, none, none, none, none] [.int s0] (V S) := by
  unfold Md_worked_161 at h
  cases h
  exact g_iret (pc := 161) dX12_worked_161 rfl rfl (Nat.le_refl _) (Nat.le_refl _)
def Md_worked_156  : Option (Int32) := (Md_worked_161 1)
set_option maxRecDepth 4000 in
theorem t_Md_worked_156 {V : Sm → Wd} (hV : VwT V) {l : Launch} {Γ : Gm}  {S : Sm} {q : Int32} (h : Md_worked_156 = some q) : G mX12_worked l Γ (rmD 2 0 0) (mQ Γ (some (.int q)) (V S) 0 0) 0 0 156 [none, none, none, none, none] [] (V S) := by
  unfold Md_worked_156 at h
  refine g_iconst (v := 1) (pc := 156) dX12_worked_156 (by decide) ?_
  refine g_goto (tgt := 161) (pc := 157) dX12_worked_157 (by decide) ?_
  exact t_Md_worked_161 hV h
def Md_worked (v0 : Int32) (v1 : Int64) (v3 : Int64) : Option (Int32) := (if v0 = (2 : Int32) then (some (Md_bounded (v1 + v3))) else (if v0 = (3 : Int32) then (some (Md_bounded (v1 - v3))) else (if v0 = (4 : Int32) then (some (Md_bounded (v1 * v3))) else (if v0 = (5 : Int32) then (if (lg_cmp v3 0) = 0 then (Md_worked_89 0) else (if v3 = (0 : Int64) then none else (Md_worked_89 (Md_bounded (v1 / v3))))) else (if v0 = (6 : Int32) then (if (lg_cmp v1 v3) = 0 then (Md_worked_101 1) else (Md_worked_101 0)) else (if v0 = (7 : Int32) then (if (0 : Int32) ≤ (lg_cmp v1 v3) then (Md_worked_113 0) else (Md_worked_113 1)) else (if v0 = (8 : Int32) then (if (lg_cmp v1 v3) ≤ 0 then (Md_worked_125 0) else (Md_worked_125 1)) else (if v0 = (10 : Int32) then (if (lg_cmp v1 0) = 0 then Md_worked_142 else (if (lg_cmp v3 0) = 0 then Md_worked_142 else (Md_worked_143 1))) else (if (lg_cmp v1 0) = 0 then (if (lg_cmp v3 0) = 0 then (Md_worked_161 0) else Md_worked_156) else Md_worked_156)))))))))
set_option maxRecDepth 4000 in
theorem r_Md_worked {V : Sm → Wd} (hV : VwT V) {v0 : Int32} {v1 : Int64} {v3 : Int64} {S : Sm} {q : Int32} (h : Md_worked v0 v1 v3 = some q) : Runs 2 mX12_worked [.int v0, .long v1, .long v3] (V S) (some (.int q)) (V S) 0 0 := by
  unfold Md_worked at h
  refine Runs.of2 [some (.int v0), some (.long v1), none, some (.long v3), none] 0 rfl rfl (Nat.le_of_ble_eq_true rfl) (fun l Γ => ?_)
  refine g_iload_n (pc := 0) dX12_worked_0 rfl ?_
  by_cases c1 : v0 = (2 : Int32)
  · rw [if_pos c1] at h
    refine g_tab (off := 51) (tgt := 52) (pc := 1) dX12_worked_1 (by rw [c1]; decide +kernel) (by decide) (by decide +kernel) ?_
    refine g_lload_n (pc := 52) dX12_worked_52 rfl ?_
    refine g_lload_n (pc := 53) dX12_worked_53 rfl ?_
    refine g_ladd (pc := 54) dX12_worked_54 ?_
    refine v_callSi (Mc := mX12_bounded) (v := Md_bounded (v1 + v3)) (S1 := S) (As := [.long (v1 + v3)]) (rest := []) (pc := 55) dX12_worked_55 mK_X12_226 mf_X12_bounded rfl rfl (Nat.le_of_ble_eq_true rfl) ⟨Nat.le_of_ble_eq_true rfl, Nat.le_of_ble_eq_true rfl⟩ (r_Md_bounded hV rfl) ?_
    cases h
    exact g_iret (pc := 58) dX12_worked_58 rfl rfl (Nat.le_refl _) (Nat.le_refl _)
  · rw [if_neg c1] at h
    by_cases c2 : v0 = (3 : Int32)
    · rw [if_pos c2] at h
      refine g_tab (off := 58) (tgt := 59) (pc := 1) dX12_worked_1 (by rw [c2]; decide +kernel) (by decide) (by decide +kernel) ?_
      refine g_lload_n (pc := 59) dX12_worked_59 rfl ?_
      refine g_lload_n (pc := 60) dX12_worked_60 rfl ?_
      refine g_lsub (pc := 61) dX12_worked_61 ?_
      refine v_callSi (Mc := mX12_bounded) (v := Md_bounded (v1 - v3)) (S1 := S) (As := [.long (v1 - v3)]) (rest := []) (pc := 62) dX12_worked_62 mK_X12_226 mf_X12_bounded rfl rfl (Nat.le_of_ble_eq_true rfl) ⟨Nat.le_of_ble_eq_true rfl, Nat.le_of_ble_eq_true rfl⟩ (r_Md_bounded hV rfl) ?_
      cases h
      exact g_iret (pc := 65) dX12_worked_65 rfl rfl (Nat.le_refl _) (Nat.le_refl _)
    · rw [if_neg c2] at h
      by_cases c3 : v0 = (4 : Int32)
      · rw [if_pos c3] at h
        refine g_tab (off := 65) (tgt := 66) (pc := 1) dX12_worked_1 (by rw [c3]; decide +kernel) (by decide) (by decide +kernel) ?_
        refine g_lload_n (pc := 66) dX12_worked_66 rfl ?_
        refine g_lload_n (pc := 67) dX12_worked_67 rfl ?_
        refine g_lmul (pc := 68) dX12_worked_68 ?_
        refine v_callSi (Mc := mX12_bounded) (v := Md_bounded (v1 * v3)) (S1 := S) (As := [.long (v1 * v3)]) (rest := []) (pc := 69) dX12_worked_69 mK_X12_226 mf_X12_bounded rfl rfl (Nat.le_of_ble_eq_true rfl) ⟨Nat.le_of_ble_eq_true rfl, Nat.le_of_ble_eq_true rfl⟩ (r_Md_bounded hV rfl) ?_
        cases h
        exact g_iret (pc := 72) dX12_worked_72 rfl rfl (Nat.le_refl _) (Nat.le_refl _)
      · rw [if_neg c3] at h
        by_cases c4 : v0 = (5 : Int32)
        · rw [if_pos c4] at h
          refine g_tab (off := 72) (tgt := 73) (pc := 1) dX12_worked_1 (by rw [c4]; decide +kernel) (by decide) (by decide +kernel) ?_
          refine g_lload_n (pc := 73) dX12_worked_73 rfl ?_
          refine g_lconst (v := 0) (pc := 74) dX12_worked_74 (by decide) ?_
          refine g_lcmp (pc := 75) dX12_worked_75 ?_
          refine g_if_ne (tgt := 83) (pc := 76) dX12_worked_76 (by decide) (fun c6 => ?_) (fun c6 => ?_)
          · rw [if_neg c6] at h
            refine g_lload_n (pc := 83) dX12_worked_83 rfl ?_
            refine g_lload_n (pc := 84) dX12_worked_84 rfl ?_
            by_cases c5 : v3 = (0 : Int64)
            · rw [if_pos c5] at h; cases h
            · rw [if_neg c5] at h
              refine g_ldiv (pc := 85) dX12_worked_85 c5 ?_
              refine v_callSi (Mc := mX12_bounded) (v := Md_bounded (v1 / v3)) (S1 := S) (As := [.long (v1 / v3)]) (rest := []) (pc := 86) dX12_worked_86 mK_X12_226 mf_X12_bounded rfl rfl (Nat.le_of_ble_eq_true rfl) ⟨Nat.le_of_ble_eq_true rfl, Nat.le_of_ble_eq_true rfl⟩ (r_Md_bounded hV rfl) ?_
              refine g_wk [false, false, false, false, false] rfl ?_
              exact t_Md_worked_89 hV h
          · rw [if_pos c6] at h
            refine g_iconst (v := 0) (pc := 79) dX12_worked_79 (by decide) ?_
            refine g_goto (tgt := 89) (pc := 80) dX12_worked_80 (by decide) ?_
            refine g_wk [false, false, false, false, false] rfl ?_
            exact t_Md_worked_89 hV h
        · rw [if_neg c4] at h
          by_cases c7 : v0 = (6 : Int32)
          · rw [if_pos c7] at h
            refine g_tab (off := 89) (tgt := 90) (pc := 1) dX12_worked_1 (by rw [c7]; decide +kernel) (by decide) (by decide +kernel) ?_
            refine g_lload_n (pc := 90) dX12_worked_90 rfl ?_
            refine g_lload_n (pc := 91) dX12_worked_91 rfl ?_
            refine g_lcmp (pc := 92) dX12_worked_92 ?_
            refine g_if_ne (tgt := 100) (pc := 93) dX12_worked_93 (by decide) (fun c8 => ?_) (fun c8 => ?_)
            · rw [if_neg c8] at h
              refine g_iconst (v := 0) (pc := 100) dX12_worked_100 (by decide) ?_
              refine g_wk [false, false, false, false, false] rfl ?_
              exact t_Md_worked_101 hV h
            · rw [if_pos c8] at h
              refine g_iconst (v := 1) (pc := 96) dX12_worked_96 (by decide) ?_
              refine g_goto (tgt := 101) (pc := 97) dX12_worked_97 (by decide) ?_
              refine g_wk [false, false, false, false, false] rfl ?_
              exact t_Md_worked_101 hV h
          · rw [if_neg c7] at h
            by_cases c9 : v0 = (7 : Int32)
            · rw [if_pos c9] at h
              refine g_tab (off := 101) (tgt := 102) (pc := 1) dX12_worked_1 (by rw [c9]; decide +kernel) (by decide) (by decide +kernel) ?_
              refine g_lload_n (pc := 102) dX12_worked_102 rfl ?_
              refine g_lload_n (pc := 103) dX12_worked_103 rfl ?_
              refine g_lcmp (pc := 104) dX12_worked_104 ?_
              refine g_if_ge (tgt := 112) (pc := 105) dX12_worked_105 (by decide) (fun c10 => ?_) (fun c10 => ?_)
              · rw [if_pos c10] at h
                refine g_iconst (v := 0) (pc := 112) dX12_worked_112 (by decide) ?_
                refine g_wk [false, false, false, false, false] rfl ?_
                exact t_Md_worked_113 hV h
              · rw [if_neg c10] at h
                refine g_iconst (v := 1) (pc := 108) dX12_worked_108 (by decide) ?_
                refine g_goto (tgt := 113) (pc := 109) dX12_worked_109 (by decide) ?_
                refine g_wk [false, false, false, false, false] rfl ?_
                exact t_Md_worked_113 hV h
            · rw [if_neg c9] at h
              by_cases c11 : v0 = (8 : Int32)
              · rw [if_pos c11] at h
                refine g_tab (off := 113) (tgt := 114) (pc := 1) dX12_worked_1 (by rw [c11]; decide +kernel) (by decide) (by decide +kernel) ?_
                refine g_lload_n (pc := 114) dX12_worked_114 rfl ?_
                refine g_lload_n (pc := 115) dX12_worked_115 rfl ?_
                refine g_lcmp (pc := 116) dX12_worked_116 ?_
                refine g_if_le (tgt := 124) (pc := 117) dX12_worked_117 (by decide) (fun c12 => ?_) (fun c12 => ?_)
                · rw [if_pos c12] at h
                  refine g_iconst (v := 0) (pc := 124) dX12_worked_124 (by decide) ?_
                  refine g_wk [false, false, false, false, false] rfl ?_
                  exact t_Md_worked_125 hV h
                · rw [if_neg c12] at h
                  refine g_iconst (v := 1) (pc := 120) dX12_worked_120 (by decide) ?_
                  refine g_goto (tgt := 125) (pc := 121) dX12_worked_121 (by decide) ?_
                  refine g_wk [false, false, false, false, false] rfl ?_
                  exact t_Md_worked_125 hV h
              · rw [if_neg c11] at h
                by_cases c13 : v0 = (10 : Int32)
                · rw [if_pos c13] at h
                  refine g_tab (off := 125) (tgt := 126) (pc := 1) dX12_worked_1 (by rw [c13]; decide +kernel) (by decide) (by decide +kernel) ?_
                  refine g_lload_n (pc := 126) dX12_worked_126 rfl ?_
                  refine g_lconst (v := 0) (pc := 127) dX12_worked_127 (by decide) ?_
                  refine g_lcmp (pc := 128) dX12_worked_128 ?_
                  refine g_if_eq (tgt := 142) (pc := 129) dX12_worked_129 (by decide) (fun c15 => ?_) (fun c15 => ?_)
                  · rw [if_pos c15] at h
                    refine g_wk [false, false, false, false, false] rfl ?_
                    exact t_Md_worked_142 hV h
                  · rw [if_neg c15] at h
                    refine g_lload_n (pc := 132) dX12_worked_132 rfl ?_
                    refine g_lconst (v := 0) (pc := 133) dX12_worked_133 (by decide) ?_
                    refine g_lcmp (pc := 134) dX12_worked_134 ?_
                    refine g_if_eq (tgt := 142) (pc := 135) dX12_worked_135 (by decide) (fun c14 => ?_) (fun c14 => ?_)
                    · rw [if_pos c14] at h
                      refine g_wk [false, false, false, false, false] rfl ?_
                      exact t_Md_worked_142 hV h
                    · rw [if_neg c14] at h
                      refine g_iconst (v := 1) (pc := 138) dX12_worked_138 (by decide) ?_
                      refine g_goto (tgt := 143) (pc := 139) dX12_worked_139 (by decide) ?_
                      refine g_wk [false, false, false, false, false] rfl ?_
                      exact t_Md_worked_143 hV h
                · rw [if_neg c13] at h
                  refine g_tab (off := 143) (tgt := 144) (pc := 1) dX12_worked_1 ?_ (by decide) (by decide +kernel) ?_
                  ·
                    refine tab_dflt (ok := [0, 1, 2, 3, 4, 5, 6, 8]) (fun k hk => ?_) (by decide +kernel)
                    have e0 := lv_neT c1 (a := 2) rfl
                    have e1 := lv_neT c2 (a := 3) rfl
                    have e2 := lv_neT c3 (a := 4) rfl
                    have e3 := lv_neT c4 (a := 5) rfl
                    have e4 := lv_neT c7 (a := 6) rfl
                    have e5 := lv_neT c9 (a := 7) rfl
                    have e6 := lv_neT c11 (a := 8) rfl
                    have e7 := lv_neT c13 (a := 10) rfl
                    simp only [List.mem_cons, List.not_mem_nil, or_false] at hk
                    omega
                  ·
                    refine g_lload_n (pc := 144) dX12_worked_144 rfl ?_
                    refine g_lconst (v := 0) (pc := 145) dX12_worked_145 (by decide) ?_
                    refine g_lcmp (pc := 146) dX12_worked_146 ?_
                    refine g_if_ne (tgt := 156) (pc := 147) dX12_worked_147 (by decide) (fun c17 => ?_) (fun c17 => ?_)
                    · rw [if_neg c17] at h
                      refine g_wk [false, false, false, false, false] rfl ?_
                      exact t_Md_worked_156 hV h
                    · rw [if_pos c17] at h
                      refine g_lload_n (pc := 150) dX12_worked_150 rfl ?_
                      refine g_lconst (v := 0) (pc := 151) dX12_worked_151 (by decide) ?_
                      refine g_lcmp (pc := 152) dX12_worked_152 ?_
                      refine g_if_eq (tgt := 160) (pc := 153) dX12_worked_153 (by decide) (fun c16 => ?_) (fun c16 => ?_)
                      · rw [if_pos c16] at h
                        refine g_iconst (v := 0) (pc := 160) dX12_worked_160 (by decide) ?_
                        refine g_wk [false, false, false, false, false] rfl ?_
                        exact t_Md_worked_161 hV h
                      · rw [if_neg c16] at h
                        refine g_wk [false, false, false, false, false] rfl ?_
                        exact t_Md_worked_156 hV h
def hd_Md_workOut_L12 (V : Sm → Wd) (l : Launch) (Γ : Gm) (rF : Option Value) (wF : Wd) (v1 : Int32) (v3 : Int32) (q : Int32 × Int32 × Sm) : Prop := G mX12_workOut l Γ (rmD 3 0 0) (mQ Γ rF wF 0 0) 0 0 12 [some (.ref 53), some (.int v1), none, some (.int v3), some (.int q.1), some (.int q.2.1)] [] (V q.2.2)
def ps_Md_workOut_L12 (V : Sm → Wd) (l : Launch) (Γ : Gm) (rF : Option Value) (wF : Wd) (v1 : Int32) (v3 : Int32) (x : Sm) : Prop := (fun (a : Sm) => G mX12_workOut l Γ (rmD 3 0 0) (mQ Γ rF wF 0 0) 0 0 171 [some (.ref 53), none, none, none, none, none] [] (V a)) x
def Md_workOut_165_L12 (v1 : Int32) (v3 : Int32) (v4 : Int32) (v5 : Int32) (S : Sm) : Option ((Int32 × Int32 × Sm) ⊕ (Sm)) := (some (.inl (v4, v5 + 1, S)))
set_option maxRecDepth 4000 in
theorem t_Md_workOut_165_L12 {V : Sm → Wd} (hV : VwT V) {l : Launch} {Γ : Gm} {v1 : Int32} {v3 : Int32} {v4 : Int32} {v5 : Int32} {rF : Option Value} {wF : Wd} {S : Sm} {o : (Int32 × Int32 × Sm) ⊕ (Sm)} (h : Md_workOut_165_L12 v1 v3 v4 v5 S = some o) (hK : Sum.elim (hd_Md_workOut_L12 V l Γ rF wF v1 v3) (ps_Md_workOut_L12 V l Γ rF wF v1 v3) o) : G mX12_workOut l Γ (rmD 3 0 0) (mQ Γ rF wF 0 0) 0 0 165 [some (.ref 53), some (.int v1), none, some (.int v3), some (.int v4), some (.int v5)] [] (V S) := by
  unfold Md_workOut_165_L12 at h
  refine g_iinc (v := v5 + 1) (ls1 := [some (.ref 53), some (.int v1), none, some (.int v3), some (.int v4), some (.int (v5 + 1))]) (pc := 165) dX12_workOut_165 rfl rfl (by decide) rfl ?_
  refine g_goto (tgt := 12) (pc := 168) dX12_workOut_168 (by decide) ?_
  cases h
  exact hK
def Md_workOut_83_L12 (v1 : Int32) (v3 : Int32) (v4 : Int32) (v5 : Int32) (s1 : Int32) (s2 : Int32) (S : Sm) : Option ((Int32 × Int32 × Sm) ⊕ (Sm)) := (if inb s1 80 then (Md_workOut_165_L12 v1 v3 (v4 + 1) v5 (si S 63 (ix s1) s2)) else none)
set_option maxRecDepth 4000 in
theorem t_Md_workOut_83_L12 {V : Sm → Wd} (hV : VwT V) {l : Launch} {Γ : Gm} {v1 : Int32} {v3 : Int32} {v4 : Int32} {v5 : Int32} {s1 : Int32} {s2 : Int32} {rF : Option Value} {wF : Wd} {S : Sm} {o : (Int32 × Int32 × Sm) ⊕ (Sm)} (h : Md_workOut_83_L12 v1 v3 v4 v5 s1 s2 S = some o) (hK : Sum.elim (hd_Md_workOut_L12 V l Γ rF wF v1 v3) (ps_Md_workOut_L12 V l Γ rF wF v1 v3) o) : G mX12_workOut l Γ (rmD 3 0 0) (mQ Γ rF wF 0 0) 0 0 83 [some (.ref 53), some (.int v1), none, some (.int v3), some (.int v4), some (.int v5)] [.int s2, .int s1, .ref 63] (V S) := by
  unfold Md_workOut_83_L12 at h
  by_cases c5 : inb s1 80
  · rw [if_pos c5] at h
    refine v_iast hV (pc := 83) dX12_workOut_83 k0_63 own_63 c5 ?_
    refine g_iinc (v := v4 + 1) (ls1 := [some (.ref 53), some (.int v1), none, some (.int v3), some (.int (v4 + 1)), some (.int v5)]) (pc := 84) dX12_workOut_84 rfl rfl (by decide) rfl ?_
    refine g_goto (tgt := 165) (pc := 87) dX12_workOut_87 (by decide) ?_
    exact t_Md_workOut_165_L12 hV h hK
  · rw [if_neg c5] at h; cases h
def Md_workOut_45_L12 (v1 : Int32) (v3 : Int32) (v4 : Int32) (v5 : Int32) (S : Sm) : Option ((Int32 × Int32 × Sm) ⊕ (Sm)) := (if inb v5 2600 then (if (gi S 55 (ix v5)) = 0 then (if inb v5 2600 then (Md_workOut_83_L12 v1 v3 v4 v5 v4 (gi S 56 (ix v5)) S) else none) else (if inb v5 2600 then (if inb (gi S 56 (ix v5)) 5 then (Md_workOut_83_L12 v1 v3 v4 v5 v4 (gi S 62 (ix (gi S 56 (ix v5)))) S) else none) else none)) else none)
set_option maxRecDepth 4000 in
theorem t_Md_workOut_45_L12 {V : Sm → Wd} (hV : VwT V) {l : Launch} {Γ : Gm} {v1 : Int32} {v3 : Int32} {v4 : Int32} {v5 : Int32} {rF : Option Value} {wF : Wd} {S : Sm} {o : (Int32 × Int32 × Sm) ⊕ (Sm)} (h : Md_workOut_45_L12 v1 v3 v4 v5 S = some o) (hK : Sum.elim (hd_Md_workOut_L12 V l Γ rF wF v1 v3) (ps_Md_workOut_L12 V l Γ rF wF v1 v3) o) : G mX12_workOut l Γ (rmD 3 0 0) (mQ Γ rF wF 0 0) 0 0 45 [some (.ref 53), some (.int v1), none, some (.int v3), some (.int v4), some (.int v5)] [] (V S) := by
  unfold Md_workOut_45_L12 at h
  refine g_aload_n (pc := 45) dX12_workOut_45 rfl ?_
  refine v_getR hV (pc := 46) dX12_workOut_46 fo_12_16 rfl k0_53 r0_53_16 ?_
  refine g_iload (pc := 49) dX12_workOut_49 rfl ?_
  refine g_aload_n (pc := 51) dX12_workOut_51 rfl ?_
  refine v_getR hV (pc := 52) dX12_workOut_52 fo_12_6 rfl k0_53 r0_53_6 ?_
  refine g_iload (pc := 55) dX12_workOut_55 rfl ?_
  by_cases c2 : inb v5 2600
  · rw [if_pos c2] at h
    refine v_iald hV (pc := 57) dX12_workOut_57 k0_55 own_55 c2 ?_
    refine g_if_ne (tgt := 71) (pc := 58) dX12_workOut_58 (by decide) (fun c7 => ?_) (fun c7 => ?_)
    · rw [if_neg c7] at h
      refine g_aload_n (pc := 71) dX12_workOut_71 rfl ?_
      refine v_getR hV (pc := 72) dX12_workOut_72 fo_12_15 rfl k0_53 r0_53_15 ?_
      refine g_aload_n (pc := 75) dX12_workOut_75 rfl ?_
      refine v_getR hV (pc := 76) dX12_workOut_76 fo_12_7 rfl k0_53 r0_53_7 ?_
      refine g_iload (pc := 79) dX12_workOut_79 rfl ?_
      by_cases c3 : inb v5 2600
      · rw [if_pos c3] at h
        refine v_iald hV (pc := 81) dX12_workOut_81 k0_56 own_56 c3 ?_
        by_cases c4 : inb (gi S 56 (ix v5)) 5
        · rw [if_pos c4] at h
          refine v_iald hV (pc := 82) dX12_workOut_82 k0_62 own_62 c4 ?_
          exact t_Md_workOut_83_L12 hV h hK
        · rw [if_neg c4] at h; cases h
      · rw [if_neg c3] at h; cases h
    · rw [if_pos c7] at h
      refine g_aload_n (pc := 61) dX12_workOut_61 rfl ?_
      refine v_getR hV (pc := 62) dX12_workOut_62 fo_12_7 rfl k0_53 r0_53_7 ?_
      refine g_iload (pc := 65) dX12_workOut_65 rfl ?_
      by_cases c6 : inb v5 2600
      · rw [if_pos c6] at h
        refine v_iald hV (pc := 67) dX12_workOut_67 k0_56 own_56 c6 ?_
        refine g_goto (tgt := 83) (pc := 68) dX12_workOut_68 (by decide) ?_
        exact t_Md_workOut_83_L12 hV h hK
      · rw [if_neg c6] at h; cases h
  · rw [if_neg c2] at h; cases h
def Md_workOut_L12 (v1 : Int32) (v3 : Int32) (q : Int32 × Int32 × Sm) : Option ((Int32 × Int32 × Sm) ⊕ (Sm)) := (if ((520 * v1) + v3) ≤ q.2.1 then (some (.inr q.2.2)) else (if inb q.2.1 2600 then (if (gi q.2.2 55 (ix q.2.1)) = 0 then (Md_workOut_45_L12 v1 v3 q.1 q.2.1 q.2.2) else (if inb q.2.1 2600 then (if (gi q.2.2 55 (ix q.2.1)) = 1 then (Md_workOut_45_L12 v1 v3 q.1 q.2.1 q.2.2) else (if inb q.2.1 2600 then (if (gi q.2.2 55 (ix q.2.1)) = 9 then (if inb (q.1 - 1) 80 then (if inb (q.1 - 1) 80 then (Md_workOut_165_L12 v1 v3 q.1 q.2.1 (si q.2.2 63 (ix (q.1 - 1)) (1 - (gi q.2.2 63 (ix (q.1 - 1)))))) else none) else none) else (if inb q.2.1 2600 then (if inb ((q.1 + (-1)) - 1) 80 then (if inb (q.1 + (-1)) 80 then ((Md_worked (gi q.2.2 55 (ix q.2.1)) (Int32.toInt64 (gi q.2.2 63 (ix ((q.1 + (-1)) - 1)))) (Int32.toInt64 (gi q.2.2 63 (ix (q.1 + (-1)))))).bind fun q13 => (if inb ((q.1 + (-1)) - 1) 80 then (Md_workOut_165_L12 v1 v3 (q.1 + (-1)) q.2.1 (si q.2.2 63 (ix ((q.1 + (-1)) - 1)) q13)) else none)) else none) else none) else none)) else none)) else none)) else none))
set_option maxRecDepth 4000 in
theorem t_Md_workOut_L12 {V : Sm → Wd} (hV : VwT V) {l : Launch} {Γ : Gm} {rF : Option Value} {wF : Wd} {v1 : Int32} {v3 : Int32} {q : Int32 × Int32 × Sm} {o : (Int32 × Int32 × Sm) ⊕ (Sm)} (h : Md_workOut_L12 v1 v3 q = some o) (hK : Sum.elim (hd_Md_workOut_L12 V l Γ rF wF v1 v3) (ps_Md_workOut_L12 V l Γ rF wF v1 v3) o) : hd_Md_workOut_L12 V l Γ rF wF v1 v3 q := by
  unfold Md_workOut_L12 at h
  unfold hd_Md_workOut_L12
  refine g_iload (pc := 12) dX12_workOut_12 rfl ?_
  refine g_sipush (v := 520) (pc := 14) dX12_workOut_14 (by decide) ?_
  refine g_iload_n (pc := 17) dX12_workOut_17 rfl ?_
  refine g_imul (pc := 18) dX12_workOut_18 ?_
  refine g_iload_n (pc := 19) dX12_workOut_19 rfl ?_
  refine g_iadd (pc := 20) dX12_workOut_20 ?_
  refine g_icmp_ge (tgt := 171) (pc := 21) dX12_workOut_21 (by decide) (fun c20 => ?_) (fun c20 => ?_)
  · rw [if_pos c20] at h
    refine g_wk [true, false, false, false, false, false] rfl ?_
    cases h
    exact hK
  · rw [if_neg c20] at h
    refine g_aload_n (pc := 24) dX12_workOut_24 rfl ?_
    refine v_getR hV (pc := 25) dX12_workOut_25 fo_12_6 rfl k0_53 r0_53_6 ?_
    refine g_iload (pc := 28) dX12_workOut_28 rfl ?_
    by_cases c1 : inb q.2.1 2600
    · rw [if_pos c1] at h
      refine v_iald hV (pc := 30) dX12_workOut_30 k0_55 own_55 c1 ?_
      refine g_if_eq (tgt := 45) (pc := 31) dX12_workOut_31 (by decide) (fun c19 => ?_) (fun c19 => ?_)
      · rw [if_pos c19] at h
        exact t_Md_workOut_45_L12 hV h hK
      · rw [if_neg c19] at h
        refine g_aload_n (pc := 34) dX12_workOut_34 rfl ?_
        refine v_getR hV (pc := 35) dX12_workOut_35 fo_12_6 rfl k0_53 r0_53_6 ?_
        refine g_iload (pc := 38) dX12_workOut_38 rfl ?_
        by_cases c8 : inb q.2.1 2600
        · rw [if_pos c8] at h
          refine v_iald hV (pc := 40) dX12_workOut_40 k0_55 own_55 c8 ?_
          refine g_iconst (v := 1) (pc := 41) dX12_workOut_41 (by decide) ?_
          refine g_icmp_ne (tgt := 90) (pc := 42) dX12_workOut_42 (by decide) (fun c18 => ?_) (fun c18 => ?_)
          · rw [if_neg c18] at h
            refine g_aload_n (pc := 90) dX12_workOut_90 rfl ?_
            refine v_getR hV (pc := 91) dX12_workOut_91 fo_12_6 rfl k0_53 r0_53_6 ?_
            refine g_iload (pc := 94) dX12_workOut_94 rfl ?_
            by_cases c9 : inb q.2.1 2600
            · rw [if_pos c9] at h
              refine v_iald hV (pc := 96) dX12_workOut_96 k0_55 own_55 c9 ?_
              refine g_bipush (v := 9) (pc := 97) dX12_workOut_97 (by decide) ?_
              refine g_icmp_ne (tgt := 125) (pc := 99) dX12_workOut_99 (by decide) (fun c17 => ?_) (fun c17 => ?_)
              · rw [if_neg c17] at h
                refine g_iinc (v := q.1 + (-1)) (ls1 := [some (.ref 53), some (.int v1), none, some (.int v3), some (.int (q.1 + (-1))), some (.int q.2.1)]) (pc := 125) dX12_workOut_125 rfl rfl (by decide) rfl ?_
                refine g_aload_n (pc := 128) dX12_workOut_128 rfl ?_
                refine v_getR hV (pc := 129) dX12_workOut_129 fo_12_16 rfl k0_53 r0_53_16 ?_
                refine g_iload (pc := 132) dX12_workOut_132 rfl ?_
                refine g_iconst (v := 1) (pc := 134) dX12_workOut_134 (by decide) ?_
                refine g_isub (pc := 135) dX12_workOut_135 ?_
                refine g_aload_n (pc := 136) dX12_workOut_136 rfl ?_
                refine v_getR hV (pc := 137) dX12_workOut_137 fo_12_6 rfl k0_53 r0_53_6 ?_
                refine g_iload (pc := 140) dX12_workOut_140 rfl ?_
                by_cases c10 : inb q.2.1 2600
                · rw [if_pos c10] at h
                  refine v_iald hV (pc := 142) dX12_workOut_142 k0_55 own_55 c10 ?_
                  refine g_aload_n (pc := 143) dX12_workOut_143 rfl ?_
                  refine v_getR hV (pc := 144) dX12_workOut_144 fo_12_16 rfl k0_53 r0_53_16 ?_
                  refine g_iload (pc := 147) dX12_workOut_147 rfl ?_
                  refine g_iconst (v := 1) (pc := 149) dX12_workOut_149 (by decide) ?_
                  refine g_isub (pc := 150) dX12_workOut_150 ?_
                  by_cases c11 : inb ((q.1 + (-1)) - 1) 80
                  · rw [if_pos c11] at h
                    refine v_iald hV (pc := 151) dX12_workOut_151 k0_63 own_63 c11 ?_
                    refine g_i2l (pc := 152) dX12_workOut_152 ?_
                    refine g_aload_n (pc := 153) dX12_workOut_153 rfl ?_
                    refine v_getR hV (pc := 154) dX12_workOut_154 fo_12_16 rfl k0_53 r0_53_16 ?_
                    refine g_iload (pc := 157) dX12_workOut_157 rfl ?_
                    by_cases c12 : inb (q.1 + (-1)) 80
                    · rw [if_pos c12] at h
                      refine v_iald hV (pc := 159) dX12_workOut_159 k0_63 own_63 c12 ?_
                      refine g_i2l (pc := 160) dX12_workOut_160 ?_
                      obtain ⟨q13, hq13, h⟩ := bnd h
                      refine v_callSi (Mc := mX12_worked) (v := q13) (S1 := q.2.2) (As := [.int (gi q.2.2 55 (ix q.2.1)), .long (Int32.toInt64 (gi q.2.2 63 (ix ((q.1 + (-1)) - 1)))), .long (Int32.toInt64 (gi q.2.2 63 (ix (q.1 + (-1)))))]) (rest := [.int ((q.1 + (-1)) - 1), .ref 63]) (pc := 161) dX12_workOut_161 mK_X12_230 mf_X12_worked rfl rfl (Nat.le_of_ble_eq_true rfl) ⟨Nat.le_of_ble_eq_true rfl, Nat.le_of_ble_eq_true rfl⟩ (r_Md_worked hV hq13) ?_
                      by_cases c14 : inb ((q.1 + (-1)) - 1) 80
                      · rw [if_pos c14] at h
                        refine v_iast hV (pc := 164) dX12_workOut_164 k0_63 own_63 c14 ?_
                        exact t_Md_workOut_165_L12 hV h hK
                      · rw [if_neg c14] at h; cases h
                    · rw [if_neg c12] at h; cases h
                  · rw [if_neg c11] at h; cases h
                · rw [if_neg c10] at h; cases h
              · rw [if_pos c17] at h
                refine g_aload_n (pc := 102) dX12_workOut_102 rfl ?_
                refine v_getR hV (pc := 103) dX12_workOut_103 fo_12_16 rfl k0_53 r0_53_16 ?_
                refine g_iload (pc := 106) dX12_workOut_106 rfl ?_
                refine g_iconst (v := 1) (pc := 108) dX12_workOut_108 (by decide) ?_
                refine g_isub (pc := 109) dX12_workOut_109 ?_
                refine g_iconst (v := 1) (pc := 110) dX12_workOut_110 (by decide) ?_
                refine g_aload_n (pc := 111) dX12_workOut_111 rfl ?_
                refine v_getR hV (pc := 112) dX12_workOut_112 fo_12_16 rfl k0_53 r0_53_16 ?_
                refine g_iload (pc := 115) dX12_workOut_115 rfl ?_
                refine g_iconst (v := 1) (pc := 117) dX12_workOut_117 (by decide) ?_
                refine g_isub (pc := 118) dX12_workOut_118 ?_
                by_cases c15 : inb (q.1 - 1) 80
                · rw [if_pos c15] at h
                  refine v_iald hV (pc := 119) dX12_workOut_119 k0_63 own_63 c15 ?_
                  refine g_isub (pc := 120) dX12_workOut_120 ?_
                  by_cases c16 : inb (q.1 - 1) 80
                  · rw [if_pos c16] at h
                    refine v_iast hV (pc := 121) dX12_workOut_121 k0_63 own_63 c16 ?_
                    refine g_goto (tgt := 165) (pc := 122) dX12_workOut_122 (by decide) ?_
                    exact t_Md_workOut_165_L12 hV h hK
                  · rw [if_neg c16] at h; cases h
                · rw [if_neg c15] at h; cases h
            · rw [if_neg c9] at h; cases h
          · rw [if_pos c18] at h
            exact t_Md_workOut_45_L12 hV h hK
        · rw [if_neg c8] at h; cases h
    · rw [if_neg c1] at h; cases h
set_option maxRecDepth 4000 in
theorem w_Md_workOut_L12 {V : Sm → Wd} (hV : VwT V) {l : Launch} {Γ : Gm} {rF : Option Value} {wF : Wd} {v1 : Int32} {v3 : Int32} {k : Nat} {q : Int32 × Int32 × Sm} {o : Sm} (h : lpN (Md_workOut_L12 v1 v3) k q = some o) (hP : ps_Md_workOut_L12 V l Γ rF wF v1 v3 o) : hd_Md_workOut_L12 V l Γ rF wF v1 v3 q := lpN_ind2 (hd_Md_workOut_L12 V l Γ rF wF v1 v3) (ps_Md_workOut_L12 V l Γ rF wF v1 v3) (fun s o h hK => t_Md_workOut_L12 hV h hK) k q o h hP
def Md_workOut (v1 : Int32) (v2 : Int32) (v3 : Int32) (S : Sm) : Option (Int32 × Sm) := ((lpN (Md_workOut_L12 v1 v3) FU (0, (520 * v1) + v2, S)).bind fun q21 => (some ((gi q21 63 0, q21))))
set_option maxRecDepth 4000 in
theorem r_Md_workOut {V : Sm → Wd} (hV : VwT V) {v1 : Int32} {v2 : Int32} {v3 : Int32} {S : Sm} {q : Int32 × Sm} (h : Md_workOut v1 v2 v3 S = some q) : Runs 3 mX12_workOut [.ref 53, .int v1, .int v2, .int v3] (V S) (some (.int q.1)) (V q.2) 0 0 := by
  unfold Md_workOut at h
  refine Runs.of2 [some (.ref 53), some (.int v1), some (.int v2), some (.int v3), none, none] 2 rfl rfl (Nat.le_of_ble_eq_true rfl) (fun l Γ => ?_)
  refine g_iconst (v := 0) (pc := 0) dX12_workOut_0 (by decide) ?_
  refine g_istore (ls1 := [some (.ref 53), some (.int v1), some (.int v2), some (.int v3), some (.int 0), none]) (pc := 1) dX12_workOut_1 (by decide) rfl ?_
  refine g_sipush (v := 520) (pc := 3) dX12_workOut_3 (by decide) ?_
  refine g_iload_n (pc := 6) dX12_workOut_6 rfl ?_
  refine g_imul (pc := 7) dX12_workOut_7 ?_
  refine g_iload_n (pc := 8) dX12_workOut_8 rfl ?_
  refine g_iadd (pc := 9) dX12_workOut_9 ?_
  refine g_istore (ls1 := [some (.ref 53), some (.int v1), some (.int v2), some (.int v3), some (.int 0), some (.int ((520 * v1) + v2))]) (pc := 10) dX12_workOut_10 (by decide) rfl ?_
  refine g_wk [true, true, false, true, true, true] rfl ?_
  obtain ⟨q21, hqq21, h⟩ := bnd h
  refine w_Md_workOut_L12 hV hqq21 ?_
  unfold ps_Md_workOut_L12
  show G _ _ _ _ _ _ _ _ _ _ _
  refine g_aload_n (pc := 171) dX12_workOut_171 rfl ?_
  refine v_getR hV (pc := 172) dX12_workOut_172 fo_12_16 rfl k0_53 r0_53_16 ?_
  refine g_iconst (v := 0) (pc := 175) dX12_workOut_175 (by decide) ?_
  refine v_ialdK hV (k := 0) (pc := 176) dX12_workOut_176 k0_63 own_63 (by decide) (by decide) ?_
  cases h
  exact g_iret (pc := 177) dX12_workOut_177 rfl rfl (Nat.le_refl _) (Nat.le_refl _)
def hd_Md_worthOf_L6 (V : Sm → Wd) (l : Launch) (Γ : Gm) (rF : Option Value) (wF : Wd) (v1 : Int32) (q : Int32 × Sm) : Prop := G mX12_worthOf l Γ (rmD 4 0 0) (mQ Γ rF wF 0 0) 0 0 6 [some (.ref 53), some (.int v1), some (.int q.1)] [] (V q.2)
def ps_Md_worthOf_L6 (V : Sm → Wd) (l : Launch) (Γ : Gm) (rF : Option Value) (wF : Wd) (v1 : Int32) (x : (Int32 × Sm) ⊕ (Sm)) : Prop := (Sum.elim (fun (a : Int32 × Sm) => G mX12_worthOf l Γ (rmD 4 0 0) (mQ Γ rF wF 0 0) 0 0 57 [some (.ref 53), some (.int v1), some (.int a.1)] [] (V a.2)) (fun (a : Sm) => G mX12_worthOf l Γ (rmD 4 0 0) (mQ Γ rF wF 0 0) 0 0 81 [none, none, none] [] (V a))) x
def Md_worthOf_L6 (v1 : Int32) (q : Int32 × Sm) : Option ((Int32 × Sm) ⊕ ((Int32 × Sm) ⊕ (Sm))) := (if inb v1 5 then (if ((140 * v1) + (gi q.2 58 (ix v1))) ≤ q.1 then (some (.inr (.inr q.2))) else (if inb q.1 700 then (if inb q.1 700 then (if (gi q.2 59 (ix q.1)) = (gi q.2 60 (ix q.1)) then (some (.inr (.inl (q.1, q.2)))) else (if inb q.1 700 then (if inb q.1 700 then ((Md_workOut v1 (gi q.2 59 (ix q.1)) (gi q.2 60 (ix q.1)) q.2).bind fun q6 => (if q6.1 = 0 then (some (.inl (q.1 + 1, q6.2))) else (some (.inr (.inl (q.1, q6.2)))))) else none) else none)) else none) else none)) else none)
set_option maxRecDepth 4000 in
theorem t_Md_worthOf_L6 {V : Sm → Wd} (hV : VwT V) {l : Launch} {Γ : Gm} {rF : Option Value} {wF : Wd} {v1 : Int32} {q : Int32 × Sm} {o : (Int32 × Sm) ⊕ ((Int32 × Sm) ⊕ (Sm))} (h : Md_worthOf_L6 v1 q = some o) (hK : Sum.elim (hd_Md_worthOf_L6 V l Γ rF wF v1) (ps_Md_worthOf_L6 V l Γ rF wF v1) o) : hd_Md_worthOf_L6 V l Γ rF wF v1 q := by
  unfold Md_worthOf_L6 at h
  unfold hd_Md_worthOf_L6
  refine g_iload_n (pc := 6) dX12_worthOf_6 rfl ?_
  refine g_sipush (v := 140) (pc := 7) dX12_worthOf_7 (by decide) ?_
  refine g_iload_n (pc := 10) dX12_worthOf_10 rfl ?_
  refine g_imul (pc := 11) dX12_worthOf_11 ?_
  refine g_aload_n (pc := 12) dX12_worthOf_12 rfl ?_
  refine v_getR hV (pc := 13) dX12_worthOf_13 fo_12_9 rfl k0_53 r0_53_9 ?_
  refine g_iload_n (pc := 16) dX12_worthOf_16 rfl ?_
  by_cases c1 : inb v1 5
  · rw [if_pos c1] at h
    refine v_iald hV (pc := 17) dX12_worthOf_17 k0_58 own_58 c1 ?_
    refine g_iadd (pc := 18) dX12_worthOf_18 ?_
    refine g_icmp_ge (tgt := 81) (pc := 19) dX12_worthOf_19 (by decide) (fun c9 => ?_) (fun c9 => ?_)
    · rw [if_pos c9] at h
      refine g_wk [false, false, false] rfl ?_
      cases h
      exact hK
    · rw [if_neg c9] at h
      refine g_aload_n (pc := 22) dX12_worthOf_22 rfl ?_
      refine v_getR hV (pc := 23) dX12_worthOf_23 fo_12_10 rfl k0_53 r0_53_10 ?_
      refine g_iload_n (pc := 26) dX12_worthOf_26 rfl ?_
      by_cases c2 : inb q.1 700
      · rw [if_pos c2] at h
        refine v_iald hV (pc := 27) dX12_worthOf_27 k0_59 own_59 c2 ?_
        refine g_aload_n (pc := 28) dX12_worthOf_28 rfl ?_
        refine v_getR hV (pc := 29) dX12_worthOf_29 fo_12_11 rfl k0_53 r0_53_11 ?_
        refine g_iload_n (pc := 32) dX12_worthOf_32 rfl ?_
        by_cases c3 : inb q.1 700
        · rw [if_pos c3] at h
          refine v_iald hV (pc := 33) dX12_worthOf_33 k0_60 own_60 c3 ?_
          refine g_icmp_eq (tgt := 57) (pc := 34) dX12_worthOf_34 (by decide) (fun c8 => ?_) (fun c8 => ?_)
          · rw [if_pos c8] at h
            cases h
            exact hK
          · rw [if_neg c8] at h
            refine g_aload_n (pc := 37) dX12_worthOf_37 rfl ?_
            refine g_iload_n (pc := 38) dX12_worthOf_38 rfl ?_
            refine g_aload_n (pc := 39) dX12_worthOf_39 rfl ?_
            refine v_getR hV (pc := 40) dX12_worthOf_40 fo_12_10 rfl k0_53 r0_53_10 ?_
            refine g_iload_n (pc := 43) dX12_worthOf_43 rfl ?_
            by_cases c4 : inb q.1 700
            · rw [if_pos c4] at h
              refine v_iald hV (pc := 44) dX12_worthOf_44 k0_59 own_59 c4 ?_
              refine g_aload_n (pc := 45) dX12_worthOf_45 rfl ?_
              refine v_getR hV (pc := 46) dX12_worthOf_46 fo_12_11 rfl k0_53 r0_53_11 ?_
              refine g_iload_n (pc := 49) dX12_worthOf_49 rfl ?_
              by_cases c5 : inb q.1 700
              · rw [if_pos c5] at h
                refine v_iald hV (pc := 50) dX12_worthOf_50 k0_60 own_60 c5 ?_
                obtain ⟨q6, hq6, h⟩ := bnd h
                refine v_callVi hV (Mc := mX12_workOut) (v := q6.1) (S1 := q6.2) (As := [.int v1, .int (gi q.2 59 (ix q.1)), .int (gi q.2 60 (ix q.1))]) (rest := []) (q := (RX12, TX12, 58)) (pc := 51) dX12_worthOf_51 mK_X12_234 mf_X12_workOut rfl k0_53 rfl rfl rfl (Nat.le_of_ble_eq_true rfl) ⟨Nat.le_of_ble_eq_true rfl, Nat.le_of_ble_eq_true rfl⟩ (r_Md_workOut hV hq6) ?_
                refine g_if_eq (tgt := 75) (pc := 54) dX12_worthOf_54 (by decide) (fun c7 => ?_) (fun c7 => ?_)
                · rw [if_pos c7] at h
                  refine g_iinc (v := q.1 + 1) (ls1 := [some (.ref 53), some (.int v1), some (.int (q.1 + 1))]) (pc := 75) dX12_worthOf_75 rfl rfl (by decide) rfl ?_
                  refine g_goto (tgt := 6) (pc := 78) dX12_worthOf_78 (by decide) ?_
                  cases h
                  exact hK
                · rw [if_neg c7] at h
                  cases h
                  exact hK
              · rw [if_neg c5] at h; cases h
            · rw [if_neg c4] at h; cases h
        · rw [if_neg c3] at h; cases h
      · rw [if_neg c2] at h; cases h
  · rw [if_neg c1] at h; cases h
set_option maxRecDepth 4000 in
theorem w_Md_worthOf_L6 {V : Sm → Wd} (hV : VwT V) {l : Launch} {Γ : Gm} {rF : Option Value} {wF : Wd} {v1 : Int32} {k : Nat} {q : Int32 × Sm} {o : (Int32 × Sm) ⊕ (Sm)} (h : lpN (Md_worthOf_L6 v1) k q = some o) (hP : ps_Md_worthOf_L6 V l Γ rF wF v1 o) : hd_Md_worthOf_L6 V l Γ rF wF v1 q := lpN_ind2 (hd_Md_worthOf_L6 V l Γ rF wF v1) (ps_Md_worthOf_L6 V l Γ rF wF v1) (fun s o h hK => t_Md_worthOf_L6 hV h hK) k q o h hP
def Md_worthOf (v1 : Int32) (S : Sm) : Option (Int32 × Sm) := ((lpN (Md_worthOf_L6 v1) FU (140 * v1, S)).bind fun q10 => (Sum.elim (fun a11 => (if inb a11.1 700 then (if inb a11.1 700 then ((Md_workOut v1 (gi a11.2 60 (ix a11.1)) (gi a11.2 61 (ix a11.1)) a11.2).bind fun q15 => (some ((q15.1, q15.2)))) else none) else none)) (fun a12 => (some ((0, a12)))) q10))
set_option maxRecDepth 4000 in
theorem r_Md_worthOf {V : Sm → Wd} (hV : VwT V) {v1 : Int32} {S : Sm} {q : Int32 × Sm} (h : Md_worthOf v1 S = some q) : Runs 4 mX12_worthOf [.ref 53, .int v1] (V S) (some (.int q.1)) (V q.2) 0 0 := by
  unfold Md_worthOf at h
  refine Runs.of2 [some (.ref 53), some (.int v1), none] 1 rfl rfl (Nat.le_of_ble_eq_true rfl) (fun l Γ => ?_)
  refine g_sipush (v := 140) (pc := 0) dX12_worthOf_0 (by decide) ?_
  refine g_iload_n (pc := 3) dX12_worthOf_3 rfl ?_
  refine g_imul (pc := 4) dX12_worthOf_4 ?_
  refine g_istore_n (ls1 := [some (.ref 53), some (.int v1), some (.int (140 * v1))]) (pc := 5) dX12_worthOf_5 (by decide) rfl ?_
  obtain ⟨q10, hqq10, h⟩ := bnd h
  refine w_Md_worthOf_L6 hV hqq10 ?_
  unfold ps_Md_worthOf_L6
  cases q10 with
  | inl a11 =>
    simp only [Sum.elim_inl] at h
    show G _ _ _ _ _ _ _ _ _ _ _
    refine g_aload_n (pc := 57) dX12_worthOf_57 rfl ?_
    refine g_iload_n (pc := 58) dX12_worthOf_58 rfl ?_
    refine g_aload_n (pc := 59) dX12_worthOf_59 rfl ?_
    refine v_getR hV (pc := 60) dX12_worthOf_60 fo_12_11 rfl k0_53 r0_53_11 ?_
    refine g_iload_n (pc := 63) dX12_worthOf_63 rfl ?_
    by_cases c13 : inb a11.1 700
    · rw [if_pos c13] at h
      refine v_iald hV (pc := 64) dX12_worthOf_64 k0_60 own_60 c13 ?_
      refine g_aload_n (pc := 65) dX12_worthOf_65 rfl ?_
      refine v_getR hV (pc := 66) dX12_worthOf_66 fo_12_12 rfl k0_53 r0_53_12 ?_
      refine g_iload_n (pc := 69) dX12_worthOf_69 rfl ?_
      by_cases c14 : inb a11.1 700
      · rw [if_pos c14] at h
        refine v_iald hV (pc := 70) dX12_worthOf_70 k0_61 own_61 c14 ?_
        obtain ⟨q15, hq15, h⟩ := bnd h
        refine v_callVi hV (Mc := mX12_workOut) (v := q15.1) (S1 := q15.2) (As := [.int v1, .int (gi a11.2 60 (ix a11.1)), .int (gi a11.2 61 (ix a11.1))]) (rest := []) (q := (RX12, TX12, 58)) (pc := 71) dX12_worthOf_71 mK_X12_234 mf_X12_workOut rfl k0_53 rfl rfl rfl (Nat.le_of_ble_eq_true rfl) ⟨Nat.le_of_ble_eq_true rfl, Nat.le_of_ble_eq_true rfl⟩ (r_Md_workOut hV hq15) ?_
        cases h
        exact g_iret (pc := 74) dX12_worthOf_74 rfl rfl (Nat.le_refl _) (Nat.le_refl _)
      · rw [if_neg c14] at h; cases h
    · rw [if_neg c13] at h; cases h
  | inr a12 =>
    simp only [Sum.elim_inr] at h
    show G _ _ _ _ _ _ _ _ _ _ _
    refine g_iconst (v := 0) (pc := 81) dX12_worthOf_81 (by decide) ?_
    cases h
    exact g_iret (pc := 82) dX12_worthOf_82 rfl rfl (Nat.le_refl _) (Nat.le_refl _)
def Md_number_107 (v3 : Int32) (S : Sm) : Option (Int32 × Sm) := (some ((v3, S)))
set_option maxRecDepth 4000 in
theorem t_Md_number_107 {V : Sm → Wd} (hV : VwT V) {l : Launch} {Γ : Gm} {v3 : Int32} {S : Sm} {q : Int32 × Sm} (h : Md_number_107 v3 S = some q) : G mX12_number l Γ (rmD 2 0 0) (mQ Γ (some (.int q.1)) (V q.2) 0 0) 0 0 107 [none, none, none, some (.int v3)] [] (V S) := by
  unfold Md_number_107 at h
  refine g_iload_n (pc := 107) dX12_number_107 rfl ?_
  cases h
  exact g_iret (pc := 108) dX12_number_108 rfl rfl (Nat.le_refl _) (Nat.le_refl _)
def Md_number_67 (v1 : Int32) (v2 : Int32) (v3 : Int32) (S : Sm) : Option (Int32 × Sm) := ((Md_here S).bind fun q4 => (if (Md_isDigit q4) = 0 then (if (Md_in v3 v1 v2) = 0 then (app (Md_bad (si S 53 3 ((gi S 53 3) - 1))) fun q5 => (Md_number_107 v3 q5)) else (Md_number_107 v3 S)) else (app (Md_bad S) fun q7 => (Md_number_107 v3 q7))))
set_option maxRecDepth 4000 in
theorem t_Md_number_67 {V : Sm → Wd} (hV : VwT V) {l : Launch} {Γ : Gm} {v1 : Int32} {v2 : Int32} {v3 : Int32} {S : Sm} {q : Int32 × Sm} (h : Md_number_67 v1 v2 v3 S = some q) : G mX12_number l Γ (rmD 2 0 0) (mQ Γ (some (.int q.1)) (V q.2) 0 0) 0 0 67 [some (.ref 53), some (.int v1), some (.int v2), some (.int v3)] [] (V S) := by
  unfold Md_number_67 at h
  refine g_aload_n (pc := 67) dX12_number_67 rfl ?_
  obtain ⟨q4, hq4, h⟩ := bnd h
  refine v_callVi hV (Mc := mX12_here) (v := q4) (S1 := S) (As := []) (rest := []) (q := (RX12, TX12, 58)) (pc := 68) dX12_number_68 mK_X12_136 mf_X12_here rfl k0_53 rfl rfl rfl (Nat.le_of_ble_eq_true rfl) ⟨Nat.le_of_ble_eq_true rfl, Nat.le_of_ble_eq_true rfl⟩ (r_Md_here hV hq4) ?_
  refine v_callSi (Mc := mX12_isDigit) (v := Md_isDigit q4) (S1 := S) (As := [.int q4]) (rest := []) (pc := 71) dX12_number_71 mK_X12_155 mf_X12_isDigit rfl rfl (Nat.le_of_ble_eq_true rfl) ⟨Nat.le_of_ble_eq_true rfl, Nat.le_of_ble_eq_true rfl⟩ (r_Md_isDigit hV rfl) ?_
  refine g_if_eq (tgt := 84) (pc := 74) dX12_number_74 (by decide) (fun c8 => ?_) (fun c8 => ?_)
  · rw [if_pos c8] at h
    refine g_iload_n (pc := 84) dX12_number_84 rfl ?_
    refine g_iload_n (pc := 85) dX12_number_85 rfl ?_
    refine g_iload_n (pc := 86) dX12_number_86 rfl ?_
    refine v_callSi (Mc := mX12_in) (v := Md_in v3 v1 v2) (S1 := S) (As := [.int v3, .int v1, .int v2]) (rest := []) (pc := 87) dX12_number_87 mK_X12_238 mf_X12_in rfl rfl (Nat.le_of_ble_eq_true rfl) ⟨Nat.le_of_ble_eq_true rfl, Nat.le_of_ble_eq_true rfl⟩ (r_Md_in hV rfl) ?_
    refine g_if_ne (tgt := 107) (pc := 90) dX12_number_90 (by decide) (fun c6 => ?_) (fun c6 => ?_)
    · rw [if_neg c6] at h
      refine g_wk [false, false, false, true] rfl ?_
      exact t_Md_number_107 hV h
    · rw [if_pos c6] at h
      refine g_aload_n (pc := 93) dX12_number_93 rfl ?_
      refine g_dup (pc := 94) dX12_number_94 rfl ?_
      refine v_getI hV (pc := 95) dX12_number_95 fo_12_3 rfl k0_53 own_53 ?_
      refine g_iconst (v := 1) (pc := 98) dX12_number_98 (by decide) ?_
      refine g_isub (pc := 99) dX12_number_99 ?_
      refine v_putI hV (pc := 100) dX12_number_100 fo_12_3 rfl k0_53 own_53 rfl ?_
      refine g_aload_n (pc := 103) dX12_number_103 rfl ?_
      obtain ⟨q5, hq5, h⟩ := app_of h
      refine v_callVv hV (Mc := mX12_bad) (S1 := q5) (As := []) (rest := []) (q := (RX12, TX12, 58)) (pc := 104) dX12_number_104 mK_X12_149 mf_X12_bad rfl k0_53 rfl rfl rfl (Nat.le_of_ble_eq_true rfl) ⟨Nat.le_of_ble_eq_true rfl, Nat.le_of_ble_eq_true rfl⟩ (r_Md_bad hV hq5) ?_
      refine g_wk [false, false, false, true] rfl ?_
      exact t_Md_number_107 hV h
  · rw [if_neg c8] at h
    refine g_aload_n (pc := 77) dX12_number_77 rfl ?_
    obtain ⟨q7, hq7, h⟩ := app_of h
    refine v_callVv hV (Mc := mX12_bad) (S1 := q7) (As := []) (rest := []) (q := (RX12, TX12, 58)) (pc := 78) dX12_number_78 mK_X12_149 mf_X12_bad rfl k0_53 rfl rfl rfl (Nat.le_of_ble_eq_true rfl) ⟨Nat.le_of_ble_eq_true rfl, Nat.le_of_ble_eq_true rfl⟩ (r_Md_bad hV hq7) ?_
    refine g_goto (tgt := 107) (pc := 81) dX12_number_81 (by decide) ?_
    refine g_wk [false, false, false, true] rfl ?_
    exact t_Md_number_107 hV h
def Md_number (v1 : Int32) (v2 : Int32) (S : Sm) : Option (Int32 × Sm) := ((Md_look S).bind fun q1 => (if (Md_isDigit q1.1) = 0 then (app (Md_bad q1.2) fun q11 => (some ((v1, q11)))) else ((Md_here q1.2).bind fun q2 => ((Md_here (si q1.2 53 3 ((gi q1.2 53 3) + 1))).bind fun q3 => (if (Md_isDigit q3) = 0 then (Md_number_67 v1 v2 (q2 - 48) (si q1.2 53 3 ((gi q1.2 53 3) + 1))) else ((Md_here (si q1.2 53 3 ((gi q1.2 53 3) + 1))).bind fun q9 => (Md_number_67 v1 v2 (((10 * (q2 - 48)) + q9) - 48) (si (si q1.2 53 3 ((gi q1.2 53 3) + 1)) 53 3 ((gi (si q1.2 53 3 ((gi q1.2 53 3) + 1)) 53 3) + 1)))))))))
set_option maxRecDepth 4000 in
theorem r_Md_number {V : Sm → Wd} (hV : VwT V) {v1 : Int32} {v2 : Int32} {S : Sm} {q : Int32 × Sm} (h : Md_number v1 v2 S = some q) : Runs 2 mX12_number [.ref 53, .int v1, .int v2] (V S) (some (.int q.1)) (V q.2) 0 0 := by
  unfold Md_number at h
  refine Runs.of2 [some (.ref 53), some (.int v1), some (.int v2), none] 1 rfl rfl (Nat.le_of_ble_eq_true rfl) (fun l Γ => ?_)
  refine g_aload_n (pc := 0) dX12_number_0 rfl ?_
  obtain ⟨q1, hq1, h⟩ := bnd h
  refine v_callVi hV (Mc := mX12_look) (v := q1.1) (S1 := q1.2) (As := []) (rest := []) (q := (RX12, TX12, 58)) (pc := 1) dX12_number_1 mK_X12_152 mf_X12_look rfl k0_53 rfl rfl rfl (Nat.le_of_ble_eq_true rfl) ⟨Nat.le_of_ble_eq_true rfl, Nat.le_of_ble_eq_true rfl⟩ (r_Md_look hV hq1) ?_
  refine v_callSi (Mc := mX12_isDigit) (v := Md_isDigit q1.1) (S1 := q1.2) (As := [.int q1.1]) (rest := []) (pc := 4) dX12_number_4 mK_X12_155 mf_X12_isDigit rfl rfl (Nat.le_of_ble_eq_true rfl) ⟨Nat.le_of_ble_eq_true rfl, Nat.le_of_ble_eq_true rfl⟩ (r_Md_isDigit hV rfl) ?_
  refine g_if_ne (tgt := 16) (pc := 7) dX12_number_7 (by decide) (fun c12 => ?_) (fun c12 => ?_)
  · rw [if_neg c12] at h
    refine g_aload_n (pc := 16) dX12_number_16 rfl ?_
    obtain ⟨q2, hq2, h⟩ := bnd h
    refine v_callVi hV (Mc := mX12_here) (v := q2) (S1 := q1.2) (As := []) (rest := []) (q := (RX12, TX12, 58)) (pc := 17) dX12_number_17 mK_X12_136 mf_X12_here rfl k0_53 rfl rfl rfl (Nat.le_of_ble_eq_true rfl) ⟨Nat.le_of_ble_eq_true rfl, Nat.le_of_ble_eq_true rfl⟩ (r_Md_here hV hq2) ?_
    refine g_bipush (v := 48) (pc := 20) dX12_number_20 (by decide) ?_
    refine g_isub (pc := 22) dX12_number_22 ?_
    refine g_istore_n (ls1 := [some (.ref 53), some (.int v1), some (.int v2), some (.int (q2 - 48))]) (pc := 23) dX12_number_23 (by decide) rfl ?_
    refine g_aload_n (pc := 24) dX12_number_24 rfl ?_
    refine g_dup (pc := 25) dX12_number_25 rfl ?_
    refine v_getI hV (pc := 26) dX12_number_26 fo_12_3 rfl k0_53 own_53 ?_
    refine g_iconst (v := 1) (pc := 29) dX12_number_29 (by decide) ?_
    refine g_iadd (pc := 30) dX12_number_30 ?_
    refine v_putI hV (pc := 31) dX12_number_31 fo_12_3 rfl k0_53 own_53 rfl ?_
    refine g_aload_n (pc := 34) dX12_number_34 rfl ?_
    obtain ⟨q3, hq3, h⟩ := bnd h
    refine v_callVi hV (Mc := mX12_here) (v := q3) (S1 := si q1.2 53 3 ((gi q1.2 53 3) + 1)) (As := []) (rest := []) (q := (RX12, TX12, 58)) (pc := 35) dX12_number_35 mK_X12_136 mf_X12_here rfl k0_53 rfl rfl rfl (Nat.le_of_ble_eq_true rfl) ⟨Nat.le_of_ble_eq_true rfl, Nat.le_of_ble_eq_true rfl⟩ (r_Md_here hV hq3) ?_
    refine v_callSi (Mc := mX12_isDigit) (v := Md_isDigit q3) (S1 := si q1.2 53 3 ((gi q1.2 53 3) + 1)) (As := [.int q3]) (rest := []) (pc := 38) dX12_number_38 mK_X12_155 mf_X12_isDigit rfl rfl (Nat.le_of_ble_eq_true rfl) ⟨Nat.le_of_ble_eq_true rfl, Nat.le_of_ble_eq_true rfl⟩ (r_Md_isDigit hV rfl) ?_
    refine g_if_eq (tgt := 67) (pc := 41) dX12_number_41 (by decide) (fun c10 => ?_) (fun c10 => ?_)
    · rw [if_pos c10] at h
      exact t_Md_number_67 hV h
    · rw [if_neg c10] at h
      refine g_bipush (v := 10) (pc := 44) dX12_number_44 (by decide) ?_
      refine g_iload_n (pc := 46) dX12_number_46 rfl ?_
      refine g_imul (pc := 47) dX12_number_47 ?_
      refine g_aload_n (pc := 48) dX12_number_48 rfl ?_
      obtain ⟨q9, hq9, h⟩ := bnd h
      refine v_callVi hV (Mc := mX12_here) (v := q9) (S1 := si q1.2 53 3 ((gi q1.2 53 3) + 1)) (As := []) (rest := [.int (10 * (q2 - 48))]) (q := (RX12, TX12, 58)) (pc := 49) dX12_number_49 mK_X12_136 mf_X12_here rfl k0_53 rfl rfl rfl (Nat.le_of_ble_eq_true rfl) ⟨Nat.le_of_ble_eq_true rfl, Nat.le_of_ble_eq_true rfl⟩ (r_Md_here hV hq9) ?_
      refine g_iadd (pc := 52) dX12_number_52 ?_
      refine g_bipush (v := 48) (pc := 53) dX12_number_53 (by decide) ?_
      refine g_isub (pc := 55) dX12_number_55 ?_
      refine g_istore_n (ls1 := [some (.ref 53), some (.int v1), some (.int v2), some (.int (((10 * (q2 - 48)) + q9) - 48))]) (pc := 56) dX12_number_56 (by decide) rfl ?_
      refine g_aload_n (pc := 57) dX12_number_57 rfl ?_
      refine g_dup (pc := 58) dX12_number_58 rfl ?_
      refine v_getI hV (pc := 59) dX12_number_59 fo_12_3 rfl k0_53 own_53 ?_
      refine g_iconst (v := 1) (pc := 62) dX12_number_62 (by decide) ?_
      refine g_iadd (pc := 63) dX12_number_63 ?_
      refine v_putI hV (pc := 64) dX12_number_64 fo_12_3 rfl k0_53 own_53 rfl ?_
      exact t_Md_number_67 hV h
  · rw [if_pos c12] at h
    refine g_aload_n (pc := 10) dX12_number_10 rfl ?_
    obtain ⟨q11, hq11, h⟩ := app_of h
    refine v_callVv hV (Mc := mX12_bad) (S1 := q11) (As := []) (rest := []) (q := (RX12, TX12, 58)) (pc := 11) dX12_number_11 mK_X12_149 mf_X12_bad rfl k0_53 rfl rfl rfl (Nat.le_of_ble_eq_true rfl) ⟨Nat.le_of_ble_eq_true rfl, Nat.le_of_ble_eq_true rfl⟩ (r_Md_bad hV hq11) ?_
    refine g_iload_n (pc := 14) dX12_number_14 rfl ?_
    cases h
    exact g_iret (pc := 15) dX12_number_15 rfl rfl (Nat.le_refl _) (Nat.le_refl _)
def Md_itemOf_77 (s0 : Int32) : Int32 := s0
set_option maxRecDepth 4000 in
theorem t_Md_itemOf_77 {V : Sm → Wd} (hV : VwT V) {l : Launch} {Γ : Gm} {s0 : Int32} {S : Sm} {q : Int32} (h : Md_itemOf_77 s0 = q) : G mX12_itemOf l Γ (rmD 0 0 0) (mQ Γ (some (.int q)) (V S) 0 0) 0 0 77 [none, none] [.int s0] (V S) := by
  unfold Md_itemOf_77 at h
  subst h
  exact g_iret (pc := 77) dX12_itemOf_77 rfl rfl (Nat.le_refl _) (Nat.le_refl _)
def Md_itemOf_161 (s0 : Int32) : Int32 := s0
set_option maxRecDepth 4000 in
theorem t_Md_itemOf_161 {V : Sm → Wd} (hV : VwT V) {l : Launch} {Γ : Gm} {s0 : Int32} {S : Sm} {q : Int32} (h : Md_itemOf_161 s0 = q) : G mX12_itemOf l Γ (rmD 0 0 0) (mQ Γ (some (.int q)) (V S) 0 0) 0 0 161 [none, none] [.int s0] (V S) := by
  unfold Md_itemOf_161 at h
  subst h
  exact g_iret (pc := 161) dX12_itemOf_161 rfl rfl (Nat.le_refl _) (Nat.le_refl _)
def Md_itemOf_119 (s0 : Int32) : Int32 := s0
set_option maxRecDepth 4000 in
theorem t_Md_itemOf_119 {V : Sm → Wd} (hV : VwT V) {l : Launch} {Γ : Gm} {s0 : Int32} {S : Sm} {q : Int32} (h : Md_itemOf_119 s0 = q) : G mX12_itemOf l Γ (rmD 0 0 0) (mQ Γ (some (.int q)) (V S) 0 0) 0 0 119 [none, none] [.int s0] (V S) := by
  unfold Md_itemOf_119 at h
  subst h
  exact g_iret (pc := 119) dX12_itemOf_119 rfl rfl (Nat.le_refl _) (Nat.le_refl _)
def Md_itemOf_173 (s0 : Int32) : Int32 := s0
set_option maxRecDepth 4000 in
theorem t_Md_itemOf_173 {V : Sm → Wd} (hV : VwT V) {l : Launch} {Γ : Gm} {s0 : Int32} {S : Sm} {q : Int32} (h : Md_itemOf_173 s0 = q) : G mX12_itemOf l Γ (rmD 0 0 0) (mQ Γ (some (.int q)) (V S) 0 0) 0 0 173 [none, none] [.int s0] (V S) := by
  unfold Md_itemOf_173 at h
  subst h
  exact g_iret (pc := 173) dX12_itemOf_173 rfl rfl (Nat.le_refl _) (Nat.le_refl _)
def Md_itemOf (v0 : Int32) (v1 : Int32) : Int32 := (if v0 = (110 : Int32) then (if v1 = 109 then (Md_itemOf_77 0) else (if v1 = 99 then (Md_itemOf_77 1) else (if v1 = 104 then (Md_itemOf_77 2) else (if v1 = 102 then (Md_itemOf_77 3) else (Md_itemOf_77 ((-1))))))) else (if v0 = (114 : Int32) then (if v1 = 97 then (Md_itemOf_161 0) else (if v1 = 99 then (Md_itemOf_161 1) else (if v1 = 104 then (Md_itemOf_161 2) else (if v1 = 100 then (Md_itemOf_161 3) else (Md_itemOf_161 ((-1))))))) else (if v0 = (116 : Int32) then (if v1 = 97 then (Md_itemOf_119 0) else (if v1 = 99 then (Md_itemOf_119 1) else (if v1 = 98 then (Md_itemOf_119 2) else (if v1 = 108 then (Md_itemOf_119 3) else (Md_itemOf_119 ((-1))))))) else (if v1 = 97 then (Md_itemOf_173 0) else (Md_itemOf_173 ((-1)))))))
set_option maxRecDepth 4000 in
theorem r_Md_itemOf {V : Sm → Wd} (hV : VwT V) {v0 : Int32} {v1 : Int32} {S : Sm} {q : Int32} (h : Md_itemOf v0 v1 = q) : Runs 0 mX12_itemOf [.int v0, .int v1] (V S) (some (.int q)) (V S) 0 0 := by
  unfold Md_itemOf at h
  refine Runs.of2 [some (.int v0), some (.int v1)] 0 rfl rfl (Nat.le_of_ble_eq_true rfl) (fun l Γ => ?_)
  refine g_iload_n (pc := 0) dX12_itemOf_0 rfl ?_
  by_cases c1 : v0 = (110 : Int32)
  · rw [if_pos c1] at h
    refine g_lookup (off := 35) (tgt := 36) (pc := 1) dX12_itemOf_1 (by decide) (by rw [c1]; rfl) (by decide) ?_
    refine g_iload_n (pc := 36) dX12_itemOf_36 rfl ?_
    refine g_bipush (v := 109) (pc := 37) dX12_itemOf_37 (by decide) ?_
    refine g_icmp_ne (tgt := 46) (pc := 39) dX12_itemOf_39 (by decide) (fun c5 => ?_) (fun c5 => ?_)
    · rw [if_neg c5] at h
      refine g_iload_n (pc := 46) dX12_itemOf_46 rfl ?_
      refine g_bipush (v := 99) (pc := 47) dX12_itemOf_47 (by decide) ?_
      refine g_icmp_ne (tgt := 56) (pc := 49) dX12_itemOf_49 (by decide) (fun c4 => ?_) (fun c4 => ?_)
      · rw [if_neg c4] at h
        refine g_iload_n (pc := 56) dX12_itemOf_56 rfl ?_
        refine g_bipush (v := 104) (pc := 57) dX12_itemOf_57 (by decide) ?_
        refine g_icmp_ne (tgt := 66) (pc := 59) dX12_itemOf_59 (by decide) (fun c3 => ?_) (fun c3 => ?_)
        · rw [if_neg c3] at h
          refine g_iload_n (pc := 66) dX12_itemOf_66 rfl ?_
          refine g_bipush (v := 102) (pc := 67) dX12_itemOf_67 (by decide) ?_
          refine g_icmp_ne (tgt := 76) (pc := 69) dX12_itemOf_69 (by decide) (fun c2 => ?_) (fun c2 => ?_)
          · rw [if_neg c2] at h
            refine g_iconst (v := (-1)) (pc := 76) dX12_itemOf_76 (by decide) ?_
            refine g_wk [false, false] rfl ?_
            exact t_Md_itemOf_77 hV h
          · rw [if_pos c2] at h
            refine g_iconst (v := 3) (pc := 72) dX12_itemOf_72 (by decide) ?_
            refine g_goto (tgt := 77) (pc := 73) dX12_itemOf_73 (by decide) ?_
            refine g_wk [false, false] rfl ?_
            exact t_Md_itemOf_77 hV h
        · rw [if_pos c3] at h
          refine g_iconst (v := 2) (pc := 62) dX12_itemOf_62 (by decide) ?_
          refine g_goto (tgt := 77) (pc := 63) dX12_itemOf_63 (by decide) ?_
          refine g_wk [false, false] rfl ?_
          exact t_Md_itemOf_77 hV h
      · rw [if_pos c4] at h
        refine g_iconst (v := 1) (pc := 52) dX12_itemOf_52 (by decide) ?_
        refine g_goto (tgt := 77) (pc := 53) dX12_itemOf_53 (by decide) ?_
        refine g_wk [false, false] rfl ?_
        exact t_Md_itemOf_77 hV h
    · rw [if_pos c5] at h
      refine g_iconst (v := 0) (pc := 42) dX12_itemOf_42 (by decide) ?_
      refine g_goto (tgt := 77) (pc := 43) dX12_itemOf_43 (by decide) ?_
      refine g_wk [false, false] rfl ?_
      exact t_Md_itemOf_77 hV h
  · rw [if_neg c1] at h
    by_cases c6 : v0 = (114 : Int32)
    · rw [if_pos c6] at h
      refine g_lookup (off := 119) (tgt := 120) (pc := 1) dX12_itemOf_1 (by decide) ((lv_osw c1 rfl).trans (by rw [c6]; rfl)) (by decide) ?_
      refine g_iload_n (pc := 120) dX12_itemOf_120 rfl ?_
      refine g_bipush (v := 97) (pc := 121) dX12_itemOf_121 (by decide) ?_
      refine g_icmp_ne (tgt := 130) (pc := 123) dX12_itemOf_123 (by decide) (fun c10 => ?_) (fun c10 => ?_)
      · rw [if_neg c10] at h
        refine g_iload_n (pc := 130) dX12_itemOf_130 rfl ?_
        refine g_bipush (v := 99) (pc := 131) dX12_itemOf_131 (by decide) ?_
        refine g_icmp_ne (tgt := 140) (pc := 133) dX12_itemOf_133 (by decide) (fun c9 => ?_) (fun c9 => ?_)
        · rw [if_neg c9] at h
          refine g_iload_n (pc := 140) dX12_itemOf_140 rfl ?_
          refine g_bipush (v := 104) (pc := 141) dX12_itemOf_141 (by decide) ?_
          refine g_icmp_ne (tgt := 150) (pc := 143) dX12_itemOf_143 (by decide) (fun c8 => ?_) (fun c8 => ?_)
          · rw [if_neg c8] at h
            refine g_iload_n (pc := 150) dX12_itemOf_150 rfl ?_
            refine g_bipush (v := 100) (pc := 151) dX12_itemOf_151 (by decide) ?_
            refine g_icmp_ne (tgt := 160) (pc := 153) dX12_itemOf_153 (by decide) (fun c7 => ?_) (fun c7 => ?_)
            · rw [if_neg c7] at h
              refine g_iconst (v := (-1)) (pc := 160) dX12_itemOf_160 (by decide) ?_
              refine g_wk [false, false] rfl ?_
              exact t_Md_itemOf_161 hV h
            · rw [if_pos c7] at h
              refine g_iconst (v := 3) (pc := 156) dX12_itemOf_156 (by decide) ?_
              refine g_goto (tgt := 161) (pc := 157) dX12_itemOf_157 (by decide) ?_
              refine g_wk [false, false] rfl ?_
              exact t_Md_itemOf_161 hV h
          · rw [if_pos c8] at h
            refine g_iconst (v := 2) (pc := 146) dX12_itemOf_146 (by decide) ?_
            refine g_goto (tgt := 161) (pc := 147) dX12_itemOf_147 (by decide) ?_
            refine g_wk [false, false] rfl ?_
            exact t_Md_itemOf_161 hV h
        · rw [if_pos c9] at h
          refine g_iconst (v := 1) (pc := 136) dX12_itemOf_136 (by decide) ?_
          refine g_goto (tgt := 161) (pc := 137) dX12_itemOf_137 (by decide) ?_
          refine g_wk [false, false] rfl ?_
          exact t_Md_itemOf_161 hV h
      · rw [if_pos c10] at h
        refine g_iconst (v := 0) (pc := 126) dX12_itemOf_126 (by decide) ?_
        refine g_goto (tgt := 161) (pc := 127) dX12_itemOf_127 (by decide) ?_
        refine g_wk [false, false] rfl ?_
        exact t_Md_itemOf_161 hV h
    · rw [if_neg c6] at h
      by_cases c11 : v0 = (116 : Int32)
      · rw [if_pos c11] at h
        refine g_lookup (off := 77) (tgt := 78) (pc := 1) dX12_itemOf_1 (by decide) ((lv_osw c1 rfl).trans ((lv_osw c6 rfl).trans (by rw [c11]; rfl))) (by decide) ?_
        refine g_iload_n (pc := 78) dX12_itemOf_78 rfl ?_
        refine g_bipush (v := 97) (pc := 79) dX12_itemOf_79 (by decide) ?_
        refine g_icmp_ne (tgt := 88) (pc := 81) dX12_itemOf_81 (by decide) (fun c15 => ?_) (fun c15 => ?_)
        · rw [if_neg c15] at h
          refine g_iload_n (pc := 88) dX12_itemOf_88 rfl ?_
          refine g_bipush (v := 99) (pc := 89) dX12_itemOf_89 (by decide) ?_
          refine g_icmp_ne (tgt := 98) (pc := 91) dX12_itemOf_91 (by decide) (fun c14 => ?_) (fun c14 => ?_)
          · rw [if_neg c14] at h
            refine g_iload_n (pc := 98) dX12_itemOf_98 rfl ?_
            refine g_bipush (v := 98) (pc := 99) dX12_itemOf_99 (by decide) ?_
            refine g_icmp_ne (tgt := 108) (pc := 101) dX12_itemOf_101 (by decide) (fun c13 => ?_) (fun c13 => ?_)
            · rw [if_neg c13] at h
              refine g_iload_n (pc := 108) dX12_itemOf_108 rfl ?_
              refine g_bipush (v := 108) (pc := 109) dX12_itemOf_109 (by decide) ?_
              refine g_icmp_ne (tgt := 118) (pc := 111) dX12_itemOf_111 (by decide) (fun c12 => ?_) (fun c12 => ?_)
              · rw [if_neg c12] at h
                refine g_iconst (v := (-1)) (pc := 118) dX12_itemOf_118 (by decide) ?_
                refine g_wk [false, false] rfl ?_
                exact t_Md_itemOf_119 hV h
              · rw [if_pos c12] at h
                refine g_iconst (v := 3) (pc := 114) dX12_itemOf_114 (by decide) ?_
                refine g_goto (tgt := 119) (pc := 115) dX12_itemOf_115 (by decide) ?_
                refine g_wk [false, false] rfl ?_
                exact t_Md_itemOf_119 hV h
            · rw [if_pos c13] at h
              refine g_iconst (v := 2) (pc := 104) dX12_itemOf_104 (by decide) ?_
              refine g_goto (tgt := 119) (pc := 105) dX12_itemOf_105 (by decide) ?_
              refine g_wk [false, false] rfl ?_
              exact t_Md_itemOf_119 hV h
          · rw [if_pos c14] at h
            refine g_iconst (v := 1) (pc := 94) dX12_itemOf_94 (by decide) ?_
            refine g_goto (tgt := 119) (pc := 95) dX12_itemOf_95 (by decide) ?_
            refine g_wk [false, false] rfl ?_
            exact t_Md_itemOf_119 hV h
        · rw [if_pos c15] at h
          refine g_iconst (v := 0) (pc := 84) dX12_itemOf_84 (by decide) ?_
          refine g_goto (tgt := 119) (pc := 85) dX12_itemOf_85 (by decide) ?_
          refine g_wk [false, false] rfl ?_
          exact t_Md_itemOf_119 hV h
      · rw [if_neg c11] at h
        refine g_lookup (off := 161) (tgt := 162) (pc := 1) dX12_itemOf_1 (by decide) ((lv_osw c1 rfl).trans ((lv_osw c6 rfl).trans ((lv_osw c11 rfl).trans (rfl)))) (by decide) ?_
        refine g_iload_n (pc := 162) dX12_itemOf_162 rfl ?_
        refine g_bipush (v := 97) (pc := 163) dX12_itemOf_163 (by decide) ?_
        refine g_icmp_ne (tgt := 172) (pc := 165) dX12_itemOf_165 (by decide) (fun c16 => ?_) (fun c16 => ?_)
        · rw [if_neg c16] at h
          refine g_iconst (v := (-1)) (pc := 172) dX12_itemOf_172 (by decide) ?_
          refine g_wk [false, false] rfl ?_
          exact t_Md_itemOf_173 hV h
        · rw [if_pos c16] at h
          refine g_iconst (v := 0) (pc := 168) dX12_itemOf_168 (by decide) ?_
          refine g_goto (tgt := 173) (pc := 169) dX12_itemOf_169 (by decide) ?_
          refine g_wk [false, false] rfl ?_
          exact t_Md_itemOf_173 hV h
def Md_lowest_27 (s0 : Int32) : Int32 := s0
set_option maxRecDepth 4000 in
theorem t_Md_lowest_27 {V : Sm → Wd} (hV : VwT V) {l : Launch} {Γ : Gm} {s0 : Int32} {S : Sm} {q : Int32} (h : Md_lowest_27 s0 = q) : G mX12_lowest l Γ (rmD 0 0 0) (mQ Γ (some (.int q)) (V S) 0 0) 0 0 27 [none, none] [.int s0] (V S) := by
  unfold Md_lowest_27 at h
  subst h
  exact g_iret (pc := 27) dX12_lowest_27 rfl rfl (Nat.le_refl _) (Nat.le_refl _)
def Md_lowest_26  : Int32 := (Md_lowest_27 0)
set_option maxRecDepth 4000 in
theorem t_Md_lowest_26 {V : Sm → Wd} (hV : VwT V) {l : Launch} {Γ : Gm}  {S : Sm} {q : Int32} (h : Md_lowest_26 = q) : G mX12_lowest l Γ (rmD 0 0 0) (mQ Γ (some (.int q)) (V S) 0 0) 0 0 26 [none, none] [] (V S) := by
  unfold Md_lowest_26 at h
  refine g_iconst (v := 0) (pc := 26) dX12_lowest_26 (by decide) ?_
  exact t_Md_lowest_27 hV h
def Md_lowest_22  : Int32 := (Md_lowest_27 1)
set_option maxRecDepth 4000 in
theorem t_Md_lowest_22 {V : Sm → Wd} (hV : VwT V) {l : Launch} {Γ : Gm}  {S : Sm} {q : Int32} (h : Md_lowest_22 = q) : G mX12_lowest l Γ (rmD 0 0 0) (mQ Γ (some (.int q)) (V S) 0 0) 0 0 22 [none, none] [] (V S) := by
  unfold Md_lowest_22 at h
  refine g_iconst (v := 1) (pc := 22) dX12_lowest_22 (by decide) ?_
  refine g_goto (tgt := 27) (pc := 23) dX12_lowest_23 (by decide) ?_
  exact t_Md_lowest_27 hV h
def Md_lowest_11 (v0 : Int32) (v1 : Int32) : Int32 := (if v0 = 116 then (if v1 = 3 then Md_lowest_22 else Md_lowest_26) else Md_lowest_26)
set_option maxRecDepth 4000 in
theorem t_Md_lowest_11 {V : Sm → Wd} (hV : VwT V) {l : Launch} {Γ : Gm} {v0 : Int32} {v1 : Int32} {S : Sm} {q : Int32} (h : Md_lowest_11 v0 v1 = q) : G mX12_lowest l Γ (rmD 0 0 0) (mQ Γ (some (.int q)) (V S) 0 0) 0 0 11 [some (.int v0), some (.int v1)] [] (V S) := by
  unfold Md_lowest_11 at h
  refine g_iload_n (pc := 11) dX12_lowest_11 rfl ?_
  refine g_bipush (v := 116) (pc := 12) dX12_lowest_12 (by decide) ?_
  refine g_icmp_ne (tgt := 26) (pc := 14) dX12_lowest_14 (by decide) (fun c2 => ?_) (fun c2 => ?_)
  · rw [if_neg c2] at h
    refine g_wk [false, false] rfl ?_
    exact t_Md_lowest_26 hV h
  · rw [if_pos c2] at h
    refine g_iload_n (pc := 17) dX12_lowest_17 rfl ?_
    refine g_iconst (v := 3) (pc := 18) dX12_lowest_18 (by decide) ?_
    refine g_icmp_ne (tgt := 26) (pc := 19) dX12_lowest_19 (by decide) (fun c1 => ?_) (fun c1 => ?_)
    · rw [if_neg c1] at h
      refine g_wk [false, false] rfl ?_
      exact t_Md_lowest_26 hV h
    · rw [if_pos c1] at h
      refine g_wk [false, false] rfl ?_
      exact t_Md_lowest_22 hV h
def Md_lowest (v0 : Int32) (v1 : Int32) : Int32 := (if v0 = 110 then (if v1 ≤ 1 then Md_lowest_22 else (Md_lowest_11 v0 v1)) else (Md_lowest_11 v0 v1))
set_option maxRecDepth 4000 in
theorem r_Md_lowest {V : Sm → Wd} (hV : VwT V) {v0 : Int32} {v1 : Int32} {S : Sm} {q : Int32} (h : Md_lowest v0 v1 = q) : Runs 0 mX12_lowest [.int v0, .int v1] (V S) (some (.int q)) (V S) 0 0 := by
  unfold Md_lowest at h
  refine Runs.of2 [some (.int v0), some (.int v1)] 0 rfl rfl (Nat.le_of_ble_eq_true rfl) (fun l Γ => ?_)
  refine g_iload_n (pc := 0) dX12_lowest_0 rfl ?_
  refine g_bipush (v := 110) (pc := 1) dX12_lowest_1 (by decide) ?_
  refine g_icmp_ne (tgt := 11) (pc := 3) dX12_lowest_3 (by decide) (fun c4 => ?_) (fun c4 => ?_)
  · rw [if_neg c4] at h
    exact t_Md_lowest_11 hV h
  · rw [if_pos c4] at h
    refine g_iload_n (pc := 6) dX12_lowest_6 rfl ?_
    refine g_iconst (v := 1) (pc := 7) dX12_lowest_7 (by decide) ?_
    refine g_icmp_le (tgt := 22) (pc := 8) dX12_lowest_8 (by decide) (fun c3 => ?_) (fun c3 => ?_)
    · rw [if_pos c3] at h
      refine g_wk [false, false] rfl ?_
      exact t_Md_lowest_22 hV h
    · rw [if_neg c3] at h
      exact t_Md_lowest_11 hV h
def Md_highest_66 (s0 : Int32) : Int32 := s0
set_option maxRecDepth 4000 in
theorem t_Md_highest_66 {V : Sm → Wd} (hV : VwT V) {l : Launch} {Γ : Gm} {s0 : Int32} {S : Sm} {q : Int32} (h : Md_highest_66 s0 = q) : G mX12_highest l Γ (rmD 0 0 0) (mQ Γ (some (.int q)) (V S) 0 0) 0 0 66 [none, none] [.int s0] (V S) := by
  unfold Md_highest_66 at h
  subst h
  exact g_iret (pc := 66) dX12_highest_66 rfl rfl (Nat.le_refl _) (Nat.le_refl _)
def Md_highest_128 (s0 : Int32) : Int32 := s0
set_option maxRecDepth 4000 in
theorem t_Md_highest_128 {V : Sm → Wd} (hV : VwT V) {l : Launch} {Γ : Gm} {s0 : Int32} {S : Sm} {q : Int32} (h : Md_highest_128 s0 = q) : G mX12_highest l Γ (rmD 0 0 0) (mQ Γ (some (.int q)) (V S) 0 0) 0 0 128 [none, none] [.int s0] (V S) := by
  unfold Md_highest_128 at h
  subst h
  exact g_iret (pc := 128) dX12_highest_128 rfl rfl (Nat.le_refl _) (Nat.le_refl _)
def Md_highest_97 (s0 : Int32) : Int32 := s0
set_option maxRecDepth 4000 in
theorem t_Md_highest_97 {V : Sm → Wd} (hV : VwT V) {l : Launch} {Γ : Gm} {s0 : Int32} {S : Sm} {q : Int32} (h : Md_highest_97 s0 = q) : G mX12_highest l Γ (rmD 0 0 0) (mQ Γ (some (.int q)) (V S) 0 0) 0 0 97 [none, none] [.int s0] (V S) := by
  unfold Md_highest_97 at h
  subst h
  exact g_iret (pc := 97) dX12_highest_97 rfl rfl (Nat.le_refl _) (Nat.le_refl _)
def Md_highest (v0 : Int32) (v1 : Int32) : Int32 := (if v0 = (110 : Int32) then (if v1 = 0 then (Md_highest_66 8) else (if v1 = 1 then (Md_highest_66 5) else (if v1 = 2 then (Md_highest_66 23) else (Md_highest_66 9)))) else (if v0 = (114 : Int32) then (if v1 = 0 then (Md_highest_128 7) else (if v1 = 1 then (Md_highest_128 5) else (if v1 = 2 then (Md_highest_128 99) else (Md_highest_128 9)))) else (if v0 = (116 : Int32) then (if v1 = 0 then (Md_highest_97 7) else (if v1 = 1 then (Md_highest_97 4) else (if v1 = 2 then (Md_highest_97 8) else (Md_highest_97 9)))) else 7)))
set_option maxRecDepth 4000 in
theorem r_Md_highest {V : Sm → Wd} (hV : VwT V) {v0 : Int32} {v1 : Int32} {S : Sm} {q : Int32} (h : Md_highest v0 v1 = q) : Runs 0 mX12_highest [.int v0, .int v1] (V S) (some (.int q)) (V S) 0 0 := by
  unfold Md_highest at h
  refine Runs.of2 [some (.int v0), some (.int v1)] 0 rfl rfl (Nat.le_of_ble_eq_true rfl) (fun l Γ => ?_)
  refine g_iload_n (pc := 0) dX12_highest_0 rfl ?_
  by_cases c1 : v0 = (110 : Int32)
  · rw [if_pos c1] at h
    refine g_lookup (off := 35) (tgt := 36) (pc := 1) dX12_highest_1 (by decide) (by rw [c1]; rfl) (by decide) ?_
    refine g_iload_n (pc := 36) dX12_highest_36 rfl ?_
    refine g_if_ne (tgt := 45) (pc := 37) dX12_highest_37 (by decide) (fun c4 => ?_) (fun c4 => ?_)
    · rw [if_neg c4] at h
      refine g_iload_n (pc := 45) dX12_highest_45 rfl ?_
      refine g_iconst (v := 1) (pc := 46) dX12_highest_46 (by decide) ?_
      refine g_icmp_ne (tgt := 54) (pc := 47) dX12_highest_47 (by decide) (fun c3 => ?_) (fun c3 => ?_)
      · rw [if_neg c3] at h
        refine g_iload_n (pc := 54) dX12_highest_54 rfl ?_
        refine g_iconst (v := 2) (pc := 55) dX12_highest_55 (by decide) ?_
        refine g_icmp_ne (tgt := 64) (pc := 56) dX12_highest_56 (by decide) (fun c2 => ?_) (fun c2 => ?_)
        · rw [if_neg c2] at h
          refine g_bipush (v := 9) (pc := 64) dX12_highest_64 (by decide) ?_
          refine g_wk [false, false] rfl ?_
          exact t_Md_highest_66 hV h
        · rw [if_pos c2] at h
          refine g_bipush (v := 23) (pc := 59) dX12_highest_59 (by decide) ?_
          refine g_goto (tgt := 66) (pc := 61) dX12_highest_61 (by decide) ?_
          refine g_wk [false, false] rfl ?_
          exact t_Md_highest_66 hV h
      · rw [if_pos c3] at h
        refine g_iconst (v := 5) (pc := 50) dX12_highest_50 (by decide) ?_
        refine g_goto (tgt := 66) (pc := 51) dX12_highest_51 (by decide) ?_
        refine g_wk [false, false] rfl ?_
        exact t_Md_highest_66 hV h
    · rw [if_pos c4] at h
      refine g_bipush (v := 8) (pc := 40) dX12_highest_40 (by decide) ?_
      refine g_goto (tgt := 66) (pc := 42) dX12_highest_42 (by decide) ?_
      refine g_wk [false, false] rfl ?_
      exact t_Md_highest_66 hV h
  · rw [if_neg c1] at h
    by_cases c5 : v0 = (114 : Int32)
    · rw [if_pos c5] at h
      refine g_lookup (off := 97) (tgt := 98) (pc := 1) dX12_highest_1 (by decide) ((lv_osw c1 rfl).trans (by rw [c5]; rfl)) (by decide) ?_
      refine g_iload_n (pc := 98) dX12_highest_98 rfl ?_
      refine g_if_ne (tgt := 107) (pc := 99) dX12_highest_99 (by decide) (fun c8 => ?_) (fun c8 => ?_)
      · rw [if_neg c8] at h
        refine g_iload_n (pc := 107) dX12_highest_107 rfl ?_
        refine g_iconst (v := 1) (pc := 108) dX12_highest_108 (by decide) ?_
        refine g_icmp_ne (tgt := 116) (pc := 109) dX12_highest_109 (by decide) (fun c7 => ?_) (fun c7 => ?_)
        · rw [if_neg c7] at h
          refine g_iload_n (pc := 116) dX12_highest_116 rfl ?_
          refine g_iconst (v := 2) (pc := 117) dX12_highest_117 (by decide) ?_
          refine g_icmp_ne (tgt := 126) (pc := 118) dX12_highest_118 (by decide) (fun c6 => ?_) (fun c6 => ?_)
          · rw [if_neg c6] at h
            refine g_bipush (v := 9) (pc := 126) dX12_highest_126 (by decide) ?_
            refine g_wk [false, false] rfl ?_
            exact t_Md_highest_128 hV h
          · rw [if_pos c6] at h
            refine g_bipush (v := 99) (pc := 121) dX12_highest_121 (by decide) ?_
            refine g_goto (tgt := 128) (pc := 123) dX12_highest_123 (by decide) ?_
            refine g_wk [false, false] rfl ?_
            exact t_Md_highest_128 hV h
        · rw [if_pos c7] at h
          refine g_iconst (v := 5) (pc := 112) dX12_highest_112 (by decide) ?_
          refine g_goto (tgt := 128) (pc := 113) dX12_highest_113 (by decide) ?_
          refine g_wk [false, false] rfl ?_
          exact t_Md_highest_128 hV h
      · rw [if_pos c8] at h
        refine g_bipush (v := 7) (pc := 102) dX12_highest_102 (by decide) ?_
        refine g_goto (tgt := 128) (pc := 104) dX12_highest_104 (by decide) ?_
        refine g_wk [false, false] rfl ?_
        exact t_Md_highest_128 hV h
    · rw [if_neg c5] at h
      by_cases c9 : v0 = (116 : Int32)
      · rw [if_pos c9] at h
        refine g_lookup (off := 66) (tgt := 67) (pc := 1) dX12_highest_1 (by decide) ((lv_osw c1 rfl).trans ((lv_osw c5 rfl).trans (by rw [c9]; rfl))) (by decide) ?_
        refine g_iload_n (pc := 67) dX12_highest_67 rfl ?_
        refine g_if_ne (tgt := 76) (pc := 68) dX12_highest_68 (by decide) (fun c12 => ?_) (fun c12 => ?_)
        · rw [if_neg c12] at h
          refine g_iload_n (pc := 76) dX12_highest_76 rfl ?_
          refine g_iconst (v := 1) (pc := 77) dX12_highest_77 (by decide) ?_
          refine g_icmp_ne (tgt := 85) (pc := 78) dX12_highest_78 (by decide) (fun c11 => ?_) (fun c11 => ?_)
          · rw [if_neg c11] at h
            refine g_iload_n (pc := 85) dX12_highest_85 rfl ?_
            refine g_iconst (v := 2) (pc := 86) dX12_highest_86 (by decide) ?_
            refine g_icmp_ne (tgt := 95) (pc := 87) dX12_highest_87 (by decide) (fun c10 => ?_) (fun c10 => ?_)
            · rw [if_neg c10] at h
              refine g_bipush (v := 9) (pc := 95) dX12_highest_95 (by decide) ?_
              refine g_wk [false, false] rfl ?_
              exact t_Md_highest_97 hV h
            · rw [if_pos c10] at h
              refine g_bipush (v := 8) (pc := 90) dX12_highest_90 (by decide) ?_
              refine g_goto (tgt := 97) (pc := 92) dX12_highest_92 (by decide) ?_
              refine g_wk [false, false] rfl ?_
              exact t_Md_highest_97 hV h
          · rw [if_pos c11] at h
            refine g_iconst (v := 4) (pc := 81) dX12_highest_81 (by decide) ?_
            refine g_goto (tgt := 97) (pc := 82) dX12_highest_82 (by decide) ?_
            refine g_wk [false, false] rfl ?_
            exact t_Md_highest_97 hV h
        · rw [if_pos c12] at h
          refine g_bipush (v := 7) (pc := 71) dX12_highest_71 (by decide) ?_
          refine g_goto (tgt := 97) (pc := 73) dX12_highest_73 (by decide) ?_
          refine g_wk [false, false] rfl ?_
          exact t_Md_highest_97 hV h
      · rw [if_neg c9] at h
        refine g_lookup (off := 128) (tgt := 129) (pc := 1) dX12_highest_1 (by decide) ((lv_osw c1 rfl).trans ((lv_osw c5 rfl).trans ((lv_osw c9 rfl).trans (rfl)))) (by decide) ?_
        refine g_bipush (v := 7) (pc := 129) dX12_highest_129 (by decide) ?_
        subst h
        exact g_iret (pc := 131) dX12_highest_131 rfl rfl (Nat.le_refl _) (Nat.le_refl _)
def Md_usual_54 (s0 : Int32) : Int32 := s0
set_option maxRecDepth 4000 in
theorem t_Md_usual_54 {V : Sm → Wd} (hV : VwT V) {l : Launch} {Γ : Gm} {s0 : Int32} {S : Sm} {q : Int32} (h : Md_usual_54 s0 = q) : G mX12_usual l Γ (rmD 0 0 0) (mQ Γ (some (.int q)) (V S) 0 0) 0 0 54 [none, none] [.int s0] (V S) := by
  unfold Md_usual_54 at h
  subst h
  exact g_iret (pc := 54) dX12_usual_54 rfl rfl (Nat.le_refl _) (Nat.le_refl _)
def Md_usual_76 (s0 : Int32) : Int32 := s0
set_option maxRecDepth 4000 in
theorem t_Md_usual_76 {V : Sm → Wd} (hV : VwT V) {l : Launch} {Γ : Gm} {s0 : Int32} {S : Sm} {q : Int32} (h : Md_usual_76 s0 = q) : G mX12_usual l Γ (rmD 0 0 0) (mQ Γ (some (.int q)) (V S) 0 0) 0 0 76 [none, none] [.int s0] (V S) := by
  unfold Md_usual_76 at h
  subst h
  exact g_iret (pc := 76) dX12_usual_76 rfl rfl (Nat.le_refl _) (Nat.le_refl _)
def Md_usual_65 (s0 : Int32) : Int32 := s0
set_option maxRecDepth 4000 in
theorem t_Md_usual_65 {V : Sm → Wd} (hV : VwT V) {l : Launch} {Γ : Gm} {s0 : Int32} {S : Sm} {q : Int32} (h : Md_usual_65 s0 = q) : G mX12_usual l Γ (rmD 0 0 0) (mQ Γ (some (.int q)) (V S) 0 0) 0 0 65 [none, none] [.int s0] (V S) := by
  unfold Md_usual_65 at h
  subst h
  exact g_iret (pc := 65) dX12_usual_65 rfl rfl (Nat.le_refl _) (Nat.le_refl _)
def Md_usual (v0 : Int32) (v1 : Int32) : Int32 := (if v0 = (110 : Int32) then (if v1 = 0 then (Md_usual_54 4) else (if v1 = 1 then (Md_usual_54 3) else (Md_usual_54 0))) else (if v0 = (114 : Int32) then (if v1 = 3 then (Md_usual_76 3) else (Md_usual_76 0)) else (if v0 = (116 : Int32) then (if v1 ≤ 1 then (Md_usual_65 0) else (Md_usual_65 1)) else 0)))
set_option maxRecDepth 4000 in
theorem r_Md_usual {V : Sm → Wd} (hV : VwT V) {v0 : Int32} {v1 : Int32} {S : Sm} {q : Int32} (h : Md_usual v0 v1 = q) : Runs 0 mX12_usual [.int v0, .int v1] (V S) (some (.int q)) (V S) 0 0 := by
  unfold Md_usual at h
  refine Runs.of2 [some (.int v0), some (.int v1)] 0 rfl rfl (Nat.le_of_ble_eq_true rfl) (fun l Γ => ?_)
  refine g_iload_n (pc := 0) dX12_usual_0 rfl ?_
  by_cases c1 : v0 = (110 : Int32)
  · rw [if_pos c1] at h
    refine g_lookup (off := 35) (tgt := 36) (pc := 1) dX12_usual_1 (by decide) (by rw [c1]; rfl) (by decide) ?_
    refine g_iload_n (pc := 36) dX12_usual_36 rfl ?_
    refine g_if_ne (tgt := 44) (pc := 37) dX12_usual_37 (by decide) (fun c3 => ?_) (fun c3 => ?_)
    · rw [if_neg c3] at h
      refine g_iload_n (pc := 44) dX12_usual_44 rfl ?_
      refine g_iconst (v := 1) (pc := 45) dX12_usual_45 (by decide) ?_
      refine g_icmp_ne (tgt := 53) (pc := 46) dX12_usual_46 (by decide) (fun c2 => ?_) (fun c2 => ?_)
      · rw [if_neg c2] at h
        refine g_iconst (v := 0) (pc := 53) dX12_usual_53 (by decide) ?_
        refine g_wk [false, false] rfl ?_
        exact t_Md_usual_54 hV h
      · rw [if_pos c2] at h
        refine g_iconst (v := 3) (pc := 49) dX12_usual_49 (by decide) ?_
        refine g_goto (tgt := 54) (pc := 50) dX12_usual_50 (by decide) ?_
        refine g_wk [false, false] rfl ?_
        exact t_Md_usual_54 hV h
    · rw [if_pos c3] at h
      refine g_iconst (v := 4) (pc := 40) dX12_usual_40 (by decide) ?_
      refine g_goto (tgt := 54) (pc := 41) dX12_usual_41 (by decide) ?_
      refine g_wk [false, false] rfl ?_
      exact t_Md_usual_54 hV h
  · rw [if_neg c1] at h
    by_cases c4 : v0 = (114 : Int32)
    · rw [if_pos c4] at h
      refine g_lookup (off := 65) (tgt := 66) (pc := 1) dX12_usual_1 (by decide) ((lv_osw c1 rfl).trans (by rw [c4]; rfl)) (by decide) ?_
      refine g_iload_n (pc := 66) dX12_usual_66 rfl ?_
      refine g_iconst (v := 3) (pc := 67) dX12_usual_67 (by decide) ?_
      refine g_icmp_ne (tgt := 75) (pc := 68) dX12_usual_68 (by decide) (fun c5 => ?_) (fun c5 => ?_)
      · rw [if_neg c5] at h
        refine g_iconst (v := 0) (pc := 75) dX12_usual_75 (by decide) ?_
        refine g_wk [false, false] rfl ?_
        exact t_Md_usual_76 hV h
      · rw [if_pos c5] at h
        refine g_iconst (v := 3) (pc := 71) dX12_usual_71 (by decide) ?_
        refine g_goto (tgt := 76) (pc := 72) dX12_usual_72 (by decide) ?_
        refine g_wk [false, false] rfl ?_
        exact t_Md_usual_76 hV h
    · rw [if_neg c4] at h
      by_cases c6 : v0 = (116 : Int32)
      · rw [if_pos c6] at h
        refine g_lookup (off := 54) (tgt := 55) (pc := 1) dX12_usual_1 (by decide) ((lv_osw c1 rfl).trans ((lv_osw c4 rfl).trans (by rw [c6]; rfl))) (by decide) ?_
        refine g_iload_n (pc := 55) dX12_usual_55 rfl ?_
        refine g_iconst (v := 1) (pc := 56) dX12_usual_56 (by decide) ?_
        refine g_icmp_le (tgt := 64) (pc := 57) dX12_usual_57 (by decide) (fun c7 => ?_) (fun c7 => ?_)
        · rw [if_pos c7] at h
          refine g_iconst (v := 0) (pc := 64) dX12_usual_64 (by decide) ?_
          refine g_wk [false, false] rfl ?_
          exact t_Md_usual_65 hV h
        · rw [if_neg c7] at h
          refine g_iconst (v := 1) (pc := 60) dX12_usual_60 (by decide) ?_
          refine g_goto (tgt := 65) (pc := 61) dX12_usual_61 (by decide) ?_
          refine g_wk [false, false] rfl ?_
          exact t_Md_usual_65 hV h
      · rw [if_neg c6] at h
        refine g_lookup (off := 76) (tgt := 77) (pc := 1) dX12_usual_1 (by decide) ((lv_osw c1 rfl).trans ((lv_osw c4 rfl).trans ((lv_osw c6 rfl).trans (rfl)))) (by decide) ?_
        refine g_iconst (v := 0) (pc := 77) dX12_usual_77 (by decide) ?_
        subst h
        exact g_iret (pc := 78) dX12_usual_78 rfl rfl (Nat.le_refl _) (Nat.le_refl _)
def hd_Md_isWhole_L14 (V : Sm → Wd) (l : Launch) (Γ : Gm) (rF : Option Value) (wF : Wd) (v1 : Int32) (S : Sm) (q : Int32 × Int32 × Int32) : Prop := G mX12_isWhole l Γ (rmD 0 0 0) (mQ Γ rF wF 0 0) 0 0 14 [some (.ref 53), some (.int v1), some (.int q.1), some (.int q.2.1), some (.int q.2.2), none, none] [] (V S)
def ps_Md_isWhole_L14 (V : Sm → Wd) (l : Launch) (Γ : Gm) (rF : Option Value) (wF : Wd) (v1 : Int32) (S : Sm) (x : Int32 × Int32) : Prop := (fun (a : Int32 × Int32) => G mX12_isWhole l Γ (rmD 0 0 0) (mQ Γ rF wF 0 0) 0 0 185 [some (.ref 53), some (.int v1), some (.int a.1), some (.int a.2), none, none, none] [] (V S)) x
def hd_Md_isWhole_L110 (V : Sm → Wd) (l : Launch) (Γ : Gm) (rF : Option Value) (wF : Wd) (v1 : Int32) (v2 : Int32) (v4 : Int32) (S : Sm) (q : Int32 × Int32) : Prop := G mX12_isWhole l Γ (rmD 0 0 0) (mQ Γ rF wF 0 0) 0 0 110 [some (.ref 53), some (.int v1), some (.int v2), some (.int q.1), some (.int v4), none, some (.int q.2)] [] (V S)
def ps_Md_isWhole_L110 (V : Sm → Wd) (l : Launch) (Γ : Gm) (rF : Option Value) (wF : Wd) (v1 : Int32) (v2 : Int32) (v4 : Int32) (S : Sm) (x : Int32) : Prop := (fun (a : Int32) => G mX12_isWhole l Γ (rmD 0 0 0) (mQ Γ rF wF 0 0) 0 0 179 [some (.ref 53), some (.int v1), some (.int v2), some (.int a), some (.int v4), none, none] [] (V S)) x
def Md_isWhole_172_L110 (v1 : Int32) (v2 : Int32) (v4 : Int32) (v6 : Int32) (s0 : Int32) (S : Sm) : Option ((Int32 × Int32) ⊕ (Int32)) := (some (.inl (s0, v6 + 1)))
set_option maxRecDepth 4000 in
theorem t_Md_isWhole_172_L110 {V : Sm → Wd} (hV : VwT V) {l : Launch} {Γ : Gm} {v1 : Int32} {v2 : Int32} {v4 : Int32} {v6 : Int32} {s0 : Int32} {rF : Option Value} {wF : Wd} {S : Sm} {o : (Int32 × Int32) ⊕ (Int32)} (h : Md_isWhole_172_L110 v1 v2 v4 v6 s0 S = some o) (hK : Sum.elim (hd_Md_isWhole_L110 V l Γ rF wF v1 v2 v4 S) (ps_Md_isWhole_L110 V l Γ rF wF v1 v2 v4 S) o) : G mX12_isWhole l Γ (rmD 0 0 0) (mQ Γ rF wF 0 0) 0 0 172 [some (.ref 53), some (.int v1), some (.int v2), none, some (.int v4), none, some (.int v6)] [.int s0] (V S) := by
  unfold Md_isWhole_172_L110 at h
  refine g_istore_n (ls1 := [some (.ref 53), some (.int v1), some (.int v2), some (.int s0), some (.int v4), none, some (.int v6)]) (pc := 172) dX12_isWhole_172 (by decide) rfl ?_
  refine g_iinc (v := v6 + 1) (ls1 := [some (.ref 53), some (.int v1), some (.int v2), some (.int s0), some (.int v4), none, some (.int (v6 + 1))]) (pc := 173) dX12_isWhole_173 rfl rfl (by decide) rfl ?_
  refine g_goto (tgt := 110) (pc := 176) dX12_isWhole_176 (by decide) ?_
  cases h
  exact hK
def Md_isWhole_171_L110 (v1 : Int32) (v2 : Int32) (v4 : Int32) (v6 : Int32) (S : Sm) : Option ((Int32 × Int32) ⊕ (Int32)) := (Md_isWhole_172_L110 v1 v2 v4 v6 0 S)
set_option maxRecDepth 4000 in
theorem t_Md_isWhole_171_L110 {V : Sm → Wd} (hV : VwT V) {l : Launch} {Γ : Gm} {v1 : Int32} {v2 : Int32} {v4 : Int32} {v6 : Int32} {rF : Option Value} {wF : Wd} {S : Sm} {o : (Int32 × Int32) ⊕ (Int32)} (h : Md_isWhole_171_L110 v1 v2 v4 v6 S = some o) (hK : Sum.elim (hd_Md_isWhole_L110 V l Γ rF wF v1 v2 v4 S) (ps_Md_isWhole_L110 V l Γ rF wF v1 v2 v4 S) o) : G mX12_isWhole l Γ (rmD 0 0 0) (mQ Γ rF wF 0 0) 0 0 171 [some (.ref 53), some (.int v1), some (.int v2), none, some (.int v4), none, some (.int v6)] [] (V S) := by
  unfold Md_isWhole_171_L110 at h
  refine g_iconst (v := 0) (pc := 171) dX12_isWhole_171 (by decide) ?_
  exact t_Md_isWhole_172_L110 hV h hK
def Md_isWhole_167_L110 (v1 : Int32) (v2 : Int32) (v4 : Int32) (v6 : Int32) (S : Sm) : Option ((Int32 × Int32) ⊕ (Int32)) := (Md_isWhole_172_L110 v1 v2 v4 v6 1 S)
set_option maxRecDepth 4000 in
theorem t_Md_isWhole_167_L110 {V : Sm → Wd} (hV : VwT V) {l : Launch} {Γ : Gm} {v1 : Int32} {v2 : Int32} {v4 : Int32} {v6 : Int32} {rF : Option Value} {wF : Wd} {S : Sm} {o : (Int32 × Int32) ⊕ (Int32)} (h : Md_isWhole_167_L110 v1 v2 v4 v6 S = some o) (hK : Sum.elim (hd_Md_isWhole_L110 V l Γ rF wF v1 v2 v4 S) (ps_Md_isWhole_L110 V l Γ rF wF v1 v2 v4 S) o) : G mX12_isWhole l Γ (rmD 0 0 0) (mQ Γ rF wF 0 0) 0 0 167 [some (.ref 53), some (.int v1), some (.int v2), none, some (.int v4), none, some (.int v6)] [] (V S) := by
  unfold Md_isWhole_167_L110 at h
  refine g_iconst (v := 1) (pc := 167) dX12_isWhole_167 (by decide) ?_
  refine g_goto (tgt := 172) (pc := 168) dX12_isWhole_168 (by decide) ?_
  exact t_Md_isWhole_172_L110 hV h hK
def Md_isWhole_L110 (v1 : Int32) (v2 : Int32) (v4 : Int32) (S : Sm) (q : Int32 × Int32) : Option ((Int32 × Int32) ⊕ (Int32)) := (if v4 ≤ q.2 then (some (.inr q.1)) else (if q.1 = 0 then (Md_isWhole_171_L110 v1 v2 v4 q.2 S) else (if inb (4 * q.2) 72 then (if inb (4 * v4) 72 then (if (gi S 65 (ix (4 * q.2))) = (gi S 65 (ix (4 * v4))) then (if inb ((4 * q.2) + 1) 72 then (if inb ((4 * v4) + 1) 72 then (if (gi S 65 (ix ((4 * q.2) + 1))) = (gi S 65 (ix ((4 * v4) + 1))) then (Md_isWhole_171_L110 v1 v2 v4 q.2 S) else (Md_isWhole_167_L110 v1 v2 v4 q.2 S)) else none) else none) else (Md_isWhole_167_L110 v1 v2 v4 q.2 S)) else none) else none)))
set_option maxRecDepth 4000 in
theorem t_Md_isWhole_L110 {V : Sm → Wd} (hV : VwT V) {l : Launch} {Γ : Gm} {rF : Option Value} {wF : Wd} {v1 : Int32} {v2 : Int32} {v4 : Int32} {S : Sm} {q : Int32 × Int32} {o : (Int32 × Int32) ⊕ (Int32)} (h : Md_isWhole_L110 v1 v2 v4 S q = some o) (hK : Sum.elim (hd_Md_isWhole_L110 V l Γ rF wF v1 v2 v4 S) (ps_Md_isWhole_L110 V l Γ rF wF v1 v2 v4 S) o) : hd_Md_isWhole_L110 V l Γ rF wF v1 v2 v4 S q := by
  unfold Md_isWhole_L110 at h
  unfold hd_Md_isWhole_L110
  refine g_iload (pc := 110) dX12_isWhole_110 rfl ?_
  refine g_iload (pc := 112) dX12_isWhole_112 rfl ?_
  refine g_icmp_ge (tgt := 179) (pc := 114) dX12_isWhole_114 (by decide) (fun c9 => ?_) (fun c9 => ?_)
  · rw [if_pos c9] at h
    refine g_wk [true, true, true, true, true, false, false] rfl ?_
    cases h
    exact hK
  · rw [if_neg c9] at h
    refine g_iload_n (pc := 117) dX12_isWhole_117 rfl ?_
    refine g_if_eq (tgt := 171) (pc := 118) dX12_isWhole_118 (by decide) (fun c8 => ?_) (fun c8 => ?_)
    · rw [if_pos c8] at h
      refine g_wk [true, true, true, false, true, false, true] rfl ?_
      exact t_Md_isWhole_171_L110 hV h hK
    · rw [if_neg c8] at h
      refine g_aload_n (pc := 121) dX12_isWhole_121 rfl ?_
      refine v_getR hV (pc := 122) dX12_isWhole_122 fo_12_18 rfl k0_53 r0_53_18 ?_
      refine g_iconst (v := 4) (pc := 125) dX12_isWhole_125 (by decide) ?_
      refine g_iload (pc := 126) dX12_isWhole_126 rfl ?_
      refine g_imul (pc := 128) dX12_isWhole_128 ?_
      by_cases c2 : inb (4 * q.2) 72
      · rw [if_pos c2] at h
        refine v_iald hV (pc := 129) dX12_isWhole_129 k0_65 own_65 c2 ?_
        refine g_aload_n (pc := 130) dX12_isWhole_130 rfl ?_
        refine v_getR hV (pc := 131) dX12_isWhole_131 fo_12_18 rfl k0_53 r0_53_18 ?_
        refine g_iconst (v := 4) (pc := 134) dX12_isWhole_134 (by decide) ?_
        refine g_iload (pc := 135) dX12_isWhole_135 rfl ?_
        refine g_imul (pc := 137) dX12_isWhole_137 ?_
        by_cases c3 : inb (4 * v4) 72
        · rw [if_pos c3] at h
          refine v_iald hV (pc := 138) dX12_isWhole_138 k0_65 own_65 c3 ?_
          refine g_icmp_ne (tgt := 167) (pc := 139) dX12_isWhole_139 (by decide) (fun c7 => ?_) (fun c7 => ?_)
          · rw [if_neg c7] at h
            refine g_wk [true, true, true, false, true, false, true] rfl ?_
            exact t_Md_isWhole_167_L110 hV h hK
          · rw [if_pos c7] at h
            refine g_aload_n (pc := 142) dX12_isWhole_142 rfl ?_
            refine v_getR hV (pc := 143) dX12_isWhole_143 fo_12_18 rfl k0_53 r0_53_18 ?_
            refine g_iconst (v := 4) (pc := 146) dX12_isWhole_146 (by decide) ?_
            refine g_iload (pc := 147) dX12_isWhole_147 rfl ?_
            refine g_imul (pc := 149) dX12_isWhole_149 ?_
            refine g_iconst (v := 1) (pc := 150) dX12_isWhole_150 (by decide) ?_
            refine g_iadd (pc := 151) dX12_isWhole_151 ?_
            by_cases c4 : inb ((4 * q.2) + 1) 72
            · rw [if_pos c4] at h
              refine v_iald hV (pc := 152) dX12_isWhole_152 k0_65 own_65 c4 ?_
              refine g_aload_n (pc := 153) dX12_isWhole_153 rfl ?_
              refine v_getR hV (pc := 154) dX12_isWhole_154 fo_12_18 rfl k0_53 r0_53_18 ?_
              refine g_iconst (v := 4) (pc := 157) dX12_isWhole_157 (by decide) ?_
              refine g_iload (pc := 158) dX12_isWhole_158 rfl ?_
              refine g_imul (pc := 160) dX12_isWhole_160 ?_
              refine g_iconst (v := 1) (pc := 161) dX12_isWhole_161 (by decide) ?_
              refine g_iadd (pc := 162) dX12_isWhole_162 ?_
              by_cases c5 : inb ((4 * v4) + 1) 72
              · rw [if_pos c5] at h
                refine v_iald hV (pc := 163) dX12_isWhole_163 k0_65 own_65 c5 ?_
                refine g_icmp_eq (tgt := 171) (pc := 164) dX12_isWhole_164 (by decide) (fun c6 => ?_) (fun c6 => ?_)
                · rw [if_pos c6] at h
                  refine g_wk [true, true, true, false, true, false, true] rfl ?_
                  exact t_Md_isWhole_171_L110 hV h hK
                · rw [if_neg c6] at h
                  refine g_wk [true, true, true, false, true, false, true] rfl ?_
                  exact t_Md_isWhole_167_L110 hV h hK
              · rw [if_neg c5] at h; cases h
            · rw [if_neg c4] at h; cases h
        · rw [if_neg c3] at h; cases h
      · rw [if_neg c2] at h; cases h
set_option maxRecDepth 4000 in
theorem w_Md_isWhole_L110 {V : Sm → Wd} (hV : VwT V) {l : Launch} {Γ : Gm} {rF : Option Value} {wF : Wd} {v1 : Int32} {v2 : Int32} {v4 : Int32} {S : Sm} {k : Nat} {q : Int32 × Int32} {o : Int32} (h : lpN (Md_isWhole_L110 v1 v2 v4 S) k q = some o) (hP : ps_Md_isWhole_L110 V l Γ rF wF v1 v2 v4 S o) : hd_Md_isWhole_L110 V l Γ rF wF v1 v2 v4 S q := lpN_ind2 (hd_Md_isWhole_L110 V l Γ rF wF v1 v2 v4 S) (ps_Md_isWhole_L110 V l Γ rF wF v1 v2 v4 S) (fun s o h hK => t_Md_isWhole_L110 hV h hK) k q o h hP
def Md_isWhole_105_L14 (v1 : Int32) (v3 : Int32) (v4 : Int32) (s0 : Int32) (s1 : Int32) (S : Sm) : Option ((Int32 × Int32 × Int32) ⊕ (Int32 × Int32)) := ((lpN (Md_isWhole_L110 v1 (s0 + s1) v4 S) FU (v3, 0)).bind fun q10 => (some (.inl (s0 + s1, q10, v4 + 1))))
set_option maxRecDepth 4000 in
theorem t_Md_isWhole_105_L14 {V : Sm → Wd} (hV : VwT V) {l : Launch} {Γ : Gm} {v1 : Int32} {v3 : Int32} {v4 : Int32} {s0 : Int32} {s1 : Int32} {rF : Option Value} {wF : Wd} {S : Sm} {o : (Int32 × Int32 × Int32) ⊕ (Int32 × Int32)} (h : Md_isWhole_105_L14 v1 v3 v4 s0 s1 S = some o) (hK : Sum.elim (hd_Md_isWhole_L14 V l Γ rF wF v1 S) (ps_Md_isWhole_L14 V l Γ rF wF v1 S) o) : G mX12_isWhole l Γ (rmD 0 0 0) (mQ Γ rF wF 0 0) 0 0 105 [some (.ref 53), some (.int v1), none, some (.int v3), some (.int v4), none, none] [.int s1, .int s0] (V S) := by
  unfold Md_isWhole_105_L14 at h
  refine g_iadd (pc := 105) dX12_isWhole_105 ?_
  refine g_istore_n (ls1 := [some (.ref 53), some (.int v1), some (.int (s0 + s1)), some (.int v3), some (.int v4), none, none]) (pc := 106) dX12_isWhole_106 (by decide) rfl ?_
  refine g_iconst (v := 0) (pc := 107) dX12_isWhole_107 (by decide) ?_
  refine g_istore (ls1 := [some (.ref 53), some (.int v1), some (.int (s0 + s1)), some (.int v3), some (.int v4), none, some (.int 0)]) (pc := 108) dX12_isWhole_108 (by decide) rfl ?_
  obtain ⟨q10, hqq10, h⟩ := bnd h
  refine w_Md_isWhole_L110 hV hqq10 ?_
  unfold ps_Md_isWhole_L110
  show G _ _ _ _ _ _ _ _ _ _ _
  refine g_iinc (v := v4 + 1) (ls1 := [some (.ref 53), some (.int v1), some (.int (s0 + s1)), some (.int q10), some (.int (v4 + 1)), none, none]) (pc := 179) dX12_isWhole_179 rfl rfl (by decide) rfl ?_
  refine g_goto (tgt := 14) (pc := 182) dX12_isWhole_182 (by decide) ?_
  cases h
  exact hK
def Md_isWhole_91_L14 (v1 : Int32) (v2 : Int32) (v4 : Int32) (v5 : Int32) (s0 : Int32) (S : Sm) : Option ((Int32 × Int32 × Int32) ⊕ (Int32 × Int32)) := (if v5 = 8 then (Md_isWhole_105_L14 v1 s0 v4 v2 1 S) else (Md_isWhole_105_L14 v1 s0 v4 v2 0 S))
set_option maxRecDepth 4000 in
theorem t_Md_isWhole_91_L14 {V : Sm → Wd} (hV : VwT V) {l : Launch} {Γ : Gm} {v1 : Int32} {v2 : Int32} {v4 : Int32} {v5 : Int32} {s0 : Int32} {rF : Option Value} {wF : Wd} {S : Sm} {o : (Int32 × Int32 × Int32) ⊕ (Int32 × Int32)} (h : Md_isWhole_91_L14 v1 v2 v4 v5 s0 S = some o) (hK : Sum.elim (hd_Md_isWhole_L14 V l Γ rF wF v1 S) (ps_Md_isWhole_L14 V l Γ rF wF v1 S) o) : G mX12_isWhole l Γ (rmD 0 0 0) (mQ Γ rF wF 0 0) 0 0 91 [some (.ref 53), some (.int v1), some (.int v2), none, some (.int v4), some (.int v5), none] [.int s0] (V S) := by
  unfold Md_isWhole_91_L14 at h
  refine g_istore_n (ls1 := [some (.ref 53), some (.int v1), some (.int v2), some (.int s0), some (.int v4), some (.int v5), none]) (pc := 91) dX12_isWhole_91 (by decide) rfl ?_
  refine g_iload_n (pc := 92) dX12_isWhole_92 rfl ?_
  refine g_iload (pc := 93) dX12_isWhole_93 rfl ?_
  refine g_bipush (v := 8) (pc := 95) dX12_isWhole_95 (by decide) ?_
  refine g_icmp_ne (tgt := 104) (pc := 97) dX12_isWhole_97 (by decide) (fun c11 => ?_) (fun c11 => ?_)
  · rw [if_neg c11] at h
    refine g_iconst (v := 0) (pc := 104) dX12_isWhole_104 (by decide) ?_
    refine g_wk [true, true, false, true, true, false, false] rfl ?_
    exact t_Md_isWhole_105_L14 hV h hK
  · rw [if_pos c11] at h
    refine g_iconst (v := 1) (pc := 100) dX12_isWhole_100 (by decide) ?_
    refine g_goto (tgt := 105) (pc := 101) dX12_isWhole_101 (by decide) ?_
    refine g_wk [true, true, false, true, true, false, false] rfl ?_
    exact t_Md_isWhole_105_L14 hV h hK
def Md_isWhole_90_L14 (v1 : Int32) (v2 : Int32) (v4 : Int32) (v5 : Int32) (S : Sm) : Option ((Int32 × Int32 × Int32) ⊕ (Int32 × Int32)) := (Md_isWhole_91_L14 v1 v2 v4 v5 0 S)
set_option maxRecDepth 4000 in
theorem t_Md_isWhole_90_L14 {V : Sm → Wd} (hV : VwT V) {l : Launch} {Γ : Gm} {v1 : Int32} {v2 : Int32} {v4 : Int32} {v5 : Int32} {rF : Option Value} {wF : Wd} {S : Sm} {o : (Int32 × Int32 × Int32) ⊕ (Int32 × Int32)} (h : Md_isWhole_90_L14 v1 v2 v4 v5 S = some o) (hK : Sum.elim (hd_Md_isWhole_L14 V l Γ rF wF v1 S) (ps_Md_isWhole_L14 V l Γ rF wF v1 S) o) : G mX12_isWhole l Γ (rmD 0 0 0) (mQ Γ rF wF 0 0) 0 0 90 [some (.ref 53), some (.int v1), some (.int v2), none, some (.int v4), some (.int v5), none] [] (V S) := by
  unfold Md_isWhole_90_L14 at h
  refine g_iconst (v := 0) (pc := 90) dX12_isWhole_90 (by decide) ?_
  exact t_Md_isWhole_91_L14 hV h hK
def Md_isWhole_86_L14 (v1 : Int32) (v2 : Int32) (v4 : Int32) (v5 : Int32) (S : Sm) : Option ((Int32 × Int32 × Int32) ⊕ (Int32 × Int32)) := (Md_isWhole_91_L14 v1 v2 v4 v5 1 S)
set_option maxRecDepth 4000 in
theorem t_Md_isWhole_86_L14 {V : Sm → Wd} (hV : VwT V) {l : Launch} {Γ : Gm} {v1 : Int32} {v2 : Int32} {v4 : Int32} {v5 : Int32} {rF : Option Value} {wF : Wd} {S : Sm} {o : (Int32 × Int32 × Int32) ⊕ (Int32 × Int32)} (h : Md_isWhole_86_L14 v1 v2 v4 v5 S = some o) (hK : Sum.elim (hd_Md_isWhole_L14 V l Γ rF wF v1 S) (ps_Md_isWhole_L14 V l Γ rF wF v1 S) o) : G mX12_isWhole l Γ (rmD 0 0 0) (mQ Γ rF wF 0 0) 0 0 86 [some (.ref 53), some (.int v1), some (.int v2), none, some (.int v4), some (.int v5), none] [] (V S) := by
  unfold Md_isWhole_86_L14 at h
  refine g_iconst (v := 1) (pc := 86) dX12_isWhole_86 (by decide) ?_
  refine g_goto (tgt := 91) (pc := 87) dX12_isWhole_87 (by decide) ?_
  exact t_Md_isWhole_91_L14 hV h hK
def Md_isWhole_L14 (v1 : Int32) (S : Sm) (q : Int32 × Int32 × Int32) : Option ((Int32 × Int32 × Int32) ⊕ (Int32 × Int32)) := (if (gi S 53 21) ≤ q.2.2 then (some (.inr (q.1, q.2.1))) else (if inb ((4 * q.2.2) + 2) 72 then (if q.2.1 = 0 then (Md_isWhole_90_L14 v1 q.1 q.2.2 (gi S 65 (ix ((4 * q.2.2) + 2))) S) else (if inb (4 * q.2.2) 72 then (if v1 ≤ (gi S 65 (ix (4 * q.2.2))) then (Md_isWhole_90_L14 v1 q.1 q.2.2 (gi S 65 (ix ((4 * q.2.2) + 2))) S) else (if inb ((4 * q.2.2) + 1) 72 then (if (gi S 64 1) ≤ (gi S 65 (ix ((4 * q.2.2) + 1))) then (Md_isWhole_90_L14 v1 q.1 q.2.2 (gi S 65 (ix ((4 * q.2.2) + 2))) S) else (if (gi S 65 (ix ((4 * q.2.2) + 2))) = 8 then (Md_isWhole_86_L14 v1 q.1 q.2.2 (gi S 65 (ix ((4 * q.2.2) + 2))) S) else (if v1 ≤ (gi S 65 (ix ((4 * q.2.2) + 2))) then (Md_isWhole_90_L14 v1 q.1 q.2.2 (gi S 65 (ix ((4 * q.2.2) + 2))) S) else (Md_isWhole_86_L14 v1 q.1 q.2.2 (gi S 65 (ix ((4 * q.2.2) + 2))) S)))) else none)) else none)) else none))
set_option maxRecDepth 4000 in
theorem t_Md_isWhole_L14 {V : Sm → Wd} (hV : VwT V) {l : Launch} {Γ : Gm} {rF : Option Value} {wF : Wd} {v1 : Int32} {S : Sm} {q : Int32 × Int32 × Int32} {o : (Int32 × Int32 × Int32) ⊕ (Int32 × Int32)} (h : Md_isWhole_L14 v1 S q = some o) (hK : Sum.elim (hd_Md_isWhole_L14 V l Γ rF wF v1 S) (ps_Md_isWhole_L14 V l Γ rF wF v1 S) o) : hd_Md_isWhole_L14 V l Γ rF wF v1 S q := by
  unfold Md_isWhole_L14 at h
  unfold hd_Md_isWhole_L14
  refine g_iload (pc := 14) dX12_isWhole_14 rfl ?_
  refine g_aload_n (pc := 16) dX12_isWhole_16 rfl ?_
  refine v_getI hV (pc := 17) dX12_isWhole_17 fo_12_21 rfl k0_53 own_53 ?_
  refine g_icmp_ge (tgt := 185) (pc := 20) dX12_isWhole_20 (by decide) (fun c19 => ?_) (fun c19 => ?_)
  · rw [if_pos c19] at h
    refine g_wk [true, true, true, true, false, false, false] rfl ?_
    cases h
    exact hK
  · rw [if_neg c19] at h
    refine g_aload_n (pc := 23) dX12_isWhole_23 rfl ?_
    refine v_getR hV (pc := 24) dX12_isWhole_24 fo_12_18 rfl k0_53 r0_53_18 ?_
    refine g_iconst (v := 4) (pc := 27) dX12_isWhole_27 (by decide) ?_
    refine g_iload (pc := 28) dX12_isWhole_28 rfl ?_
    refine g_imul (pc := 30) dX12_isWhole_30 ?_
    refine g_iconst (v := 2) (pc := 31) dX12_isWhole_31 (by decide) ?_
    refine g_iadd (pc := 32) dX12_isWhole_32 ?_
    by_cases c1 : inb ((4 * q.2.2) + 2) 72
    · rw [if_pos c1] at h
      refine v_iald hV (pc := 33) dX12_isWhole_33 k0_65 own_65 c1 ?_
      refine g_istore (ls1 := [some (.ref 53), some (.int v1), some (.int q.1), some (.int q.2.1), some (.int q.2.2), some (.int (gi S 65 (ix ((4 * q.2.2) + 2)))), none]) (pc := 34) dX12_isWhole_34 (by decide) rfl ?_
      refine g_iload_n (pc := 36) dX12_isWhole_36 rfl ?_
      refine g_if_eq (tgt := 90) (pc := 37) dX12_isWhole_37 (by decide) (fun c18 => ?_) (fun c18 => ?_)
      · rw [if_pos c18] at h
        refine g_wk [true, true, true, false, true, true, false] rfl ?_
        exact t_Md_isWhole_90_L14 hV h hK
      · rw [if_neg c18] at h
        refine g_aload_n (pc := 40) dX12_isWhole_40 rfl ?_
        refine v_getR hV (pc := 41) dX12_isWhole_41 fo_12_18 rfl k0_53 r0_53_18 ?_
        refine g_iconst (v := 4) (pc := 44) dX12_isWhole_44 (by decide) ?_
        refine g_iload (pc := 45) dX12_isWhole_45 rfl ?_
        refine g_imul (pc := 47) dX12_isWhole_47 ?_
        by_cases c12 : inb (4 * q.2.2) 72
        · rw [if_pos c12] at h
          refine v_iald hV (pc := 48) dX12_isWhole_48 k0_65 own_65 c12 ?_
          refine g_iload_n (pc := 49) dX12_isWhole_49 rfl ?_
          refine g_icmp_ge (tgt := 90) (pc := 50) dX12_isWhole_50 (by decide) (fun c17 => ?_) (fun c17 => ?_)
          · rw [if_pos c17] at h
            refine g_wk [true, true, true, false, true, true, false] rfl ?_
            exact t_Md_isWhole_90_L14 hV h hK
          · rw [if_neg c17] at h
            refine g_aload_n (pc := 53) dX12_isWhole_53 rfl ?_
            refine v_getR hV (pc := 54) dX12_isWhole_54 fo_12_18 rfl k0_53 r0_53_18 ?_
            refine g_iconst (v := 4) (pc := 57) dX12_isWhole_57 (by decide) ?_
            refine g_iload (pc := 58) dX12_isWhole_58 rfl ?_
            refine g_imul (pc := 60) dX12_isWhole_60 ?_
            refine g_iconst (v := 1) (pc := 61) dX12_isWhole_61 (by decide) ?_
            refine g_iadd (pc := 62) dX12_isWhole_62 ?_
            by_cases c13 : inb ((4 * q.2.2) + 1) 72
            · rw [if_pos c13] at h
              refine v_iald hV (pc := 63) dX12_isWhole_63 k0_65 own_65 c13 ?_
              refine g_aload_n (pc := 64) dX12_isWhole_64 rfl ?_
              refine v_getR hV (pc := 65) dX12_isWhole_65 fo_12_17 rfl k0_53 r0_53_17 ?_
              refine g_iconst (v := 1) (pc := 68) dX12_isWhole_68 (by decide) ?_
              refine v_ialdK hV (k := 1) (pc := 69) dX12_isWhole_69 k0_64 own_64 (by decide) (by decide) ?_
              refine g_icmp_ge (tgt := 90) (pc := 70) dX12_isWhole_70 (by decide) (fun c16 => ?_) (fun c16 => ?_)
              · rw [if_pos c16] at h
                refine g_wk [true, true, true, false, true, true, false] rfl ?_
                exact t_Md_isWhole_90_L14 hV h hK
              · rw [if_neg c16] at h
                refine g_iload (pc := 73) dX12_isWhole_73 rfl ?_
                refine g_bipush (v := 8) (pc := 75) dX12_isWhole_75 (by decide) ?_
                refine g_icmp_eq (tgt := 86) (pc := 77) dX12_isWhole_77 (by decide) (fun c15 => ?_) (fun c15 => ?_)
                · rw [if_pos c15] at h
                  refine g_wk [true, true, true, false, true, true, false] rfl ?_
                  exact t_Md_isWhole_86_L14 hV h hK
                · rw [if_neg c15] at h
                  refine g_iload (pc := 80) dX12_isWhole_80 rfl ?_
                  refine g_iload_n (pc := 82) dX12_isWhole_82 rfl ?_
                  refine g_icmp_ge (tgt := 90) (pc := 83) dX12_isWhole_83 (by decide) (fun c14 => ?_) (fun c14 => ?_)
                  · rw [if_pos c14] at h
                    refine g_wk [true, true, true, false, true, true, false] rfl ?_
                    exact t_Md_isWhole_90_L14 hV h hK
                  · rw [if_neg c14] at h
                    refine g_wk [true, true, true, false, true, true, false] rfl ?_
                    exact t_Md_isWhole_86_L14 hV h hK
            · rw [if_neg c13] at h; cases h
        · rw [if_neg c12] at h; cases h
    · rw [if_neg c1] at h; cases h
set_option maxRecDepth 4000 in
theorem w_Md_isWhole_L14 {V : Sm → Wd} (hV : VwT V) {l : Launch} {Γ : Gm} {rF : Option Value} {wF : Wd} {v1 : Int32} {S : Sm} {k : Nat} {q : Int32 × Int32 × Int32} {o : Int32 × Int32} (h : lpN (Md_isWhole_L14 v1 S) k q = some o) (hP : ps_Md_isWhole_L14 V l Γ rF wF v1 S o) : hd_Md_isWhole_L14 V l Γ rF wF v1 S q := lpN_ind2 (hd_Md_isWhole_L14 V l Γ rF wF v1 S) (ps_Md_isWhole_L14 V l Γ rF wF v1 S) (fun s o h hK => t_Md_isWhole_L14 hV h hK) k q o h hP
def hd_Md_isWhole_L188 (V : Sm → Wd) (l : Launch) (Γ : Gm) (rF : Option Value) (wF : Wd) (v1 : Int32) (v2 : Int32) (S : Sm) (q : Int32 × Int32) : Prop := G mX12_isWhole l Γ (rmD 0 0 0) (mQ Γ rF wF 0 0) 0 0 188 [some (.ref 53), some (.int v1), some (.int v2), some (.int q.1), some (.int q.2), none, none] [] (V S)
def ps_Md_isWhole_L188 (V : Sm → Wd) (l : Launch) (Γ : Gm) (rF : Option Value) (wF : Wd) (v1 : Int32) (v2 : Int32) (S : Sm) (x : Int32) : Prop := (fun (a : Int32) => G mX12_isWhole l Γ (rmD 0 0 0) (mQ Γ rF wF 0 0) 0 0 256 [some (.ref 53), some (.int v1), some (.int v2), some (.int a), none, none, none] [] (V S)) x
def Md_isWhole_249_L188 (v1 : Int32) (v2 : Int32) (v4 : Int32) (s0 : Int32) (S : Sm) : Option ((Int32 × Int32) ⊕ (Int32)) := (some (.inl (s0, v4 + 1)))
set_option maxRecDepth 4000 in
theorem t_Md_isWhole_249_L188 {V : Sm → Wd} (hV : VwT V) {l : Launch} {Γ : Gm} {v1 : Int32} {v2 : Int32} {v4 : Int32} {s0 : Int32} {rF : Option Value} {wF : Wd} {S : Sm} {o : (Int32 × Int32) ⊕ (Int32)} (h : Md_isWhole_249_L188 v1 v2 v4 s0 S = some o) (hK : Sum.elim (hd_Md_isWhole_L188 V l Γ rF wF v1 v2 S) (ps_Md_isWhole_L188 V l Γ rF wF v1 v2 S) o) : G mX12_isWhole l Γ (rmD 0 0 0) (mQ Γ rF wF 0 0) 0 0 249 [some (.ref 53), some (.int v1), some (.int v2), none, some (.int v4), none, none] [.int s0] (V S) := by
  unfold Md_isWhole_249_L188 at h
  refine g_istore_n (ls1 := [some (.ref 53), some (.int v1), some (.int v2), some (.int s0), some (.int v4), none, none]) (pc := 249) dX12_isWhole_249 (by decide) rfl ?_
  refine g_iinc (v := v4 + 1) (ls1 := [some (.ref 53), some (.int v1), some (.int v2), some (.int s0), some (.int (v4 + 1)), none, none]) (pc := 250) dX12_isWhole_250 rfl rfl (by decide) rfl ?_
  refine g_goto (tgt := 188) (pc := 253) dX12_isWhole_253 (by decide) ?_
  cases h
  exact hK
def Md_isWhole_248_L188 (v1 : Int32) (v2 : Int32) (v4 : Int32) (S : Sm) : Option ((Int32 × Int32) ⊕ (Int32)) := (Md_isWhole_249_L188 v1 v2 v4 0 S)
set_option maxRecDepth 4000 in
theorem t_Md_isWhole_248_L188 {V : Sm → Wd} (hV : VwT V) {l : Launch} {Γ : Gm} {v1 : Int32} {v2 : Int32} {v4 : Int32} {rF : Option Value} {wF : Wd} {S : Sm} {o : (Int32 × Int32) ⊕ (Int32)} (h : Md_isWhole_248_L188 v1 v2 v4 S = some o) (hK : Sum.elim (hd_Md_isWhole_L188 V l Γ rF wF v1 v2 S) (ps_Md_isWhole_L188 V l Γ rF wF v1 v2 S) o) : G mX12_isWhole l Γ (rmD 0 0 0) (mQ Γ rF wF 0 0) 0 0 248 [some (.ref 53), some (.int v1), some (.int v2), none, some (.int v4), none, none] [] (V S) := by
  unfold Md_isWhole_248_L188 at h
  refine g_iconst (v := 0) (pc := 248) dX12_isWhole_248 (by decide) ?_
  exact t_Md_isWhole_249_L188 hV h hK
def Md_isWhole_244_L188 (v1 : Int32) (v2 : Int32) (v4 : Int32) (S : Sm) : Option ((Int32 × Int32) ⊕ (Int32)) := (Md_isWhole_249_L188 v1 v2 v4 1 S)
set_option maxRecDepth 4000 in
theorem t_Md_isWhole_244_L188 {V : Sm → Wd} (hV : VwT V) {l : Launch} {Γ : Gm} {v1 : Int32} {v2 : Int32} {v4 : Int32} {rF : Option Value} {wF : Wd} {S : Sm} {o : (Int32 × Int32) ⊕ (Int32)} (h : Md_isWhole_244_L188 v1 v2 v4 S = some o) (hK : Sum.elim (hd_Md_isWhole_L188 V l Γ rF wF v1 v2 S) (ps_Md_isWhole_L188 V l Γ rF wF v1 v2 S) o) : G mX12_isWhole l Γ (rmD 0 0 0) (mQ Γ rF wF 0 0) 0 0 244 [some (.ref 53), some (.int v1), some (.int v2), none, some (.int v4), none, none] [] (V S) := by
  unfold Md_isWhole_244_L188 at h
  refine g_iconst (v := 1) (pc := 244) dX12_isWhole_244 (by decide) ?_
  refine g_goto (tgt := 249) (pc := 245) dX12_isWhole_245 (by decide) ?_
  exact t_Md_isWhole_249_L188 hV h hK
def Md_isWhole_L188 (v1 : Int32) (v2 : Int32) (S : Sm) (q : Int32 × Int32) : Option ((Int32 × Int32) ⊕ (Int32)) := (if (gi S 53 22) ≤ q.2 then (some (.inr q.1)) else (if inb ((4 * q.2) + 1) 24 then (if q.1 = 0 then (Md_isWhole_248_L188 v1 v2 q.2 S) else (if inb (4 * q.2) 24 then (if v1 ≤ (gi S 66 (ix (4 * q.2))) then (Md_isWhole_248_L188 v1 v2 q.2 S) else (if (gi S 66 (ix ((4 * q.2) + 1))) = 5 then (Md_isWhole_244_L188 v1 v2 q.2 S) else (if (gi S 64 1) ≤ (gi S 66 (ix ((4 * q.2) + 1))) then (Md_isWhole_248_L188 v1 v2 q.2 S) else (Md_isWhole_244_L188 v1 v2 q.2 S)))) else none)) else none))
set_option maxRecDepth 4000 in
theorem t_Md_isWhole_L188 {V : Sm → Wd} (hV : VwT V) {l : Launch} {Γ : Gm} {rF : Option Value} {wF : Wd} {v1 : Int32} {v2 : Int32} {S : Sm} {q : Int32 × Int32} {o : (Int32 × Int32) ⊕ (Int32)} (h : Md_isWhole_L188 v1 v2 S q = some o) (hK : Sum.elim (hd_Md_isWhole_L188 V l Γ rF wF v1 v2 S) (ps_Md_isWhole_L188 V l Γ rF wF v1 v2 S) o) : hd_Md_isWhole_L188 V l Γ rF wF v1 v2 S q := by
  unfold Md_isWhole_L188 at h
  unfold hd_Md_isWhole_L188
  refine g_iload (pc := 188) dX12_isWhole_188 rfl ?_
  refine g_aload_n (pc := 190) dX12_isWhole_190 rfl ?_
  refine v_getI hV (pc := 191) dX12_isWhole_191 fo_12_22 rfl k0_53 own_53 ?_
  refine g_icmp_ge (tgt := 256) (pc := 194) dX12_isWhole_194 (by decide) (fun c27 => ?_) (fun c27 => ?_)
  · rw [if_pos c27] at h
    refine g_wk [true, true, true, true, false, false, false] rfl ?_
    cases h
    exact hK
  · rw [if_neg c27] at h
    refine g_aload_n (pc := 197) dX12_isWhole_197 rfl ?_
    refine v_getR hV (pc := 198) dX12_isWhole_198 fo_12_19 rfl k0_53 r0_53_19 ?_
    refine g_iconst (v := 4) (pc := 201) dX12_isWhole_201 (by decide) ?_
    refine g_iload (pc := 202) dX12_isWhole_202 rfl ?_
    refine g_imul (pc := 204) dX12_isWhole_204 ?_
    refine g_iconst (v := 1) (pc := 205) dX12_isWhole_205 (by decide) ?_
    refine g_iadd (pc := 206) dX12_isWhole_206 ?_
    by_cases c21 : inb ((4 * q.2) + 1) 24
    · rw [if_pos c21] at h
      refine v_iald hV (pc := 207) dX12_isWhole_207 k0_66 own_66 c21 ?_
      refine g_istore (ls1 := [some (.ref 53), some (.int v1), some (.int v2), some (.int q.1), some (.int q.2), some (.int (gi S 66 (ix ((4 * q.2) + 1)))), none]) (pc := 208) dX12_isWhole_208 (by decide) rfl ?_
      refine g_iload_n (pc := 210) dX12_isWhole_210 rfl ?_
      refine g_if_eq (tgt := 248) (pc := 211) dX12_isWhole_211 (by decide) (fun c26 => ?_) (fun c26 => ?_)
      · rw [if_pos c26] at h
        refine g_wk [true, true, true, false, true, false, false] rfl ?_
        exact t_Md_isWhole_248_L188 hV h hK
      · rw [if_neg c26] at h
        refine g_aload_n (pc := 214) dX12_isWhole_214 rfl ?_
        refine v_getR hV (pc := 215) dX12_isWhole_215 fo_12_19 rfl k0_53 r0_53_19 ?_
        refine g_iconst (v := 4) (pc := 218) dX12_isWhole_218 (by decide) ?_
        refine g_iload (pc := 219) dX12_isWhole_219 rfl ?_
        refine g_imul (pc := 221) dX12_isWhole_221 ?_
        by_cases c22 : inb (4 * q.2) 24
        · rw [if_pos c22] at h
          refine v_iald hV (pc := 222) dX12_isWhole_222 k0_66 own_66 c22 ?_
          refine g_iload_n (pc := 223) dX12_isWhole_223 rfl ?_
          refine g_icmp_ge (tgt := 248) (pc := 224) dX12_isWhole_224 (by decide) (fun c25 => ?_) (fun c25 => ?_)
          · rw [if_pos c25] at h
            refine g_wk [true, true, true, false, true, false, false] rfl ?_
            exact t_Md_isWhole_248_L188 hV h hK
          · rw [if_neg c25] at h
            refine g_iload (pc := 227) dX12_isWhole_227 rfl ?_
            refine g_iconst (v := 5) (pc := 229) dX12_isWhole_229 (by decide) ?_
            refine g_icmp_eq (tgt := 244) (pc := 230) dX12_isWhole_230 (by decide) (fun c24 => ?_) (fun c24 => ?_)
            · rw [if_pos c24] at h
              refine g_wk [true, true, true, false, true, false, false] rfl ?_
              exact t_Md_isWhole_244_L188 hV h hK
            · rw [if_neg c24] at h
              refine g_iload (pc := 233) dX12_isWhole_233 rfl ?_
              refine g_aload_n (pc := 235) dX12_isWhole_235 rfl ?_
              refine v_getR hV (pc := 236) dX12_isWhole_236 fo_12_17 rfl k0_53 r0_53_17 ?_
              refine g_iconst (v := 1) (pc := 239) dX12_isWhole_239 (by decide) ?_
              refine v_ialdK hV (k := 1) (pc := 240) dX12_isWhole_240 k0_64 own_64 (by decide) (by decide) ?_
              refine g_icmp_ge (tgt := 248) (pc := 241) dX12_isWhole_241 (by decide) (fun c23 => ?_) (fun c23 => ?_)
              · rw [if_pos c23] at h
                refine g_wk [true, true, true, false, true, false, false] rfl ?_
                exact t_Md_isWhole_248_L188 hV h hK
              · rw [if_neg c23] at h
                refine g_wk [true, true, true, false, true, false, false] rfl ?_
                exact t_Md_isWhole_244_L188 hV h hK
        · rw [if_neg c22] at h; cases h
    · rw [if_neg c21] at h; cases h
set_option maxRecDepth 4000 in
theorem w_Md_isWhole_L188 {V : Sm → Wd} (hV : VwT V) {l : Launch} {Γ : Gm} {rF : Option Value} {wF : Wd} {v1 : Int32} {v2 : Int32} {S : Sm} {k : Nat} {q : Int32 × Int32} {o : Int32} (h : lpN (Md_isWhole_L188 v1 v2 S) k q = some o) (hP : ps_Md_isWhole_L188 V l Γ rF wF v1 v2 S o) : hd_Md_isWhole_L188 V l Γ rF wF v1 v2 S q := lpN_ind2 (hd_Md_isWhole_L188 V l Γ rF wF v1 v2 S) (ps_Md_isWhole_L188 V l Γ rF wF v1 v2 S) (fun s o h hK => t_Md_isWhole_L188 hV h hK) k q o h hP
def hd_Md_isWhole_L259 (V : Sm → Wd) (l : Launch) (Γ : Gm) (rF : Option Value) (wF : Wd) (v1 : Int32) (v2 : Int32) (S : Sm) (q : Int32 × Int32) : Prop := G mX12_isWhole l Γ (rmD 0 0 0) (mQ Γ rF wF 0 0) 0 0 259 [some (.ref 53), some (.int v1), some (.int v2), some (.int q.1), some (.int q.2), none, none] [] (V S)
def ps_Md_isWhole_L259 (V : Sm → Wd) (l : Launch) (Γ : Gm) (rF : Option Value) (wF : Wd) (v1 : Int32) (v2 : Int32) (S : Sm) (x : Int32) : Prop := (fun (a : Int32) => G mX12_isWhole l Γ (rmD 0 0 0) (mQ Γ rF wF 0 0) 0 0 295 [none, none, some (.int v2), some (.int a), none, none, none] [] (V S)) x
def Md_isWhole_288_L259 (v1 : Int32) (v2 : Int32) (v4 : Int32) (s0 : Int32) (S : Sm) : Option ((Int32 × Int32) ⊕ (Int32)) := (some (.inl (s0, v4 + 1)))
set_option maxRecDepth 4000 in
theorem t_Md_isWhole_288_L259 {V : Sm → Wd} (hV : VwT V) {l : Launch} {Γ : Gm} {v1 : Int32} {v2 : Int32} {v4 : Int32} {s0 : Int32} {rF : Option Value} {wF : Wd} {S : Sm} {o : (Int32 × Int32) ⊕ (Int32)} (h : Md_isWhole_288_L259 v1 v2 v4 s0 S = some o) (hK : Sum.elim (hd_Md_isWhole_L259 V l Γ rF wF v1 v2 S) (ps_Md_isWhole_L259 V l Γ rF wF v1 v2 S) o) : G mX12_isWhole l Γ (rmD 0 0 0) (mQ Γ rF wF 0 0) 0 0 288 [some (.ref 53), some (.int v1), some (.int v2), none, some (.int v4), none, none] [.int s0] (V S) := by
  unfold Md_isWhole_288_L259 at h
  refine g_istore_n (ls1 := [some (.ref 53), some (.int v1), some (.int v2), some (.int s0), some (.int v4), none, none]) (pc := 288) dX12_isWhole_288 (by decide) rfl ?_
  refine g_iinc (v := v4 + 1) (ls1 := [some (.ref 53), some (.int v1), some (.int v2), some (.int s0), some (.int (v4 + 1)), none, none]) (pc := 289) dX12_isWhole_289 rfl rfl (by decide) rfl ?_
  refine g_goto (tgt := 259) (pc := 292) dX12_isWhole_292 (by decide) ?_
  cases h
  exact hK
def Md_isWhole_287_L259 (v1 : Int32) (v2 : Int32) (v4 : Int32) (S : Sm) : Option ((Int32 × Int32) ⊕ (Int32)) := (Md_isWhole_288_L259 v1 v2 v4 0 S)
set_option maxRecDepth 4000 in
theorem t_Md_isWhole_287_L259 {V : Sm → Wd} (hV : VwT V) {l : Launch} {Γ : Gm} {v1 : Int32} {v2 : Int32} {v4 : Int32} {rF : Option Value} {wF : Wd} {S : Sm} {o : (Int32 × Int32) ⊕ (Int32)} (h : Md_isWhole_287_L259 v1 v2 v4 S = some o) (hK : Sum.elim (hd_Md_isWhole_L259 V l Γ rF wF v1 v2 S) (ps_Md_isWhole_L259 V l Γ rF wF v1 v2 S) o) : G mX12_isWhole l Γ (rmD 0 0 0) (mQ Γ rF wF 0 0) 0 0 287 [some (.ref 53), some (.int v1), some (.int v2), none, some (.int v4), none, none] [] (V S) := by
  unfold Md_isWhole_287_L259 at h
  refine g_iconst (v := 0) (pc := 287) dX12_isWhole_287 (by decide) ?_
  exact t_Md_isWhole_288_L259 hV h hK
def Md_isWhole_L259 (v1 : Int32) (v2 : Int32) (S : Sm) (q : Int32 × Int32) : Option ((Int32 × Int32) ⊕ (Int32)) := (if (gi S 53 23) ≤ q.2 then (some (.inr q.1)) else (if q.1 = 0 then (Md_isWhole_287_L259 v1 v2 q.2 S) else (if inb q.2 4 then (if v1 ≤ (gi S 67 (ix q.2)) then (Md_isWhole_287_L259 v1 v2 q.2 S) else (Md_isWhole_288_L259 v1 v2 q.2 1 S)) else none)))
set_option maxRecDepth 4000 in
theorem t_Md_isWhole_L259 {V : Sm → Wd} (hV : VwT V) {l : Launch} {Γ : Gm} {rF : Option Value} {wF : Wd} {v1 : Int32} {v2 : Int32} {S : Sm} {q : Int32 × Int32} {o : (Int32 × Int32) ⊕ (Int32)} (h : Md_isWhole_L259 v1 v2 S q = some o) (hK : Sum.elim (hd_Md_isWhole_L259 V l Γ rF wF v1 v2 S) (ps_Md_isWhole_L259 V l Γ rF wF v1 v2 S) o) : hd_Md_isWhole_L259 V l Γ rF wF v1 v2 S q := by
  unfold Md_isWhole_L259 at h
  unfold hd_Md_isWhole_L259
  refine g_iload (pc := 259) dX12_isWhole_259 rfl ?_
  refine g_aload_n (pc := 261) dX12_isWhole_261 rfl ?_
  refine v_getI hV (pc := 262) dX12_isWhole_262 fo_12_23 rfl k0_53 own_53 ?_
  refine g_icmp_ge (tgt := 295) (pc := 265) dX12_isWhole_265 (by decide) (fun c32 => ?_) (fun c32 => ?_)
  · rw [if_pos c32] at h
    refine g_wk [false, false, true, true, false, false, false] rfl ?_
    cases h
    exact hK
  · rw [if_neg c32] at h
    refine g_iload_n (pc := 268) dX12_isWhole_268 rfl ?_
    refine g_if_eq (tgt := 287) (pc := 269) dX12_isWhole_269 (by decide) (fun c31 => ?_) (fun c31 => ?_)
    · rw [if_pos c31] at h
      refine g_wk [true, true, true, false, true, false, false] rfl ?_
      exact t_Md_isWhole_287_L259 hV h hK
    · rw [if_neg c31] at h
      refine g_aload_n (pc := 272) dX12_isWhole_272 rfl ?_
      refine v_getR hV (pc := 273) dX12_isWhole_273 fo_12_20 rfl k0_53 r0_53_20 ?_
      refine g_iload (pc := 276) dX12_isWhole_276 rfl ?_
      by_cases c29 : inb q.2 4
      · rw [if_pos c29] at h
        refine v_iald hV (pc := 278) dX12_isWhole_278 k0_67 own_67 c29 ?_
        refine g_iload_n (pc := 279) dX12_isWhole_279 rfl ?_
        refine g_icmp_ge (tgt := 287) (pc := 280) dX12_isWhole_280 (by decide) (fun c30 => ?_) (fun c30 => ?_)
        · rw [if_pos c30] at h
          refine g_wk [true, true, true, false, true, false, false] rfl ?_
          exact t_Md_isWhole_287_L259 hV h hK
        · rw [if_neg c30] at h
          refine g_iconst (v := 1) (pc := 283) dX12_isWhole_283 (by decide) ?_
          refine g_goto (tgt := 288) (pc := 284) dX12_isWhole_284 (by decide) ?_
          refine g_wk [true, true, true, false, true, false, false] rfl ?_
          exact t_Md_isWhole_288_L259 hV h hK
      · rw [if_neg c29] at h; cases h
set_option maxRecDepth 4000 in
theorem w_Md_isWhole_L259 {V : Sm → Wd} (hV : VwT V) {l : Launch} {Γ : Gm} {rF : Option Value} {wF : Wd} {v1 : Int32} {v2 : Int32} {S : Sm} {k : Nat} {q : Int32 × Int32} {o : Int32} (h : lpN (Md_isWhole_L259 v1 v2 S) k q = some o) (hP : ps_Md_isWhole_L259 V l Γ rF wF v1 v2 S o) : hd_Md_isWhole_L259 V l Γ rF wF v1 v2 S q := lpN_ind2 (hd_Md_isWhole_L259 V l Γ rF wF v1 v2 S) (ps_Md_isWhole_L259 V l Γ rF wF v1 v2 S) (fun s o h hK => t_Md_isWhole_L259 hV h hK) k q o h hP
def Md_isWhole_309 (s0 : Int32) (S : Sm) : Option (Int32) := (some (s0 &&& 1))
set_option maxRecDepth 4000 in
theorem t_Md_isWhole_309 {V : Sm → Wd} (hV : VwT V) {l : Launch} {Γ : Gm} {s0 : Int32} {S : Sm} {q : Int32} (h : Md_isWhole_309 s0 S = some q) : G mX12_isWhole l Γ (rmD 0 0 0) (mQ Γ (some (.int q)) (V S) 0 0) 0 0 309 [none, none, none, none, none, none, none] [.int s0] (V S) := by
  unfold Md_isWhole_309 at h
  cases h
  exact g_iret (pc := 309) dX12_isWhole_309 rfl rfl (Nat.le_refl _) (Nat.le_refl _)
def Md_isWhole_308 (S : Sm) : Option (Int32) := (Md_isWhole_309 0 S)
set_option maxRecDepth 4000 in
theorem t_Md_isWhole_308 {V : Sm → Wd} (hV : VwT V) {l : Launch} {Γ : Gm}  {S : Sm} {q : Int32} (h : Md_isWhole_308 S = some q) : G mX12_isWhole l Γ (rmD 0 0 0) (mQ Γ (some (.int q)) (V S) 0 0) 0 0 308 [none, none, none, none, none, none, none] [] (V S) := by
  unfold Md_isWhole_308 at h
  refine g_iconst (v := 0) (pc := 308) dX12_isWhole_308 (by decide) ?_
  exact t_Md_isWhole_309 hV h
def Md_isWhole (S : Sm) : Option (Int32) := ((lpN (Md_isWhole_L14 (gi S 64 0) S) FU (0, 1, 0)).bind fun q20 => ((lpN (Md_isWhole_L188 (gi S 64 0) q20.1 S) FU (q20.2, 0)).bind fun q28 => ((lpN (Md_isWhole_L259 (gi S 64 0) q20.1 S) FU (q28, 0)).bind fun q33 => (if q33 = 0 then (Md_isWhole_308 S) else (if (4 : Int32) < q20.1 then (Md_isWhole_308 S) else (Md_isWhole_309 1 S))))))
set_option maxRecDepth 4000 in
theorem r_Md_isWhole {V : Sm → Wd} (hV : VwT V)  {S : Sm} {q : Int32} (h : Md_isWhole S = some q) : Runs 0 mX12_isWhole [.ref 53] (V S) (some (.int q)) (V S) 0 0 := by
  unfold Md_isWhole at h
  refine Runs.of2 [some (.ref 53), none, none, none, none, none, none] 6 rfl rfl (Nat.le_of_ble_eq_true rfl) (fun l Γ => ?_)
  refine g_aload_n (pc := 0) dX12_isWhole_0 rfl ?_
  refine v_getR hV (pc := 1) dX12_isWhole_1 fo_12_17 rfl k0_53 r0_53_17 ?_
  refine g_iconst (v := 0) (pc := 4) dX12_isWhole_4 (by decide) ?_
  refine v_ialdK hV (k := 0) (pc := 5) dX12_isWhole_5 k0_64 own_64 (by decide) (by decide) ?_
  refine g_istore_n (ls1 := [some (.ref 53), some (.int (gi S 64 0)), none, none, none, none, none]) (pc := 6) dX12_isWhole_6 (by decide) rfl ?_
  refine g_iconst (v := 0) (pc := 7) dX12_isWhole_7 (by decide) ?_
  refine g_istore_n (ls1 := [some (.ref 53), some (.int (gi S 64 0)), some (.int 0), none, none, none, none]) (pc := 8) dX12_isWhole_8 (by decide) rfl ?_
  refine g_iconst (v := 1) (pc := 9) dX12_isWhole_9 (by decide) ?_
  refine g_istore_n (ls1 := [some (.ref 53), some (.int (gi S 64 0)), some (.int 0), some (.int 1), none, none, none]) (pc := 10) dX12_isWhole_10 (by decide) rfl ?_
  refine g_iconst (v := 0) (pc := 11) dX12_isWhole_11 (by decide) ?_
  refine g_istore (ls1 := [some (.ref 53), some (.int (gi S 64 0)), some (.int 0), some (.int 1), some (.int 0), none, none]) (pc := 12) dX12_isWhole_12 (by decide) rfl ?_
  obtain ⟨q20, hqq20, h⟩ := bnd h
  refine w_Md_isWhole_L14 hV hqq20 ?_
  unfold ps_Md_isWhole_L14
  show G _ _ _ _ _ _ _ _ _ _ _
  refine g_iconst (v := 0) (pc := 185) dX12_isWhole_185 (by decide) ?_
  refine g_istore (ls1 := [some (.ref 53), some (.int (gi S 64 0)), some (.int q20.1), some (.int q20.2), some (.int 0), none, none]) (pc := 186) dX12_isWhole_186 (by decide) rfl ?_
  obtain ⟨q28, hqq28, h⟩ := bnd h
  refine w_Md_isWhole_L188 hV hqq28 ?_
  unfold ps_Md_isWhole_L188
  show G _ _ _ _ _ _ _ _ _ _ _
  refine g_iconst (v := 0) (pc := 256) dX12_isWhole_256 (by decide) ?_
  refine g_istore (ls1 := [some (.ref 53), some (.int (gi S 64 0)), some (.int q20.1), some (.int q28), some (.int 0), none, none]) (pc := 257) dX12_isWhole_257 (by decide) rfl ?_
  obtain ⟨q33, hqq33, h⟩ := bnd h
  refine w_Md_isWhole_L259 hV hqq33 ?_
  unfold ps_Md_isWhole_L259
  show G _ _ _ _ _ _ _ _ _ _ _
  refine g_iload_n (pc := 295) dX12_isWhole_295 rfl ?_
  refine g_if_eq (tgt := 308) (pc := 296) dX12_isWhole_296 (by decide) (fun c35 => ?_) (fun c35 => ?_)
  · rw [if_pos c35] at h
    refine g_wk [false, false, false, false, false, false, false] rfl ?_
    exact t_Md_isWhole_308 hV h
  · rw [if_neg c35] at h
    refine g_iload_n (pc := 299) dX12_isWhole_299 rfl ?_
    refine g_iconst (v := 4) (pc := 300) dX12_isWhole_300 (by decide) ?_
    refine g_icmp_gt (tgt := 308) (pc := 301) dX12_isWhole_301 (by decide) (fun c34 => ?_) (fun c34 => ?_)
    · rw [if_pos c34] at h
      refine g_wk [false, false, false, false, false, false, false] rfl ?_
      exact t_Md_isWhole_308 hV h
    · rw [if_neg c34] at h
      refine g_iconst (v := 1) (pc := 304) dX12_isWhole_304 (by decide) ?_
      refine g_goto (tgt := 309) (pc := 305) dX12_isWhole_305 (by decide) ?_
      refine g_wk [false, false, false, false, false, false, false] rfl ?_
      exact t_Md_isWhole_309 hV h
def hd_Md_items_67_L3 (V : Sm → Wd) (l : Launch) (Γ : Gm) (rF : Option Value) (wF : Wd) (v1 : Int32) (v3 : Int32) (v4 : Int32) (q : Int32 × Sm) : Prop := G mX12_items l Γ (rmD 3 0 0) (mQ Γ rF wF 0 0) 0 0 3 [some (.ref 53), some (.int v1), some (.ref 67), some (.int v3), some (.int v4), some (.int q.1), none] [] (V q.2)
def ps_Md_items_67_L3 (V : Sm → Wd) (l : Launch) (Γ : Gm) (rF : Option Value) (wF : Wd) (v1 : Int32) (v3 : Int32) (v4 : Int32) (x : Sm) : Prop := (fun (a : Sm) => G mX12_items l Γ (rmD 3 0 0) (mQ Γ rF wF 0 0) 0 0 28 [some (.ref 53), some (.int v1), some (.ref 67), some (.int v3), none, none, none] [] (V a)) x
def Md_items_67_L3 (v1 : Int32) (v3 : Int32) (v4 : Int32) (q : Int32 × Sm) : Option ((Int32 × Sm) ⊕ (Sm)) := (if v4 ≤ q.1 then (some (.inr q.2)) else (if inb (v3 + q.1) 4 then (some (.inl (q.1 + 1, si q.2 67 (ix (v3 + q.1)) (Md_usual v1 q.1)))) else none))
set_option maxRecDepth 4000 in
theorem t_Md_items_67_L3 {V : Sm → Wd} (hV : VwT V) {l : Launch} {Γ : Gm} {rF : Option Value} {wF : Wd} {v1 : Int32} {v3 : Int32} {v4 : Int32} {q : Int32 × Sm} {o : (Int32 × Sm) ⊕ (Sm)} (h : Md_items_67_L3 v1 v3 v4 q = some o) (hK : Sum.elim (hd_Md_items_67_L3 V l Γ rF wF v1 v3 v4) (ps_Md_items_67_L3 V l Γ rF wF v1 v3 v4) o) : hd_Md_items_67_L3 V l Γ rF wF v1 v3 v4 q := by
  unfold Md_items_67_L3 at h
  unfold hd_Md_items_67_L3
  refine g_iload (pc := 3) dX12_items_3 rfl ?_
  refine g_iload (pc := 5) dX12_items_5 rfl ?_
  refine g_icmp_ge (tgt := 28) (pc := 7) dX12_items_7 (by decide) (fun c2 => ?_) (fun c2 => ?_)
  · rw [if_pos c2] at h
    refine g_wk [true, true, true, true, false, false, false] rfl ?_
    cases h
    exact hK
  · rw [if_neg c2] at h
    refine g_aload_n (pc := 10) dX12_items_10 rfl ?_
    refine g_iload_n (pc := 11) dX12_items_11 rfl ?_
    refine g_iload (pc := 12) dX12_items_12 rfl ?_
    refine g_iadd (pc := 14) dX12_items_14 ?_
    refine g_iload_n (pc := 15) dX12_items_15 rfl ?_
    refine g_iload (pc := 16) dX12_items_16 rfl ?_
    refine v_callSi (Mc := mX12_usual) (v := Md_usual v1 q.1) (S1 := q.2) (As := [.int v1, .int q.1]) (rest := [.int (v3 + q.1), .ref 67]) (pc := 18) dX12_items_18 mK_X12_242 mf_X12_usual rfl rfl (Nat.le_of_ble_eq_true rfl) ⟨Nat.le_of_ble_eq_true rfl, Nat.le_of_ble_eq_true rfl⟩ (r_Md_usual hV rfl) ?_
    by_cases c1 : inb (v3 + q.1) 4
    · rw [if_pos c1] at h
      refine v_iast hV (pc := 21) dX12_items_21 k0_67 own_67 c1 ?_
      refine g_iinc (v := q.1 + 1) (ls1 := [some (.ref 53), some (.int v1), some (.ref 67), some (.int v3), some (.int v4), some (.int (q.1 + 1)), none]) (pc := 22) dX12_items_22 rfl rfl (by decide) rfl ?_
      refine g_goto (tgt := 3) (pc := 25) dX12_items_25 (by decide) ?_
      cases h
      exact hK
    · rw [if_neg c1] at h; cases h
set_option maxRecDepth 4000 in
theorem w_Md_items_67_L3 {V : Sm → Wd} (hV : VwT V) {l : Launch} {Γ : Gm} {rF : Option Value} {wF : Wd} {v1 : Int32} {v3 : Int32} {v4 : Int32} {k : Nat} {q : Int32 × Sm} {o : Sm} (h : lpN (Md_items_67_L3 v1 v3 v4) k q = some o) (hP : ps_Md_items_67_L3 V l Γ rF wF v1 v3 v4 o) : hd_Md_items_67_L3 V l Γ rF wF v1 v3 v4 q := lpN_ind2 (hd_Md_items_67_L3 V l Γ rF wF v1 v3 v4) (ps_Md_items_67_L3 V l Γ rF wF v1 v3 v4) (fun s o h hK => t_Md_items_67_L3 hV h hK) k q o h hP
def hd_Md_items_67_L41 (V : Sm → Wd) (l : Launch) (Γ : Gm) (rF : Option Value) (wF : Wd) (v1 : Int32) (v3 : Int32) (q : Int32 × Int32 × Sm) : Prop := G mX12_items l Γ (rmD 3 0 0) (mQ Γ rF wF 0 0) 0 0 41 [some (.ref 53), some (.int v1), some (.ref 67), some (.int v3), none, some (.int q.1), some (.int q.2.1)] [] (V q.2.2)
def ps_Md_items_67_L41 (V : Sm → Wd) (l : Launch) (Γ : Gm) (rF : Option Value) (wF : Wd) (v1 : Int32) (v3 : Int32) (x : Sm) : Prop := (fun (a : Sm) => G mX12_items l Γ (rmD 3 0 0) (mQ Γ rF wF 0 0) 0 0 131 [none, none, none, none, none, none, none] [] (V a)) x
def Md_items_67_126_L41 (v1 : Int32) (v3 : Int32) (v5 : Int32) (s0 : Int32) (S : Sm) : Option ((Int32 × Int32 × Sm) ⊕ (Sm)) := (some (.inl (v5, s0, S)))
set_option maxRecDepth 4000 in
theorem t_Md_items_67_126_L41 {V : Sm → Wd} (hV : VwT V) {l : Launch} {Γ : Gm} {v1 : Int32} {v3 : Int32} {v5 : Int32} {s0 : Int32} {rF : Option Value} {wF : Wd} {S : Sm} {o : (Int32 × Int32 × Sm) ⊕ (Sm)} (h : Md_items_67_126_L41 v1 v3 v5 s0 S = some o) (hK : Sum.elim (hd_Md_items_67_L41 V l Γ rF wF v1 v3) (ps_Md_items_67_L41 V l Γ rF wF v1 v3) o) : G mX12_items l Γ (rmD 3 0 0) (mQ Γ rF wF 0 0) 0 0 126 [some (.ref 53), some (.int v1), some (.ref 67), some (.int v3), none, some (.int v5), none] [.int s0] (V S) := by
  unfold Md_items_67_126_L41 at h
  refine g_istore (ls1 := [some (.ref 53), some (.int v1), some (.ref 67), some (.int v3), none, some (.int v5), some (.int s0)]) (pc := 126) dX12_items_126 (by decide) rfl ?_
  refine g_goto (tgt := 41) (pc := 128) dX12_items_128 (by decide) ?_
  cases h
  exact hK
def Md_items_67_L41 (v1 : Int32) (v3 : Int32) (q : Int32 × Int32 × Sm) : Option ((Int32 × Int32 × Sm) ⊕ (Sm)) := (if (gi q.2.2 53 4) = ((-1)) then (if q.2.1 = ((-1)) then (some (.inr q.2.2)) else (if (Md_has q.1 q.2.1) = 0 then ((Md_number (Md_lowest v1 q.2.1) (Md_highest v1 q.2.1) (si q.2.2 53 3 ((gi q.2.2 53 3) + 1))).bind fun q5 => (if inb (v3 + q.2.1) 4 then (if (gi (si q5.2 67 (ix (v3 + q.2.1)) q5.1) 53 4) = ((-1)) then ((Md_look (si q5.2 67 (ix (v3 + q.2.1)) q5.1)).bind fun q7 => (Md_items_67_126_L41 v1 v3 (q.1 ||| (iShl 1 q.2.1)) (Md_itemOf v1 q7.1) q7.2)) else (Md_items_67_126_L41 v1 v3 (q.1 ||| (iShl 1 q.2.1)) ((-1)) (si q5.2 67 (ix (v3 + q.2.1)) q5.1))) else none)) else (some (.inr q.2.2)))) else (some (.inr q.2.2)))
set_option maxRecDepth 4000 in
theorem t_Md_items_67_L41 {V : Sm → Wd} (hV : VwT V) {l : Launch} {Γ : Gm} {rF : Option Value} {wF : Wd} {v1 : Int32} {v3 : Int32} {q : Int32 × Int32 × Sm} {o : (Int32 × Int32 × Sm) ⊕ (Sm)} (h : Md_items_67_L41 v1 v3 q = some o) (hK : Sum.elim (hd_Md_items_67_L41 V l Γ rF wF v1 v3) (ps_Md_items_67_L41 V l Γ rF wF v1 v3) o) : hd_Md_items_67_L41 V l Γ rF wF v1 v3 q := by
  unfold Md_items_67_L41 at h
  unfold hd_Md_items_67_L41
  refine g_aload_n (pc := 41) dX12_items_41 rfl ?_
  refine v_getI hV (pc := 42) dX12_items_42 fo_12_4 rfl k0_53 own_53 ?_
  refine g_iconst (v := (-1)) (pc := 45) dX12_items_45 (by decide) ?_
  refine g_icmp_ne (tgt := 131) (pc := 46) dX12_items_46 (by decide) (fun c11 => ?_) (fun c11 => ?_)
  · rw [if_neg c11] at h
    refine g_wk [false, false, false, false, false, false, false] rfl ?_
    cases h
    exact hK
  · rw [if_pos c11] at h
    refine g_iload (pc := 49) dX12_items_49 rfl ?_
    refine g_iconst (v := (-1)) (pc := 51) dX12_items_51 (by decide) ?_
    refine g_icmp_eq (tgt := 131) (pc := 52) dX12_items_52 (by decide) (fun c10 => ?_) (fun c10 => ?_)
    · rw [if_pos c10] at h
      refine g_wk [false, false, false, false, false, false, false] rfl ?_
      cases h
      exact hK
    · rw [if_neg c10] at h
      refine g_iload (pc := 55) dX12_items_55 rfl ?_
      refine g_iload (pc := 57) dX12_items_57 rfl ?_
      refine v_callSi (Mc := mX12_has) (v := Md_has q.1 q.2.1) (S1 := q.2.2) (As := [.int q.1, .int q.2.1]) (rest := []) (pc := 59) dX12_items_59 mK_X12_249 mf_X12_has rfl rfl (Nat.le_of_ble_eq_true rfl) ⟨Nat.le_of_ble_eq_true rfl, Nat.le_of_ble_eq_true rfl⟩ (r_Md_has hV rfl) ?_
      refine g_if_ne (tgt := 131) (pc := 62) dX12_items_62 (by decide) (fun c9 => ?_) (fun c9 => ?_)
      · rw [if_neg c9] at h
        refine g_wk [false, false, false, false, false, false, false] rfl ?_
        cases h
        exact hK
      · rw [if_pos c9] at h
        refine g_iload (pc := 65) dX12_items_65 rfl ?_
        refine g_iconst (v := 1) (pc := 67) dX12_items_67 (by decide) ?_
        refine g_iload (pc := 68) dX12_items_68 rfl ?_
        refine g_ishl (pc := 70) dX12_items_70 ?_
        refine g_ior (pc := 71) dX12_items_71 ?_
        refine g_istore (ls1 := [some (.ref 53), some (.int v1), some (.ref 67), some (.int v3), none, some (.int (q.1 ||| (iShl 1 q.2.1))), some (.int q.2.1)]) (pc := 72) dX12_items_72 (by decide) rfl ?_
        refine g_aload_n (pc := 74) dX12_items_74 rfl ?_
        refine g_dup (pc := 75) dX12_items_75 rfl ?_
        refine v_getI hV (pc := 76) dX12_items_76 fo_12_3 rfl k0_53 own_53 ?_
        refine g_iconst (v := 1) (pc := 79) dX12_items_79 (by decide) ?_
        refine g_iadd (pc := 80) dX12_items_80 ?_
        refine v_putI hV (pc := 81) dX12_items_81 fo_12_3 rfl k0_53 own_53 rfl ?_
        refine g_aload_n (pc := 84) dX12_items_84 rfl ?_
        refine g_iload_n (pc := 85) dX12_items_85 rfl ?_
        refine g_iload (pc := 86) dX12_items_86 rfl ?_
        refine g_iadd (pc := 88) dX12_items_88 ?_
        refine g_aload_n (pc := 89) dX12_items_89 rfl ?_
        refine g_iload_n (pc := 90) dX12_items_90 rfl ?_
        refine g_iload (pc := 91) dX12_items_91 rfl ?_
        refine v_callSi (Mc := mX12_lowest) (v := Md_lowest v1 q.2.1) (S1 := si q.2.2 53 3 ((gi q.2.2 53 3) + 1)) (As := [.int v1, .int q.2.1]) (rest := [.ref 53, .int (v3 + q.2.1), .ref 67]) (pc := 93) dX12_items_93 mK_X12_253 mf_X12_lowest rfl rfl (Nat.le_of_ble_eq_true rfl) ⟨Nat.le_of_ble_eq_true rfl, Nat.le_of_ble_eq_true rfl⟩ (r_Md_lowest hV rfl) ?_
        refine g_iload_n (pc := 96) dX12_items_96 rfl ?_
        refine g_iload (pc := 97) dX12_items_97 rfl ?_
        refine v_callSi (Mc := mX12_highest) (v := Md_highest v1 q.2.1) (S1 := si q.2.2 53 3 ((gi q.2.2 53 3) + 1)) (As := [.int v1, .int q.2.1]) (rest := [.int (Md_lowest v1 q.2.1), .ref 53, .int (v3 + q.2.1), .ref 67]) (pc := 99) dX12_items_99 mK_X12_256 mf_X12_highest rfl rfl (Nat.le_of_ble_eq_true rfl) ⟨Nat.le_of_ble_eq_true rfl, Nat.le_of_ble_eq_true rfl⟩ (r_Md_highest hV rfl) ?_
        obtain ⟨q5, hq5, h⟩ := bnd h
        refine v_callVi hV (Mc := mX12_number) (v := q5.1) (S1 := q5.2) (As := [.int (Md_lowest v1 q.2.1), .int (Md_highest v1 q.2.1)]) (rest := [.int (v3 + q.2.1), .ref 67]) (q := (RX12, TX12, 58)) (pc := 102) dX12_items_102 mK_X12_259 mf_X12_number rfl k0_53 rfl rfl rfl (Nat.le_of_ble_eq_true rfl) ⟨Nat.le_of_ble_eq_true rfl, Nat.le_of_ble_eq_true rfl⟩ (r_Md_number hV hq5) ?_
        by_cases c6 : inb (v3 + q.2.1) 4
        · rw [if_pos c6] at h
          refine v_iast hV (pc := 105) dX12_items_105 k0_67 own_67 c6 ?_
          refine g_aload_n (pc := 106) dX12_items_106 rfl ?_
          refine v_getI hV (pc := 107) dX12_items_107 fo_12_4 rfl k0_53 own_53 ?_
          refine g_iconst (v := (-1)) (pc := 110) dX12_items_110 (by decide) ?_
          refine g_icmp_ne (tgt := 125) (pc := 111) dX12_items_111 (by decide) (fun c8 => ?_) (fun c8 => ?_)
          · rw [if_neg c8] at h
            refine g_iconst (v := (-1)) (pc := 125) dX12_items_125 (by decide) ?_
            refine g_wk [true, true, true, true, false, true, false] rfl ?_
            exact t_Md_items_67_126_L41 hV h hK
          · rw [if_pos c8] at h
            refine g_iload_n (pc := 114) dX12_items_114 rfl ?_
            refine g_aload_n (pc := 115) dX12_items_115 rfl ?_
            obtain ⟨q7, hq7, h⟩ := bnd h
            refine v_callVi hV (Mc := mX12_look) (v := q7.1) (S1 := q7.2) (As := []) (rest := [.int v1]) (q := (RX12, TX12, 58)) (pc := 116) dX12_items_116 mK_X12_152 mf_X12_look rfl k0_53 rfl rfl rfl (Nat.le_of_ble_eq_true rfl) ⟨Nat.le_of_ble_eq_true rfl, Nat.le_of_ble_eq_true rfl⟩ (r_Md_look hV hq7) ?_
            refine v_callSi (Mc := mX12_itemOf) (v := Md_itemOf v1 q7.1) (S1 := q7.2) (As := [.int v1, .int q7.1]) (rest := []) (pc := 119) dX12_items_119 mK_X12_246 mf_X12_itemOf rfl rfl (Nat.le_of_ble_eq_true rfl) ⟨Nat.le_of_ble_eq_true rfl, Nat.le_of_ble_eq_true rfl⟩ (r_Md_itemOf hV rfl) ?_
            refine g_goto (tgt := 126) (pc := 122) dX12_items_122 (by decide) ?_
            refine g_wk [true, true, true, true, false, true, false] rfl ?_
            exact t_Md_items_67_126_L41 hV h hK
        · rw [if_neg c6] at h; cases h
set_option maxRecDepth 4000 in
theorem w_Md_items_67_L41 {V : Sm → Wd} (hV : VwT V) {l : Launch} {Γ : Gm} {rF : Option Value} {wF : Wd} {v1 : Int32} {v3 : Int32} {k : Nat} {q : Int32 × Int32 × Sm} {o : Sm} (h : lpN (Md_items_67_L41 v1 v3) k q = some o) (hP : ps_Md_items_67_L41 V l Γ rF wF v1 v3 o) : hd_Md_items_67_L41 V l Γ rF wF v1 v3 q := lpN_ind2 (hd_Md_items_67_L41 V l Γ rF wF v1 v3) (ps_Md_items_67_L41 V l Γ rF wF v1 v3) (fun s o h hK => t_Md_items_67_L41 hV h hK) k q o h hP
def Md_items_67 (v1 : Int32) (v3 : Int32) (v4 : Int32) (S : Sm) : Option (Sm) := ((lpN (Md_items_67_L3 v1 v3 v4) FU (0, S)).bind fun q3 => ((Md_look q3).bind fun q4 => ((lpN (Md_items_67_L41 v1 v3) FU (0, Md_itemOf v1 q4.1, q4.2)).bind fun q12 => (some q12))))
set_option maxRecDepth 4000 in
theorem r_Md_items_67 {V : Sm → Wd} (hV : VwT V) {v1 : Int32} {v3 : Int32} {v4 : Int32} {S : Sm} {q : Sm} (h : Md_items_67 v1 v3 v4 S = some q) : Runs 3 mX12_items [.ref 53, .int v1, .ref 67, .int v3, .int v4] (V S) none (V q) 0 0 := by
  unfold Md_items_67 at h
  refine Runs.of2 [some (.ref 53), some (.int v1), some (.ref 67), some (.int v3), some (.int v4), none, none] 2 rfl rfl (Nat.le_of_ble_eq_true rfl) (fun l Γ => ?_)
  refine g_iconst (v := 0) (pc := 0) dX12_items_0 (by decide) ?_
  refine g_istore (ls1 := [some (.ref 53), some (.int v1), some (.ref 67), some (.int v3), some (.int v4), some (.int 0), none]) (pc := 1) dX12_items_1 (by decide) rfl ?_
  obtain ⟨q3, hqq3, h⟩ := bnd h
  refine w_Md_items_67_L3 hV hqq3 ?_
  unfold ps_Md_items_67_L3
  show G _ _ _ _ _ _ _ _ _ _ _
  refine g_iconst (v := 0) (pc := 28) dX12_items_28 (by decide) ?_
  refine g_istore (ls1 := [some (.ref 53), some (.int v1), some (.ref 67), some (.int v3), none, some (.int 0), none]) (pc := 29) dX12_items_29 (by decide) rfl ?_
  refine g_iload_n (pc := 31) dX12_items_31 rfl ?_
  refine g_aload_n (pc := 32) dX12_items_32 rfl ?_
  obtain ⟨q4, hq4, h⟩ := bnd h
  refine v_callVi hV (Mc := mX12_look) (v := q4.1) (S1 := q4.2) (As := []) (rest := [.int v1]) (q := (RX12, TX12, 58)) (pc := 33) dX12_items_33 mK_X12_152 mf_X12_look rfl k0_53 rfl rfl rfl (Nat.le_of_ble_eq_true rfl) ⟨Nat.le_of_ble_eq_true rfl, Nat.le_of_ble_eq_true rfl⟩ (r_Md_look hV hq4) ?_
  refine v_callSi (Mc := mX12_itemOf) (v := Md_itemOf v1 q4.1) (S1 := q4.2) (As := [.int v1, .int q4.1]) (rest := []) (pc := 36) dX12_items_36 mK_X12_246 mf_X12_itemOf rfl rfl (Nat.le_of_ble_eq_true rfl) ⟨Nat.le_of_ble_eq_true rfl, Nat.le_of_ble_eq_true rfl⟩ (r_Md_itemOf hV rfl) ?_
  refine g_istore (ls1 := [some (.ref 53), some (.int v1), some (.ref 67), some (.int v3), none, some (.int 0), some (.int (Md_itemOf v1 q4.1))]) (pc := 39) dX12_items_39 (by decide) rfl ?_
  obtain ⟨q12, hqq12, h⟩ := bnd h
  refine w_Md_items_67_L41 hV hqq12 ?_
  unfold ps_Md_items_67_L41
  show G _ _ _ _ _ _ _ _ _ _ _
  cases h
  exact g_vret (pc := 131) dX12_items_131 rfl (Nat.le_refl _) (Nat.le_refl _)
def hd_Md_items_66_L3 (V : Sm → Wd) (l : Launch) (Γ : Gm) (rF : Option Value) (wF : Wd) (v1 : Int32) (v3 : Int32) (v4 : Int32) (q : Int32 × Sm) : Prop := G mX12_items l Γ (rmD 3 0 0) (mQ Γ rF wF 0 0) 0 0 3 [some (.ref 53), some (.int v1), some (.ref 66), some (.int v3), some (.int v4), some (.int q.1), none] [] (V q.2)
def ps_Md_items_66_L3 (V : Sm → Wd) (l : Launch) (Γ : Gm) (rF : Option Value) (wF : Wd) (v1 : Int32) (v3 : Int32) (v4 : Int32) (x : Sm) : Prop := (fun (a : Sm) => G mX12_items l Γ (rmD 3 0 0) (mQ Γ rF wF 0 0) 0 0 28 [some (.ref 53), some (.int v1), some (.ref 66), some (.int v3), none, none, none] [] (V a)) x
def Md_items_66_L3 (v1 : Int32) (v3 : Int32) (v4 : Int32) (q : Int32 × Sm) : Option ((Int32 × Sm) ⊕ (Sm)) := (if v4 ≤ q.1 then (some (.inr q.2)) else (if inb (v3 + q.1) 24 then (some (.inl (q.1 + 1, si q.2 66 (ix (v3 + q.1)) (Md_usual v1 q.1)))) else none))
set_option maxRecDepth 4000 in
theorem t_Md_items_66_L3 {V : Sm → Wd} (hV : VwT V) {l : Launch} {Γ : Gm} {rF : Option Value} {wF : Wd} {v1 : Int32} {v3 : Int32} {v4 : Int32} {q : Int32 × Sm} {o : (Int32 × Sm) ⊕ (Sm)} (h : Md_items_66_L3 v1 v3 v4 q = some o) (hK : Sum.elim (hd_Md_items_66_L3 V l Γ rF wF v1 v3 v4) (ps_Md_items_66_L3 V l Γ rF wF v1 v3 v4) o) : hd_Md_items_66_L3 V l Γ rF wF v1 v3 v4 q := by
  unfold Md_items_66_L3 at h
  unfold hd_Md_items_66_L3
  refine g_iload (pc := 3) dX12_items_3 rfl ?_
  refine g_iload (pc := 5) dX12_items_5 rfl ?_
  refine g_icmp_ge (tgt := 28) (pc := 7) dX12_items_7 (by decide) (fun c2 => ?_) (fun c2 => ?_)
  · rw [if_pos c2] at h
    refine g_wk [true, true, true, true, false, false, false] rfl ?_
    cases h
    exact hK
  · rw [if_neg c2] at h
    refine g_aload_n (pc := 10) dX12_items_10 rfl ?_
    refine g_iload_n (pc := 11) dX12_items_11 rfl ?_
    refine g_iload (pc := 12) dX12_items_12 rfl ?_
    refine g_iadd (pc := 14) dX12_items_14 ?_
    refine g_iload_n (pc := 15) dX12_items_15 rfl ?_
    refine g_iload (pc := 16) dX12_items_16 rfl ?_
    refine v_callSi (Mc := mX12_usual) (v := Md_usual v1 q.1) (S1 := q.2) (As := [.int v1, .int q.1]) (rest := [.int (v3 + q.1), .ref 66]) (pc := 18) dX12_items_18 mK_X12_242 mf_X12_usual rfl rfl (Nat.le_of_ble_eq_true rfl) ⟨Nat.le_of_ble_eq_true rfl, Nat.le_of_ble_eq_true rfl⟩ (r_Md_usual hV rfl) ?_
    by_cases c1 : inb (v3 + q.1) 24
    · rw [if_pos c1] at h
      refine v_iast hV (pc := 21) dX12_items_21 k0_66 own_66 c1 ?_
      refine g_iinc (v := q.1 + 1) (ls1 := [some (.ref 53), some (.int v1), some (.ref 66), some (.int v3), some (.int v4), some (.int (q.1 + 1)), none]) (pc := 22) dX12_items_22 rfl rfl (by decide) rfl ?_
      refine g_goto (tgt := 3) (pc := 25) dX12_items_25 (by decide) ?_
      cases h
      exact hK
    · rw [if_neg c1] at h; cases h
set_option maxRecDepth 4000 in
theorem w_Md_items_66_L3 {V : Sm → Wd} (hV : VwT V) {l : Launch} {Γ : Gm} {rF : Option Value} {wF : Wd} {v1 : Int32} {v3 : Int32} {v4 : Int32} {k : Nat} {q : Int32 × Sm} {o : Sm} (h : lpN (Md_items_66_L3 v1 v3 v4) k q = some o) (hP : ps_Md_items_66_L3 V l Γ rF wF v1 v3 v4 o) : hd_Md_items_66_L3 V l Γ rF wF v1 v3 v4 q := lpN_ind2 (hd_Md_items_66_L3 V l Γ rF wF v1 v3 v4) (ps_Md_items_66_L3 V l Γ rF wF v1 v3 v4) (fun s o h hK => t_Md_items_66_L3 hV h hK) k q o h hP
def hd_Md_items_66_L41 (V : Sm → Wd) (l : Launch) (Γ : Gm) (rF : Option Value) (wF : Wd) (v1 : Int32) (v3 : Int32) (q : Int32 × Int32 × Sm) : Prop := G mX12_items l Γ (rmD 3 0 0) (mQ Γ rF wF 0 0) 0 0 41 [some (.ref 53), some (.int v1), some (.ref 66), some (.int v3), none, some (.int q.1), some (.int q.2.1)] [] (V q.2.2)
def ps_Md_items_66_L41 (V : Sm → Wd) (l : Launch) (Γ : Gm) (rF : Option Value) (wF : Wd) (v1 : Int32) (v3 : Int32) (x : Sm) : Prop := (fun (a : Sm) => G mX12_items l Γ (rmD 3 0 0) (mQ Γ rF wF 0 0) 0 0 131 [none, none, none, none, none, none, none] [] (V a)) x
def Md_items_66_126_L41 (v1 : Int32) (v3 : Int32) (v5 : Int32) (s0 : Int32) (S : Sm) : Option ((Int32 × Int32 × Sm) ⊕ (Sm)) := (some (.inl (v5, s0, S)))
set_option maxRecDepth 4000 in
theorem t_Md_items_66_126_L41 {V : Sm → Wd} (hV : VwT V) {l : Launch} {Γ : Gm} {v1 : Int32} {v3 : Int32} {v5 : Int32} {s0 : Int32} {rF : Option Value} {wF : Wd} {S : Sm} {o : (Int32 × Int32 × Sm) ⊕ (Sm)} (h : Md_items_66_126_L41 v1 v3 v5 s0 S = some o) (hK : Sum.elim (hd_Md_items_66_L41 V l Γ rF wF v1 v3) (ps_Md_items_66_L41 V l Γ rF wF v1 v3) o) : G mX12_items l Γ (rmD 3 0 0) (mQ Γ rF wF 0 0) 0 0 126 [some (.ref 53), some (.int v1), some (.ref 66), some (.int v3), none, some (.int v5), none] [.int s0] (V S) := by
  unfold Md_items_66_126_L41 at h
  refine g_istore (ls1 := [some (.ref 53), some (.int v1), some (.ref 66), some (.int v3), none, some (.int v5), some (.int s0)]) (pc := 126) dX12_items_126 (by decide) rfl ?_
  refine g_goto (tgt := 41) (pc := 128) dX12_items_128 (by decide) ?_
  cases h
  exact hK
def Md_items_66_L41 (v1 : Int32) (v3 : Int32) (q : Int32 × Int32 × Sm) : Option ((Int32 × Int32 × Sm) ⊕ (Sm)) := (if (gi q.2.2 53 4) = ((-1)) then (if q.2.1 = ((-1)) then (some (.inr q.2.2)) else (if (Md_has q.1 q.2.1) = 0 then ((Md_number (Md_lowest v1 q.2.1) (Md_highest v1 q.2.1) (si q.2.2 53 3 ((gi q.2.2 53 3) + 1))).bind fun q5 => (if inb (v3 + q.2.1) 24 then (if (gi (si q5.2 66 (ix (v3 + q.2.1)) q5.1) 53 4) = ((-1)) then ((Md_look (si q5.2 66 (ix (v3 + q.2.1)) q5.1)).bind fun q7 => (Md_items_66_126_L41 v1 v3 (q.1 ||| (iShl 1 q.2.1)) (Md_itemOf v1 q7.1) q7.2)) else (Md_items_66_126_L41 v1 v3 (q.1 ||| (iShl 1 q.2.1)) ((-1)) (si q5.2 66 (ix (v3 + q.2.1)) q5.1))) else none)) else (some (.inr q.2.2)))) else (some (.inr q.2.2)))
set_option maxRecDepth 4000 in
theorem t_Md_items_66_L41 {V : Sm → Wd} (hV : VwT V) {l : Launch} {Γ : Gm} {rF : Option Value} {wF : Wd} {v1 : Int32} {v3 : Int32} {q : Int32 × Int32 × Sm} {o : (Int32 × Int32 × Sm) ⊕ (Sm)} (h : Md_items_66_L41 v1 v3 q = some o) (hK : Sum.elim (hd_Md_items_66_L41 V l Γ rF wF v1 v3) (ps_Md_items_66_L41 V l Γ rF wF v1 v3) o) : hd_Md_items_66_L41 V l Γ rF wF v1 v3 q := by
  unfold Md_items_66_L41 at h
  unfold hd_Md_items_66_L41
  refine g_aload_n (pc := 41) dX12_items_41 rfl ?_
  refine v_getI hV (pc := 42) dX12_items_42 fo_12_4 rfl k0_53 own_53 ?_
  refine g_iconst (v := (-1)) (pc := 45) dX12_items_45 (by decide) ?_
  refine g_icmp_ne (tgt := 131) (pc := 46) dX12_items_46 (by decide) (fun c11 => ?_) (fun c11 => ?_)
  · rw [if_neg c11] at h
    refine g_wk [false, false, false, false, false, false, false] rfl ?_
    cases h
    exact hK
  · rw [if_pos c11] at h
    refine g_iload (pc := 49) dX12_items_49 rfl ?_
    refine g_iconst (v := (-1)) (pc := 51) dX12_items_51 (by decide) ?_
    refine g_icmp_eq (tgt := 131) (pc := 52) dX12_items_52 (by decide) (fun c10 => ?_) (fun c10 => ?_)
    · rw [if_pos c10] at h
      refine g_wk [false, false, false, false, false, false, false] rfl ?_
      cases h
      exact hK
    · rw [if_neg c10] at h
      refine g_iload (pc := 55) dX12_items_55 rfl ?_
      refine g_iload (pc := 57) dX12_items_57 rfl ?_
      refine v_callSi (Mc := mX12_has) (v := Md_has q.1 q.2.1) (S1 := q.2.2) (As := [.int q.1, .int q.2.1]) (rest := []) (pc := 59) dX12_items_59 mK_X12_249 mf_X12_has rfl rfl (Nat.le_of_ble_eq_true rfl) ⟨Nat.le_of_ble_eq_true rfl, Nat.le_of_ble_eq_true rfl⟩ (r_Md_has hV rfl) ?_
      refine g_if_ne (tgt := 131) (pc := 62) dX12_items_62 (by decide) (fun c9 => ?_) (fun c9 => ?_)
      · rw [if_neg c9] at h
        refine g_wk [false, false, false, false, false, false, false] rfl ?_
        cases h
        exact hK
      · rw [if_pos c9] at h
        refine g_iload (pc := 65) dX12_items_65 rfl ?_
        refine g_iconst (v := 1) (pc := 67) dX12_items_67 (by decide) ?_
        refine g_iload (pc := 68) dX12_items_68 rfl ?_
        refine g_ishl (pc := 70) dX12_items_70 ?_
        refine g_ior (pc := 71) dX12_items_71 ?_
        refine g_istore (ls1 := [some (.ref 53), some (.int v1), some (.ref 66), some (.int v3), none, some (.int (q.1 ||| (iShl 1 q.2.1))), some (.int q.2.1)]) (pc := 72) dX12_items_72 (by decide) rfl ?_
        refine g_aload_n (pc := 74) dX12_items_74 rfl ?_
        refine g_dup (pc := 75) dX12_items_75 rfl ?_
        refine v_getI hV (pc := 76) dX12_items_76 fo_12_3 rfl k0_53 own_53 ?_
        refine g_iconst (v := 1) (pc := 79) dX12_items_79 (by decide) ?_
        refine g_iadd (pc := 80) dX12_items_80 ?_
        refine v_putI hV (pc := 81) dX12_items_81 fo_12_3 rfl k0_53 own_53 rfl ?_
        refine g_aload_n (pc := 84) dX12_items_84 rfl ?_
        refine g_iload_n (pc := 85) dX12_items_85 rfl ?_
        refine g_iload (pc := 86) dX12_items_86 rfl ?_
        refine g_iadd (pc := 88) dX12_items_88 ?_
        refine g_aload_n (pc := 89) dX12_items_89 rfl ?_
        refine g_iload_n (pc := 90) dX12_items_90 rfl ?_
        refine g_iload (pc := 91) dX12_items_91 rfl ?_
        refine v_callSi (Mc := mX12_lowest) (v := Md_lowest v1 q.2.1) (S1 := si q.2.2 53 3 ((gi q.2.2 53 3) + 1)) (As := [.int v1, .int q.2.1]) (rest := [.ref 53, .int (v3 + q.2.1), .ref 66]) (pc := 93) dX12_items_93 mK_X12_253 mf_X12_lowest rfl rfl (Nat.le_of_ble_eq_true rfl) ⟨Nat.le_of_ble_eq_true rfl, Nat.le_of_ble_eq_true rfl⟩ (r_Md_lowest hV rfl) ?_
        refine g_iload_n (pc := 96) dX12_items_96 rfl ?_
        refine g_iload (pc := 97) dX12_items_97 rfl ?_
        refine v_callSi (Mc := mX12_highest) (v := Md_highest v1 q.2.1) (S1 := si q.2.2 53 3 ((gi q.2.2 53 3) + 1)) (As := [.int v1, .int q.2.1]) (rest := [.int (Md_lowest v1 q.2.1), .ref 53, .int (v3 + q.2.1), .ref 66]) (pc := 99) dX12_items_99 mK_X12_256 mf_X12_highest rfl rfl (Nat.le_of_ble_eq_true rfl) ⟨Nat.le_of_ble_eq_true rfl, Nat.le_of_ble_eq_true rfl⟩ (r_Md_highest hV rfl) ?_
        obtain ⟨q5, hq5, h⟩ := bnd h
        refine v_callVi hV (Mc := mX12_number) (v := q5.1) (S1 := q5.2) (As := [.int (Md_lowest v1 q.2.1), .int (Md_highest v1 q.2.1)]) (rest := [.int (v3 + q.2.1), .ref 66]) (q := (RX12, TX12, 58)) (pc := 102) dX12_items_102 mK_X12_259 mf_X12_number rfl k0_53 rfl rfl rfl (Nat.le_of_ble_eq_true rfl) ⟨Nat.le_of_ble_eq_true rfl, Nat.le_of_ble_eq_true rfl⟩ (r_Md_number hV hq5) ?_
        by_cases c6 : inb (v3 + q.2.1) 24
        · rw [if_pos c6] at h
          refine v_iast hV (pc := 105) dX12_items_105 k0_66 own_66 c6 ?_
          refine g_aload_n (pc := 106) dX12_items_106 rfl ?_
          refine v_getI hV (pc := 107) dX12_items_107 fo_12_4 rfl k0_53 own_53 ?_
          refine g_iconst (v := (-1)) (pc := 110) dX12_items_110 (by decide) ?_
          refine g_icmp_ne (tgt := 125) (pc := 111) dX12_items_111 (by decide) (fun c8 => ?_) (fun c8 => ?_)
          · rw [if_neg c8] at h
            refine g_iconst (v := (-1)) (pc := 125) dX12_items_125 (by decide) ?_
            refine g_wk [true, true, true, true, false, true, false] rfl ?_
            exact t_Md_items_66_126_L41 hV h hK
          · rw [if_pos c8] at h
            refine g_iload_n (pc := 114) dX12_items_114 rfl ?_
            refine g_aload_n (pc := 115) dX12_items_115 rfl ?_
            obtain ⟨q7, hq7, h⟩ := bnd h
            refine v_callVi hV (Mc := mX12_look) (v := q7.1) (S1 := q7.2) (As := []) (rest := [.int v1]) (q := (RX12, TX12, 58)) (pc := 116) dX12_items_116 mK_X12_152 mf_X12_look rfl k0_53 rfl rfl rfl (Nat.le_of_ble_eq_true rfl) ⟨Nat.le_of_ble_eq_true rfl, Nat.le_of_ble_eq_true rfl⟩ (r_Md_look hV hq7) ?_
            refine v_callSi (Mc := mX12_itemOf) (v := Md_itemOf v1 q7.1) (S1 := q7.2) (As := [.int v1, .int q7.1]) (rest := []) (pc := 119) dX12_items_119 mK_X12_246 mf_X12_itemOf rfl rfl (Nat.le_of_ble_eq_true rfl) ⟨Nat.le_of_ble_eq_true rfl, Nat.le_of_ble_eq_true rfl⟩ (r_Md_itemOf hV rfl) ?_
            refine g_goto (tgt := 126) (pc := 122) dX12_items_122 (by decide) ?_
            refine g_wk [true, true, true, true, false, true, false] rfl ?_
            exact t_Md_items_66_126_L41 hV h hK
        · rw [if_neg c6] at h; cases h
set_option maxRecDepth 4000 in
theorem w_Md_items_66_L41 {V : Sm → Wd} (hV : VwT V) {l : Launch} {Γ : Gm} {rF : Option Value} {wF : Wd} {v1 : Int32} {v3 : Int32} {k : Nat} {q : Int32 × Int32 × Sm} {o : Sm} (h : lpN (Md_items_66_L41 v1 v3) k q = some o) (hP : ps_Md_items_66_L41 V l Γ rF wF v1 v3 o) : hd_Md_items_66_L41 V l Γ rF wF v1 v3 q := lpN_ind2 (hd_Md_items_66_L41 V l Γ rF wF v1 v3) (ps_Md_items_66_L41 V l Γ rF wF v1 v3) (fun s o h hK => t_Md_items_66_L41 hV h hK) k q o h hP
def Md_items_66 (v1 : Int32) (v3 : Int32) (v4 : Int32) (S : Sm) : Option (Sm) := ((lpN (Md_items_66_L3 v1 v3 v4) FU (0, S)).bind fun q3 => ((Md_look q3).bind fun q4 => ((lpN (Md_items_66_L41 v1 v3) FU (0, Md_itemOf v1 q4.1, q4.2)).bind fun q12 => (some q12))))
set_option maxRecDepth 4000 in
theorem r_Md_items_66 {V : Sm → Wd} (hV : VwT V) {v1 : Int32} {v3 : Int32} {v4 : Int32} {S : Sm} {q : Sm} (h : Md_items_66 v1 v3 v4 S = some q) : Runs 3 mX12_items [.ref 53, .int v1, .ref 66, .int v3, .int v4] (V S) none (V q) 0 0 := by
  unfold Md_items_66 at h
  refine Runs.of2 [some (.ref 53), some (.int v1), some (.ref 66), some (.int v3), some (.int v4), none, none] 2 rfl rfl (Nat.le_of_ble_eq_true rfl) (fun l Γ => ?_)
  refine g_iconst (v := 0) (pc := 0) dX12_items_0 (by decide) ?_
  refine g_istore (ls1 := [some (.ref 53), some (.int v1), some (.ref 66), some (.int v3), some (.int v4), some (.int 0), none]) (pc := 1) dX12_items_1 (by decide) rfl ?_
  obtain ⟨q3, hqq3, h⟩ := bnd h
  refine w_Md_items_66_L3 hV hqq3 ?_
  unfold ps_Md_items_66_L3
  show G _ _ _ _ _ _ _ _ _ _ _
  refine g_iconst (v := 0) (pc := 28) dX12_items_28 (by decide) ?_
  refine g_istore (ls1 := [some (.ref 53), some (.int v1), some (.ref 66), some (.int v3), none, some (.int 0), none]) (pc := 29) dX12_items_29 (by decide) rfl ?_
  refine g_iload_n (pc := 31) dX12_items_31 rfl ?_
  refine g_aload_n (pc := 32) dX12_items_32 rfl ?_
  obtain ⟨q4, hq4, h⟩ := bnd h
  refine v_callVi hV (Mc := mX12_look) (v := q4.1) (S1 := q4.2) (As := []) (rest := [.int v1]) (q := (RX12, TX12, 58)) (pc := 33) dX12_items_33 mK_X12_152 mf_X12_look rfl k0_53 rfl rfl rfl (Nat.le_of_ble_eq_true rfl) ⟨Nat.le_of_ble_eq_true rfl, Nat.le_of_ble_eq_true rfl⟩ (r_Md_look hV hq4) ?_
  refine v_callSi (Mc := mX12_itemOf) (v := Md_itemOf v1 q4.1) (S1 := q4.2) (As := [.int v1, .int q4.1]) (rest := []) (pc := 36) dX12_items_36 mK_X12_246 mf_X12_itemOf rfl rfl (Nat.le_of_ble_eq_true rfl) ⟨Nat.le_of_ble_eq_true rfl, Nat.le_of_ble_eq_true rfl⟩ (r_Md_itemOf hV rfl) ?_
  refine g_istore (ls1 := [some (.ref 53), some (.int v1), some (.ref 66), some (.int v3), none, some (.int 0), some (.int (Md_itemOf v1 q4.1))]) (pc := 39) dX12_items_39 (by decide) rfl ?_
  obtain ⟨q12, hqq12, h⟩ := bnd h
  refine w_Md_items_66_L41 hV hqq12 ?_
  unfold ps_Md_items_66_L41
  show G _ _ _ _ _ _ _ _ _ _ _
  cases h
  exact g_vret (pc := 131) dX12_items_131 rfl (Nat.le_refl _) (Nat.le_refl _)
def hd_Md_items_65_L3 (V : Sm → Wd) (l : Launch) (Γ : Gm) (rF : Option Value) (wF : Wd) (v1 : Int32) (v3 : Int32) (v4 : Int32) (q : Int32 × Sm) : Prop := G mX12_items l Γ (rmD 3 0 0) (mQ Γ rF wF 0 0) 0 0 3 [some (.ref 53), some (.int v1), some (.ref 65), some (.int v3), some (.int v4), some (.int q.1), none] [] (V q.2)
def ps_Md_items_65_L3 (V : Sm → Wd) (l : Launch) (Γ : Gm) (rF : Option Value) (wF : Wd) (v1 : Int32) (v3 : Int32) (v4 : Int32) (x : Sm) : Prop := (fun (a : Sm) => G mX12_items l Γ (rmD 3 0 0) (mQ Γ rF wF 0 0) 0 0 28 [some (.ref 53), some (.int v1), some (.ref 65), some (.int v3), none, none, none] [] (V a)) x
def Md_items_65_L3 (v1 : Int32) (v3 : Int32) (v4 : Int32) (q : Int32 × Sm) : Option ((Int32 × Sm) ⊕ (Sm)) := (if v4 ≤ q.1 then (some (.inr q.2)) else (if inb (v3 + q.1) 72 then (some (.inl (q.1 + 1, si q.2 65 (ix (v3 + q.1)) (Md_usual v1 q.1)))) else none))
set_option maxRecDepth 4000 in
theorem t_Md_items_65_L3 {V : Sm → Wd} (hV : VwT V) {l : Launch} {Γ : Gm} {rF : Option Value} {wF : Wd} {v1 : Int32} {v3 : Int32} {v4 : Int32} {q : Int32 × Sm} {o : (Int32 × Sm) ⊕ (Sm)} (h : Md_items_65_L3 v1 v3 v4 q = some o) (hK : Sum.elim (hd_Md_items_65_L3 V l Γ rF wF v1 v3 v4) (ps_Md_items_65_L3 V l Γ rF wF v1 v3 v4) o) : hd_Md_items_65_L3 V l Γ rF wF v1 v3 v4 q := by
  unfold Md_items_65_L3 at h
  unfold hd_Md_items_65_L3
  refine g_iload (pc := 3) dX12_items_3 rfl ?_
  refine g_iload (pc := 5) dX12_items_5 rfl ?_
  refine g_icmp_ge (tgt := 28) (pc := 7) dX12_items_7 (by decide) (fun c2 => ?_) (fun c2 => ?_)
  · rw [if_pos c2] at h
    refine g_wk [true, true, true, true, false, false, false] rfl ?_
    cases h
    exact hK
  · rw [if_neg c2] at h
    refine g_aload_n (pc := 10) dX12_items_10 rfl ?_
    refine g_iload_n (pc := 11) dX12_items_11 rfl ?_
    refine g_iload (pc := 12) dX12_items_12 rfl ?_
    refine g_iadd (pc := 14) dX12_items_14 ?_
    refine g_iload_n (pc := 15) dX12_items_15 rfl ?_
    refine g_iload (pc := 16) dX12_items_16 rfl ?_
    refine v_callSi (Mc := mX12_usual) (v := Md_usual v1 q.1) (S1 := q.2) (As := [.int v1, .int q.1]) (rest := [.int (v3 + q.1), .ref 65]) (pc := 18) dX12_items_18 mK_X12_242 mf_X12_usual rfl rfl (Nat.le_of_ble_eq_true rfl) ⟨Nat.le_of_ble_eq_true rfl, Nat.le_of_ble_eq_true rfl⟩ (r_Md_usual hV rfl) ?_
    by_cases c1 : inb (v3 + q.1) 72
    · rw [if_pos c1] at h
      refine v_iast hV (pc := 21) dX12_items_21 k0_65 own_65 c1 ?_
      refine g_iinc (v := q.1 + 1) (ls1 := [some (.ref 53), some (.int v1), some (.ref 65), some (.int v3), some (.int v4), some (.int (q.1 + 1)), none]) (pc := 22) dX12_items_22 rfl rfl (by decide) rfl ?_
      refine g_goto (tgt := 3) (pc := 25) dX12_items_25 (by decide) ?_
      cases h
      exact hK
    · rw [if_neg c1] at h; cases h
set_option maxRecDepth 4000 in
theorem w_Md_items_65_L3 {V : Sm → Wd} (hV : VwT V) {l : Launch} {Γ : Gm} {rF : Option Value} {wF : Wd} {v1 : Int32} {v3 : Int32} {v4 : Int32} {k : Nat} {q : Int32 × Sm} {o : Sm} (h : lpN (Md_items_65_L3 v1 v3 v4) k q = some o) (hP : ps_Md_items_65_L3 V l Γ rF wF v1 v3 v4 o) : hd_Md_items_65_L3 V l Γ rF wF v1 v3 v4 q := lpN_ind2 (hd_Md_items_65_L3 V l Γ rF wF v1 v3 v4) (ps_Md_items_65_L3 V l Γ rF wF v1 v3 v4) (fun s o h hK => t_Md_items_65_L3 hV h hK) k q o h hP
def hd_Md_items_65_L41 (V : Sm → Wd) (l : Launch) (Γ : Gm) (rF : Option Value) (wF : Wd) (v1 : Int32) (v3 : Int32) (q : Int32 × Int32 × Sm) : Prop := G mX12_items l Γ (rmD 3 0 0) (mQ Γ rF wF 0 0) 0 0 41 [some (.ref 53), some (.int v1), some (.ref 65), some (.int v3), none, some (.int q.1), some (.int q.2.1)] [] (V q.2.2)
def ps_Md_items_65_L41 (V : Sm → Wd) (l : Launch) (Γ : Gm) (rF : Option Value) (wF : Wd) (v1 : Int32) (v3 : Int32) (x : Sm) : Prop := (fun (a : Sm) => G mX12_items l Γ (rmD 3 0 0) (mQ Γ rF wF 0 0) 0 0 131 [none, none, none, none, none, none, none] [] (V a)) x
def Md_items_65_126_L41 (v1 : Int32) (v3 : Int32) (v5 : Int32) (s0 : Int32) (S : Sm) : Option ((Int32 × Int32 × Sm) ⊕ (Sm)) := (some (.inl (v5, s0, S)))
set_option maxRecDepth 4000 in
theorem t_Md_items_65_126_L41 {V : Sm → Wd} (hV : VwT V) {l : Launch} {Γ : Gm} {v1 : Int32} {v3 : Int32} {v5 : Int32} {s0 : Int32} {rF : Option Value} {wF : Wd} {S : Sm} {o : (Int32 × Int32 × Sm) ⊕ (Sm)} (h : Md_items_65_126_L41 v1 v3 v5 s0 S = some o) (hK : Sum.elim (hd_Md_items_65_L41 V l Γ rF wF v1 v3) (ps_Md_items_65_L41 V l Γ rF wF v1 v3) o) : G mX12_items l Γ (rmD 3 0 0) (mQ Γ rF wF 0 0) 0 0 126 [some (.ref 53), some (.int v1), some (.ref 65), some (.int v3), none, some (.int v5), none] [.int s0] (V S) := by
  unfold Md_items_65_126_L41 at h
  refine g_istore (ls1 := [some (.ref 53), some (.int v1), some (.ref 65), some (.int v3), none, some (.int v5), some (.int s0)]) (pc := 126) dX12_items_126 (by decide) rfl ?_
  refine g_goto (tgt := 41) (pc := 128) dX12_items_128 (by decide) ?_
  cases h
  exact hK
def Md_items_65_L41 (v1 : Int32) (v3 : Int32) (q : Int32 × Int32 × Sm) : Option ((Int32 × Int32 × Sm) ⊕ (Sm)) := (if (gi q.2.2 53 4) = ((-1)) then (if q.2.1 = ((-1)) then (some (.inr q.2.2)) else (if (Md_has q.1 q.2.1) = 0 then ((Md_number (Md_lowest v1 q.2.1) (Md_highest v1 q.2.1) (si q.2.2 53 3 ((gi q.2.2 53 3) + 1))).bind fun q5 => (if inb (v3 + q.2.1) 72 then (if (gi (si q5.2 65 (ix (v3 + q.2.1)) q5.1) 53 4) = ((-1)) then ((Md_look (si q5.2 65 (ix (v3 + q.2.1)) q5.1)).bind fun q7 => (Md_items_65_126_L41 v1 v3 (q.1 ||| (iShl 1 q.2.1)) (Md_itemOf v1 q7.1) q7.2)) else (Md_items_65_126_L41 v1 v3 (q.1 ||| (iShl 1 q.2.1)) ((-1)) (si q5.2 65 (ix (v3 + q.2.1)) q5.1))) else none)) else (some (.inr q.2.2)))) else (some (.inr q.2.2)))
set_option maxRecDepth 4000 in
theorem t_Md_items_65_L41 {V : Sm → Wd} (hV : VwT V) {l : Launch} {Γ : Gm} {rF : Option Value} {wF : Wd} {v1 : Int32} {v3 : Int32} {q : Int32 × Int32 × Sm} {o : (Int32 × Int32 × Sm) ⊕ (Sm)} (h : Md_items_65_L41 v1 v3 q = some o) (hK : Sum.elim (hd_Md_items_65_L41 V l Γ rF wF v1 v3) (ps_Md_items_65_L41 V l Γ rF wF v1 v3) o) : hd_Md_items_65_L41 V l Γ rF wF v1 v3 q := by
  unfold Md_items_65_L41 at h
  unfold hd_Md_items_65_L41
  refine g_aload_n (pc := 41) dX12_items_41 rfl ?_
  refine v_getI hV (pc := 42) dX12_items_42 fo_12_4 rfl k0_53 own_53 ?_
  refine g_iconst (v := (-1)) (pc := 45) dX12_items_45 (by decide) ?_
  refine g_icmp_ne (tgt := 131) (pc := 46) dX12_items_46 (by decide) (fun c11 => ?_) (fun c11 => ?_)
  · rw [if_neg c11] at h
    refine g_wk [false, false, false, false, false, false, false] rfl ?_
    cases h
    exact hK
  · rw [if_pos c11] at h
    refine g_iload (pc := 49) dX12_items_49 rfl ?_
    refine g_iconst (v := (-1)) (pc := 51) dX12_items_51 (by decide) ?_
    refine g_icmp_eq (tgt := 131) (pc := 52) dX12_items_52 (by decide) (fun c10 => ?_) (fun c10 => ?_)
    · rw [if_pos c10] at h
      refine g_wk [false, false, false, false, false, false, false] rfl ?_
      cases h
      exact hK
    · rw [if_neg c10] at h
      refine g_iload (pc := 55) dX12_items_55 rfl ?_
      refine g_iload (pc := 57) dX12_items_57 rfl ?_
      refine v_callSi (Mc := mX12_has) (v := Md_has q.1 q.2.1) (S1 := q.2.2) (As := [.int q.1, .int q.2.1]) (rest := []) (pc := 59) dX12_items_59 mK_X12_249 mf_X12_has rfl rfl (Nat.le_of_ble_eq_true rfl) ⟨Nat.le_of_ble_eq_true rfl, Nat.le_of_ble_eq_true rfl⟩ (r_Md_has hV rfl) ?_
      refine g_if_ne (tgt := 131) (pc := 62) dX12_items_62 (by decide) (fun c9 => ?_) (fun c9 => ?_)
      · rw [if_neg c9] at h
        refine g_wk [false, false, false, false, false, false, false] rfl ?_
        cases h
        exact hK
      · rw [if_pos c9] at h
        refine g_iload (pc := 65) dX12_items_65 rfl ?_
        refine g_iconst (v := 1) (pc := 67) dX12_items_67 (by decide) ?_
        refine g_iload (pc := 68) dX12_items_68 rfl ?_
        refine g_ishl (pc := 70) dX12_items_70 ?_
        refine g_ior (pc := 71) dX12_items_71 ?_
        refine g_istore (ls1 := [some (.ref 53), some (.int v1), some (.ref 65), some (.int v3), none, some (.int (q.1 ||| (iShl 1 q.2.1))), some (.int q.2.1)]) (pc := 72) dX12_items_72 (by decide) rfl ?_
        refine g_aload_n (pc := 74) dX12_items_74 rfl ?_
        refine g_dup (pc := 75) dX12_items_75 rfl ?_
        refine v_getI hV (pc := 76) dX12_items_76 fo_12_3 rfl k0_53 own_53 ?_
        refine g_iconst (v := 1) (pc := 79) dX12_items_79 (by decide) ?_
        refine g_iadd (pc := 80) dX12_items_80 ?_
        refine v_putI hV (pc := 81) dX12_items_81 fo_12_3 rfl k0_53 own_53 rfl ?_
        refine g_aload_n (pc := 84) dX12_items_84 rfl ?_
        refine g_iload_n (pc := 85) dX12_items_85 rfl ?_
        refine g_iload (pc := 86) dX12_items_86 rfl ?_
        refine g_iadd (pc := 88) dX12_items_88 ?_
        refine g_aload_n (pc := 89) dX12_items_89 rfl ?_
        refine g_iload_n (pc := 90) dX12_items_90 rfl ?_
        refine g_iload (pc := 91) dX12_items_91 rfl ?_
        refine v_callSi (Mc := mX12_lowest) (v := Md_lowest v1 q.2.1) (S1 := si q.2.2 53 3 ((gi q.2.2 53 3) + 1)) (As := [.int v1, .int q.2.1]) (rest := [.ref 53, .int (v3 + q.2.1), .ref 65]) (pc := 93) dX12_items_93 mK_X12_253 mf_X12_lowest rfl rfl (Nat.le_of_ble_eq_true rfl) ⟨Nat.le_of_ble_eq_true rfl, Nat.le_of_ble_eq_true rfl⟩ (r_Md_lowest hV rfl) ?_
        refine g_iload_n (pc := 96) dX12_items_96 rfl ?_
        refine g_iload (pc := 97) dX12_items_97 rfl ?_
        refine v_callSi (Mc := mX12_highest) (v := Md_highest v1 q.2.1) (S1 := si q.2.2 53 3 ((gi q.2.2 53 3) + 1)) (As := [.int v1, .int q.2.1]) (rest := [.int (Md_lowest v1 q.2.1), .ref 53, .int (v3 + q.2.1), .ref 65]) (pc := 99) dX12_items_99 mK_X12_256 mf_X12_highest rfl rfl (Nat.le_of_ble_eq_true rfl) ⟨Nat.le_of_ble_eq_true rfl, Nat.le_of_ble_eq_true rfl⟩ (r_Md_highest hV rfl) ?_
        obtain ⟨q5, hq5, h⟩ := bnd h
        refine v_callVi hV (Mc := mX12_number) (v := q5.1) (S1 := q5.2) (As := [.int (Md_lowest v1 q.2.1), .int (Md_highest v1 q.2.1)]) (rest := [.int (v3 + q.2.1), .ref 65]) (q := (RX12, TX12, 58)) (pc := 102) dX12_items_102 mK_X12_259 mf_X12_number rfl k0_53 rfl rfl rfl (Nat.le_of_ble_eq_true rfl) ⟨Nat.le_of_ble_eq_true rfl, Nat.le_of_ble_eq_true rfl⟩ (r_Md_number hV hq5) ?_
        by_cases c6 : inb (v3 + q.2.1) 72
        · rw [if_pos c6] at h
          refine v_iast hV (pc := 105) dX12_items_105 k0_65 own_65 c6 ?_
          refine g_aload_n (pc := 106) dX12_items_106 rfl ?_
          refine v_getI hV (pc := 107) dX12_items_107 fo_12_4 rfl k0_53 own_53 ?_
          refine g_iconst (v := (-1)) (pc := 110) dX12_items_110 (by decide) ?_
          refine g_icmp_ne (tgt := 125) (pc := 111) dX12_items_111 (by decide) (fun c8 => ?_) (fun c8 => ?_)
          · rw [if_neg c8] at h
            refine g_iconst (v := (-1)) (pc := 125) dX12_items_125 (by decide) ?_
            refine g_wk [true, true, true, true, false, true, false] rfl ?_
            exact t_Md_items_65_126_L41 hV h hK
          · rw [if_pos c8] at h
            refine g_iload_n (pc := 114) dX12_items_114 rfl ?_
            refine g_aload_n (pc := 115) dX12_items_115 rfl ?_
            obtain ⟨q7, hq7, h⟩ := bnd h
            refine v_callVi hV (Mc := mX12_look) (v := q7.1) (S1 := q7.2) (As := []) (rest := [.int v1]) (q := (RX12, TX12, 58)) (pc := 116) dX12_items_116 mK_X12_152 mf_X12_look rfl k0_53 rfl rfl rfl (Nat.le_of_ble_eq_true rfl) ⟨Nat.le_of_ble_eq_true rfl, Nat.le_of_ble_eq_true rfl⟩ (r_Md_look hV hq7) ?_
            refine v_callSi (Mc := mX12_itemOf) (v := Md_itemOf v1 q7.1) (S1 := q7.2) (As := [.int v1, .int q7.1]) (rest := []) (pc := 119) dX12_items_119 mK_X12_246 mf_X12_itemOf rfl rfl (Nat.le_of_ble_eq_true rfl) ⟨Nat.le_of_ble_eq_true rfl, Nat.le_of_ble_eq_true rfl⟩ (r_Md_itemOf hV rfl) ?_
            refine g_goto (tgt := 126) (pc := 122) dX12_items_122 (by decide) ?_
            refine g_wk [true, true, true, true, false, true, false] rfl ?_
            exact t_Md_items_65_126_L41 hV h hK
        · rw [if_neg c6] at h; cases h
set_option maxRecDepth 4000 in
theorem w_Md_items_65_L41 {V : Sm → Wd} (hV : VwT V) {l : Launch} {Γ : Gm} {rF : Option Value} {wF : Wd} {v1 : Int32} {v3 : Int32} {k : Nat} {q : Int32 × Int32 × Sm} {o : Sm} (h : lpN (Md_items_65_L41 v1 v3) k q = some o) (hP : ps_Md_items_65_L41 V l Γ rF wF v1 v3 o) : hd_Md_items_65_L41 V l Γ rF wF v1 v3 q := lpN_ind2 (hd_Md_items_65_L41 V l Γ rF wF v1 v3) (ps_Md_items_65_L41 V l Γ rF wF v1 v3) (fun s o h hK => t_Md_items_65_L41 hV h hK) k q o h hP
def Md_items_65 (v1 : Int32) (v3 : Int32) (v4 : Int32) (S : Sm) : Option (Sm) := ((lpN (Md_items_65_L3 v1 v3 v4) FU (0, S)).bind fun q3 => ((Md_look q3).bind fun q4 => ((lpN (Md_items_65_L41 v1 v3) FU (0, Md_itemOf v1 q4.1, q4.2)).bind fun q12 => (some q12))))
set_option maxRecDepth 4000 in
theorem r_Md_items_65 {V : Sm → Wd} (hV : VwT V) {v1 : Int32} {v3 : Int32} {v4 : Int32} {S : Sm} {q : Sm} (h : Md_items_65 v1 v3 v4 S = some q) : Runs 3 mX12_items [.ref 53, .int v1, .ref 65, .int v3, .int v4] (V S) none (V q) 0 0 := by
  unfold Md_items_65 at h
  refine Runs.of2 [some (.ref 53), some (.int v1), some (.ref 65), some (.int v3), some (.int v4), none, none] 2 rfl rfl (Nat.le_of_ble_eq_true rfl) (fun l Γ => ?_)
  refine g_iconst (v := 0) (pc := 0) dX12_items_0 (by decide) ?_
  refine g_istore (ls1 := [some (.ref 53), some (.int v1), some (.ref 65), some (.int v3), some (.int v4), some (.int 0), none]) (pc := 1) dX12_items_1 (by decide) rfl ?_
  obtain ⟨q3, hqq3, h⟩ := bnd h
  refine w_Md_items_65_L3 hV hqq3 ?_
  unfold ps_Md_items_65_L3
  show G _ _ _ _ _ _ _ _ _ _ _
  refine g_iconst (v := 0) (pc := 28) dX12_items_28 (by decide) ?_
  refine g_istore (ls1 := [some (.ref 53), some (.int v1), some (.ref 65), some (.int v3), none, some (.int 0), none]) (pc := 29) dX12_items_29 (by decide) rfl ?_
  refine g_iload_n (pc := 31) dX12_items_31 rfl ?_
  refine g_aload_n (pc := 32) dX12_items_32 rfl ?_
  obtain ⟨q4, hq4, h⟩ := bnd h
  refine v_callVi hV (Mc := mX12_look) (v := q4.1) (S1 := q4.2) (As := []) (rest := [.int v1]) (q := (RX12, TX12, 58)) (pc := 33) dX12_items_33 mK_X12_152 mf_X12_look rfl k0_53 rfl rfl rfl (Nat.le_of_ble_eq_true rfl) ⟨Nat.le_of_ble_eq_true rfl, Nat.le_of_ble_eq_true rfl⟩ (r_Md_look hV hq4) ?_
  refine v_callSi (Mc := mX12_itemOf) (v := Md_itemOf v1 q4.1) (S1 := q4.2) (As := [.int v1, .int q4.1]) (rest := []) (pc := 36) dX12_items_36 mK_X12_246 mf_X12_itemOf rfl rfl (Nat.le_of_ble_eq_true rfl) ⟨Nat.le_of_ble_eq_true rfl, Nat.le_of_ble_eq_true rfl⟩ (r_Md_itemOf hV rfl) ?_
  refine g_istore (ls1 := [some (.ref 53), some (.int v1), some (.ref 65), some (.int v3), none, some (.int 0), some (.int (Md_itemOf v1 q4.1))]) (pc := 39) dX12_items_39 (by decide) rfl ?_
  obtain ⟨q12, hqq12, h⟩ := bnd h
  refine w_Md_items_65_L41 hV hqq12 ?_
  unfold ps_Md_items_65_L41
  show G _ _ _ _ _ _ _ _ _ _ _
  cases h
  exact g_vret (pc := 131) dX12_items_131 rfl (Nat.le_refl _) (Nat.le_refl _)
def hd_Md_items_64_L3 (V : Sm → Wd) (l : Launch) (Γ : Gm) (rF : Option Value) (wF : Wd) (v1 : Int32) (v3 : Int32) (v4 : Int32) (q : Int32 × Sm) : Prop := G mX12_items l Γ (rmD 3 0 0) (mQ Γ rF wF 0 0) 0 0 3 [some (.ref 53), some (.int v1), some (.ref 64), some (.int v3), some (.int v4), some (.int q.1), none] [] (V q.2)
def ps_Md_items_64_L3 (V : Sm → Wd) (l : Launch) (Γ : Gm) (rF : Option Value) (wF : Wd) (v1 : Int32) (v3 : Int32) (v4 : Int32) (x : Sm) : Prop := (fun (a : Sm) => G mX12_items l Γ (rmD 3 0 0) (mQ Γ rF wF 0 0) 0 0 28 [some (.ref 53), some (.int v1), some (.ref 64), some (.int v3), none, none, none] [] (V a)) x
def Md_items_64_L3 (v1 : Int32) (v3 : Int32) (v4 : Int32) (q : Int32 × Sm) : Option ((Int32 × Sm) ⊕ (Sm)) := (if v4 ≤ q.1 then (some (.inr q.2)) else (if inb (v3 + q.1) 4 then (some (.inl (q.1 + 1, si q.2 64 (ix (v3 + q.1)) (Md_usual v1 q.1)))) else none))
set_option maxRecDepth 4000 in
theorem t_Md_items_64_L3 {V : Sm → Wd} (hV : VwT V) {l : Launch} {Γ : Gm} {rF : Option Value} {wF : Wd} {v1 : Int32} {v3 : Int32} {v4 : Int32} {q : Int32 × Sm} {o : (Int32 × Sm) ⊕ (Sm)} (h : Md_items_64_L3 v1 v3 v4 q = some o) (hK : Sum.elim (hd_Md_items_64_L3 V l Γ rF wF v1 v3 v4) (ps_Md_items_64_L3 V l Γ rF wF v1 v3 v4) o) : hd_Md_items_64_L3 V l Γ rF wF v1 v3 v4 q := by
  unfold Md_items_64_L3 at h
  unfold hd_Md_items_64_L3
  refine g_iload (pc := 3) dX12_items_3 rfl ?_
  refine g_iload (pc := 5) dX12_items_5 rfl ?_
  refine g_icmp_ge (tgt := 28) (pc := 7) dX12_items_7 (by decide) (fun c2 => ?_) (fun c2 => ?_)
  · rw [if_pos c2] at h
    refine g_wk [true, true, true, true, false, false, false] rfl ?_
    cases h
    exact hK
  · rw [if_neg c2] at h
    refine g_aload_n (pc := 10) dX12_items_10 rfl ?_
    refine g_iload_n (pc := 11) dX12_items_11 rfl ?_
    refine g_iload (pc := 12) dX12_items_12 rfl ?_
    refine g_iadd (pc := 14) dX12_items_14 ?_
    refine g_iload_n (pc := 15) dX12_items_15 rfl ?_
    refine g_iload (pc := 16) dX12_items_16 rfl ?_
    refine v_callSi (Mc := mX12_usual) (v := Md_usual v1 q.1) (S1 := q.2) (As := [.int v1, .int q.1]) (rest := [.int (v3 + q.1), .ref 64]) (pc := 18) dX12_items_18 mK_X12_242 mf_X12_usual rfl rfl (Nat.le_of_ble_eq_true rfl) ⟨Nat.le_of_ble_eq_true rfl, Nat.le_of_ble_eq_true rfl⟩ (r_Md_usual hV rfl) ?_
    by_cases c1 : inb (v3 + q.1) 4
    · rw [if_pos c1] at h
      refine v_iast hV (pc := 21) dX12_items_21 k0_64 own_64 c1 ?_
      refine g_iinc (v := q.1 + 1) (ls1 := [some (.ref 53), some (.int v1), some (.ref 64), some (.int v3), some (.int v4), some (.int (q.1 + 1)), none]) (pc := 22) dX12_items_22 rfl rfl (by decide) rfl ?_
      refine g_goto (tgt := 3) (pc := 25) dX12_items_25 (by decide) ?_
      cases h
      exact hK
    · rw [if_neg c1] at h; cases h
set_option maxRecDepth 4000 in
theorem w_Md_items_64_L3 {V : Sm → Wd} (hV : VwT V) {l : Launch} {Γ : Gm} {rF : Option Value} {wF : Wd} {v1 : Int32} {v3 : Int32} {v4 : Int32} {k : Nat} {q : Int32 × Sm} {o : Sm} (h : lpN (Md_items_64_L3 v1 v3 v4) k q = some o) (hP : ps_Md_items_64_L3 V l Γ rF wF v1 v3 v4 o) : hd_Md_items_64_L3 V l Γ rF wF v1 v3 v4 q := lpN_ind2 (hd_Md_items_64_L3 V l Γ rF wF v1 v3 v4) (ps_Md_items_64_L3 V l Γ rF wF v1 v3 v4) (fun s o h hK => t_Md_items_64_L3 hV h hK) k q o h hP
def hd_Md_items_64_L41 (V : Sm → Wd) (l : Launch) (Γ : Gm) (rF : Option Value) (wF : Wd) (v1 : Int32) (v3 : Int32) (q : Int32 × Int32 × Sm) : Prop := G mX12_items l Γ (rmD 3 0 0) (mQ Γ rF wF 0 0) 0 0 41 [some (.ref 53), some (.int v1), some (.ref 64), some (.int v3), none, some (.int q.1), some (.int q.2.1)] [] (V q.2.2)
def ps_Md_items_64_L41 (V : Sm → Wd) (l : Launch) (Γ : Gm) (rF : Option Value) (wF : Wd) (v1 : Int32) (v3 : Int32) (x : Sm) : Prop := (fun (a : Sm) => G mX12_items l Γ (rmD 3 0 0) (mQ Γ rF wF 0 0) 0 0 131 [none, none, none, none, none, none, none] [] (V a)) x
def Md_items_64_126_L41 (v1 : Int32) (v3 : Int32) (v5 : Int32) (s0 : Int32) (S : Sm) : Option ((Int32 × Int32 × Sm) ⊕ (Sm)) := (some (.inl (v5, s0, S)))
set_option maxRecDepth 4000 in
theorem t_Md_items_64_126_L41 {V : Sm → Wd} (hV : VwT V) {l : Launch} {Γ : Gm} {v1 : Int32} {v3 : Int32} {v5 : Int32} {s0 : Int32} {rF : Option Value} {wF : Wd} {S : Sm} {o : (Int32 × Int32 × Sm) ⊕ (Sm)} (h : Md_items_64_126_L41 v1 v3 v5 s0 S = some o) (hK : Sum.elim (hd_Md_items_64_L41 V l Γ rF wF v1 v3) (ps_Md_items_64_L41 V l Γ rF wF v1 v3) o) : G mX12_items l Γ (rmD 3 0 0) (mQ Γ rF wF 0 0) 0 0 126 [some (.ref 53), some (.int v1), some (.ref 64), some (.int v3), none, some (.int v5), none] [.int s0] (V S) := by
  unfold Md_items_64_126_L41 at h
  refine g_istore (ls1 := [some (.ref 53), some (.int v1), some (.ref 64), some (.int v3), none, some (.int v5), some (.int s0)]) (pc := 126) dX12_items_126 (by decide) rfl ?_
  refine g_goto (tgt := 41) (pc := 128) dX12_items_128 (by decide) ?_
  cases h
  exact hK
def Md_items_64_L41 (v1 : Int32) (v3 : Int32) (q : Int32 × Int32 × Sm) : Option ((Int32 × Int32 × Sm) ⊕ (Sm)) := (if (gi q.2.2 53 4) = ((-1)) then (if q.2.1 = ((-1)) then (some (.inr q.2.2)) else (if (Md_has q.1 q.2.1) = 0 then ((Md_number (Md_lowest v1 q.2.1) (Md_highest v1 q.2.1) (si q.2.2 53 3 ((gi q.2.2 53 3) + 1))).bind fun q5 => (if inb (v3 + q.2.1) 4 then (if (gi (si q5.2 64 (ix (v3 + q.2.1)) q5.1) 53 4) = ((-1)) then ((Md_look (si q5.2 64 (ix (v3 + q.2.1)) q5.1)).bind fun q7 => (Md_items_64_126_L41 v1 v3 (q.1 ||| (iShl 1 q.2.1)) (Md_itemOf v1 q7.1) q7.2)) else (Md_items_64_126_L41 v1 v3 (q.1 ||| (iShl 1 q.2.1)) ((-1)) (si q5.2 64 (ix (v3 + q.2.1)) q5.1))) else none)) else (some (.inr q.2.2)))) else (some (.inr q.2.2)))
set_option maxRecDepth 4000 in
theorem t_Md_items_64_L41 {V : Sm → Wd} (hV : VwT V) {l : Launch} {Γ : Gm} {rF : Option Value} {wF : Wd} {v1 : Int32} {v3 : Int32} {q : Int32 × Int32 × Sm} {o : (Int32 × Int32 × Sm) ⊕ (Sm)} (h : Md_items_64_L41 v1 v3 q = some o) (hK : Sum.elim (hd_Md_items_64_L41 V l Γ rF wF v1 v3) (ps_Md_items_64_L41 V l Γ rF wF v1 v3) o) : hd_Md_items_64_L41 V l Γ rF wF v1 v3 q := by
  unfold Md_items_64_L41 at h
  unfold hd_Md_items_64_L41
  refine g_aload_n (pc := 41) dX12_items_41 rfl ?_
  refine v_getI hV (pc := 42) dX12_items_42 fo_12_4 rfl k0_53 own_53 ?_
  refine g_iconst (v := (-1)) (pc := 45) dX12_items_45 (by decide) ?_
  refine g_icmp_ne (tgt := 131) (pc := 46) dX12_items_46 (by decide) (fun c11 => ?_) (fun c11 => ?_)
  · rw [if_neg c11] at h
    refine g_wk [false, false, false, false, false, false, false] rfl ?_
    cases h
    exact hK
  · rw [if_pos c11] at h
    refine g_iload (pc := 49) dX12_items_49 rfl ?_
    refine g_iconst (v := (-1)) (pc := 51) dX12_items_51 (by decide) ?_
    refine g_icmp_eq (tgt := 131) (pc := 52) dX12_items_52 (by decide) (fun c10 => ?_) (fun c10 => ?_)
    · rw [if_pos c10] at h
      refine g_wk [false, false, false, false, false, false, false] rfl ?_
      cases h
      exact hK
    · rw [if_neg c10] at h
      refine g_iload (pc := 55) dX12_items_55 rfl ?_
      refine g_iload (pc := 57) dX12_items_57 rfl ?_
      refine v_callSi (Mc := mX12_has) (v := Md_has q.1 q.2.1) (S1 := q.2.2) (As := [.int q.1, .int q.2.1]) (rest := []) (pc := 59) dX12_items_59 mK_X12_249 mf_X12_has rfl rfl (Nat.le_of_ble_eq_true rfl) ⟨Nat.le_of_ble_eq_true rfl, Nat.le_of_ble_eq_true rfl⟩ (r_Md_has hV rfl) ?_
      refine g_if_ne (tgt := 131) (pc := 62) dX12_items_62 (by decide) (fun c9 => ?_) (fun c9 => ?_)
      · rw [if_neg c9] at h
        refine g_wk [false, false, false, false, false, false, false] rfl ?_
        cases h
        exact hK
      · rw [if_pos c9] at h
        refine g_iload (pc := 65) dX12_items_65 rfl ?_
        refine g_iconst (v := 1) (pc := 67) dX12_items_67 (by decide) ?_
        refine g_iload (pc := 68) dX12_items_68 rfl ?_
        refine g_ishl (pc := 70) dX12_items_70 ?_
        refine g_ior (pc := 71) dX12_items_71 ?_
        refine g_istore (ls1 := [some (.ref 53), some (.int v1), some (.ref 64), some (.int v3), none, some (.int (q.1 ||| (iShl 1 q.2.1))), some (.int q.2.1)]) (pc := 72) dX12_items_72 (by decide) rfl ?_
        refine g_aload_n (pc := 74) dX12_items_74 rfl ?_
        refine g_dup (pc := 75) dX12_items_75 rfl ?_
        refine v_getI hV (pc := 76) dX12_items_76 fo_12_3 rfl k0_53 own_53 ?_
        refine g_iconst (v := 1) (pc := 79) dX12_items_79 (by decide) ?_
        refine g_iadd (pc := 80) dX12_items_80 ?_
        refine v_putI hV (pc := 81) dX12_items_81 fo_12_3 rfl k0_53 own_53 rfl ?_
        refine g_aload_n (pc := 84) dX12_items_84 rfl ?_
        refine g_iload_n (pc := 85) dX12_items_85 rfl ?_
        refine g_iload (pc := 86) dX12_items_86 rfl ?_
        refine g_iadd (pc := 88) dX12_items_88 ?_
        refine g_aload_n (pc := 89) dX12_items_89 rfl ?_
        refine g_iload_n (pc := 90) dX12_items_90 rfl ?_
        refine g_iload (pc := 91) dX12_items_91 rfl ?_
        refine v_callSi (Mc := mX12_lowest) (v := Md_lowest v1 q.2.1) (S1 := si q.2.2 53 3 ((gi q.2.2 53 3) + 1)) (As := [.int v1, .int q.2.1]) (rest := [.ref 53, .int (v3 + q.2.1), .ref 64]) (pc := 93) dX12_items_93 mK_X12_253 mf_X12_lowest rfl rfl (Nat.le_of_ble_eq_true rfl) ⟨Nat.le_of_ble_eq_true rfl, Nat.le_of_ble_eq_true rfl⟩ (r_Md_lowest hV rfl) ?_
        refine g_iload_n (pc := 96) dX12_items_96 rfl ?_
        refine g_iload (pc := 97) dX12_items_97 rfl ?_
        refine v_callSi (Mc := mX12_highest) (v := Md_highest v1 q.2.1) (S1 := si q.2.2 53 3 ((gi q.2.2 53 3) + 1)) (As := [.int v1, .int q.2.1]) (rest := [.int (Md_lowest v1 q.2.1), .ref 53, .int (v3 + q.2.1), .ref 64]) (pc := 99) dX12_items_99 mK_X12_256 mf_X12_highest rfl rfl (Nat.le_of_ble_eq_true rfl) ⟨Nat.le_of_ble_eq_true rfl, Nat.le_of_ble_eq_true rfl⟩ (r_Md_highest hV rfl) ?_
        obtain ⟨q5, hq5, h⟩ := bnd h
        refine v_callVi hV (Mc := mX12_number) (v := q5.1) (S1 := q5.2) (As := [.int (Md_lowest v1 q.2.1), .int (Md_highest v1 q.2.1)]) (rest := [.int (v3 + q.2.1), .ref 64]) (q := (RX12, TX12, 58)) (pc := 102) dX12_items_102 mK_X12_259 mf_X12_number rfl k0_53 rfl rfl rfl (Nat.le_of_ble_eq_true rfl) ⟨Nat.le_of_ble_eq_true rfl, Nat.le_of_ble_eq_true rfl⟩ (r_Md_number hV hq5) ?_
        by_cases c6 : inb (v3 + q.2.1) 4
        · rw [if_pos c6] at h
          refine v_iast hV (pc := 105) dX12_items_105 k0_64 own_64 c6 ?_
          refine g_aload_n (pc := 106) dX12_items_106 rfl ?_
          refine v_getI hV (pc := 107) dX12_items_107 fo_12_4 rfl k0_53 own_53 ?_
          refine g_iconst (v := (-1)) (pc := 110) dX12_items_110 (by decide) ?_
          refine g_icmp_ne (tgt := 125) (pc := 111) dX12_items_111 (by decide) (fun c8 => ?_) (fun c8 => ?_)
          · rw [if_neg c8] at h
            refine g_iconst (v := (-1)) (pc := 125) dX12_items_125 (by decide) ?_
            refine g_wk [true, true, true, true, false, true, false] rfl ?_
            exact t_Md_items_64_126_L41 hV h hK
          · rw [if_pos c8] at h
            refine g_iload_n (pc := 114) dX12_items_114 rfl ?_
            refine g_aload_n (pc := 115) dX12_items_115 rfl ?_
            obtain ⟨q7, hq7, h⟩ := bnd h
            refine v_callVi hV (Mc := mX12_look) (v := q7.1) (S1 := q7.2) (As := []) (rest := [.int v1]) (q := (RX12, TX12, 58)) (pc := 116) dX12_items_116 mK_X12_152 mf_X12_look rfl k0_53 rfl rfl rfl (Nat.le_of_ble_eq_true rfl) ⟨Nat.le_of_ble_eq_true rfl, Nat.le_of_ble_eq_true rfl⟩ (r_Md_look hV hq7) ?_
            refine v_callSi (Mc := mX12_itemOf) (v := Md_itemOf v1 q7.1) (S1 := q7.2) (As := [.int v1, .int q7.1]) (rest := []) (pc := 119) dX12_items_119 mK_X12_246 mf_X12_itemOf rfl rfl (Nat.le_of_ble_eq_true rfl) ⟨Nat.le_of_ble_eq_true rfl, Nat.le_of_ble_eq_true rfl⟩ (r_Md_itemOf hV rfl) ?_
            refine g_goto (tgt := 126) (pc := 122) dX12_items_122 (by decide) ?_
            refine g_wk [true, true, true, true, false, true, false] rfl ?_
            exact t_Md_items_64_126_L41 hV h hK
        · rw [if_neg c6] at h; cases h
set_option maxRecDepth 4000 in
theorem w_Md_items_64_L41 {V : Sm → Wd} (hV : VwT V) {l : Launch} {Γ : Gm} {rF : Option Value} {wF : Wd} {v1 : Int32} {v3 : Int32} {k : Nat} {q : Int32 × Int32 × Sm} {o : Sm} (h : lpN (Md_items_64_L41 v1 v3) k q = some o) (hP : ps_Md_items_64_L41 V l Γ rF wF v1 v3 o) : hd_Md_items_64_L41 V l Γ rF wF v1 v3 q := lpN_ind2 (hd_Md_items_64_L41 V l Γ rF wF v1 v3) (ps_Md_items_64_L41 V l Γ rF wF v1 v3) (fun s o h hK => t_Md_items_64_L41 hV h hK) k q o h hP
def Md_items_64 (v1 : Int32) (v3 : Int32) (v4 : Int32) (S : Sm) : Option (Sm) := ((lpN (Md_items_64_L3 v1 v3 v4) FU (0, S)).bind fun q3 => ((Md_look q3).bind fun q4 => ((lpN (Md_items_64_L41 v1 v3) FU (0, Md_itemOf v1 q4.1, q4.2)).bind fun q12 => (some q12))))
set_option maxRecDepth 4000 in
theorem r_Md_items_64 {V : Sm → Wd} (hV : VwT V) {v1 : Int32} {v3 : Int32} {v4 : Int32} {S : Sm} {q : Sm} (h : Md_items_64 v1 v3 v4 S = some q) : Runs 3 mX12_items [.ref 53, .int v1, .ref 64, .int v3, .int v4] (V S) none (V q) 0 0 := by
  unfold Md_items_64 at h
  refine Runs.of2 [some (.ref 53), some (.int v1), some (.ref 64), some (.int v3), some (.int v4), none, none] 2 rfl rfl (Nat.le_of_ble_eq_true rfl) (fun l Γ => ?_)
  refine g_iconst (v := 0) (pc := 0) dX12_items_0 (by decide) ?_
  refine g_istore (ls1 := [some (.ref 53), some (.int v1), some (.ref 64), some (.int v3), some (.int v4), some (.int 0), none]) (pc := 1) dX12_items_1 (by decide) rfl ?_
  obtain ⟨q3, hqq3, h⟩ := bnd h
  refine w_Md_items_64_L3 hV hqq3 ?_
  unfold ps_Md_items_64_L3
  show G _ _ _ _ _ _ _ _ _ _ _
  refine g_iconst (v := 0) (pc := 28) dX12_items_28 (by decide) ?_
  refine g_istore (ls1 := [some (.ref 53), some (.int v1), some (.ref 64), some (.int v3), none, some (.int 0), none]) (pc := 29) dX12_items_29 (by decide) rfl ?_
  refine g_iload_n (pc := 31) dX12_items_31 rfl ?_
  refine g_aload_n (pc := 32) dX12_items_32 rfl ?_
  obtain ⟨q4, hq4, h⟩ := bnd h
  refine v_callVi hV (Mc := mX12_look) (v := q4.1) (S1 := q4.2) (As := []) (rest := [.int v1]) (q := (RX12, TX12, 58)) (pc := 33) dX12_items_33 mK_X12_152 mf_X12_look rfl k0_53 rfl rfl rfl (Nat.le_of_ble_eq_true rfl) ⟨Nat.le_of_ble_eq_true rfl, Nat.le_of_ble_eq_true rfl⟩ (r_Md_look hV hq4) ?_
  refine v_callSi (Mc := mX12_itemOf) (v := Md_itemOf v1 q4.1) (S1 := q4.2) (As := [.int v1, .int q4.1]) (rest := []) (pc := 36) dX12_items_36 mK_X12_246 mf_X12_itemOf rfl rfl (Nat.le_of_ble_eq_true rfl) ⟨Nat.le_of_ble_eq_true rfl, Nat.le_of_ble_eq_true rfl⟩ (r_Md_itemOf hV rfl) ?_
  refine g_istore (ls1 := [some (.ref 53), some (.int v1), some (.ref 64), some (.int v3), none, some (.int 0), some (.int (Md_itemOf v1 q4.1))]) (pc := 39) dX12_items_39 (by decide) rfl ?_
  obtain ⟨q12, hqq12, h⟩ := bnd h
  refine w_Md_items_64_L41 hV hqq12 ?_
  unfold ps_Md_items_64_L41
  show G _ _ _ _ _ _ _ _ _ _ _
  cases h
  exact g_vret (pc := 131) dX12_items_131 rfl (Nat.le_refl _) (Nat.le_refl _)
def hd_Md_readAll_L29 (V : Sm → Wd) (l : Launch) (Γ : Gm) (rF : Option Value) (wF : Wd) (v1 : Int32) (q : Int32 × Sm) : Prop := G mX12_readAll l Γ (rmD 4 0 0) (mQ Γ rF wF 0 0) 0 0 29 [some (.ref 53), some (.int v1), some (.int q.1), none] [] (V q.2)
def ps_Md_readAll_L29 (V : Sm → Wd) (l : Launch) (Γ : Gm) (rF : Option Value) (wF : Wd) (v1 : Int32) (x : Sm) : Prop := (fun (a : Sm) => G mX12_readAll l Γ (rmD 4 0 0) (mQ Γ rF wF 0 0) 0 0 52 [some (.ref 53), some (.int v1), none, none] [] (V a)) x
def Md_readAll_L29 (v1 : Int32) (q : Int32 × Sm) : Option ((Int32 × Sm) ⊕ (Sm)) := (if (4 : Int32) ≤ q.1 then (some (.inr q.2)) else (if inb q.1 4 then (some (.inl (q.1 + 1, si q.2 64 (ix q.1) (Md_usual 110 q.1)))) else none))
set_option maxRecDepth 4000 in
theorem t_Md_readAll_L29 {V : Sm → Wd} (hV : VwT V) {l : Launch} {Γ : Gm} {rF : Option Value} {wF : Wd} {v1 : Int32} {q : Int32 × Sm} {o : (Int32 × Sm) ⊕ (Sm)} (h : Md_readAll_L29 v1 q = some o) (hK : Sum.elim (hd_Md_readAll_L29 V l Γ rF wF v1) (ps_Md_readAll_L29 V l Γ rF wF v1) o) : hd_Md_readAll_L29 V l Γ rF wF v1 q := by
  unfold Md_readAll_L29 at h
  unfold hd_Md_readAll_L29
  refine g_iload_n (pc := 29) dX12_readAll_29 rfl ?_
  refine g_iconst (v := 4) (pc := 30) dX12_readAll_30 (by decide) ?_
  refine g_icmp_ge (tgt := 52) (pc := 31) dX12_readAll_31 (by decide) (fun c2 => ?_) (fun c2 => ?_)
  · rw [if_pos c2] at h
    refine g_wk [true, true, false, false] rfl ?_
    cases h
    exact hK
  · rw [if_neg c2] at h
    refine g_aload_n (pc := 34) dX12_readAll_34 rfl ?_
    refine v_getR hV (pc := 35) dX12_readAll_35 fo_12_17 rfl k0_53 r0_53_17 ?_
    refine g_iload_n (pc := 38) dX12_readAll_38 rfl ?_
    refine g_bipush (v := 110) (pc := 39) dX12_readAll_39 (by decide) ?_
    refine g_iload_n (pc := 41) dX12_readAll_41 rfl ?_
    refine v_callSi (Mc := mX12_usual) (v := Md_usual 110 q.1) (S1 := q.2) (As := [.int 110, .int q.1]) (rest := [.int q.1, .ref 64]) (pc := 42) dX12_readAll_42 mK_X12_242 mf_X12_usual rfl rfl (Nat.le_of_ble_eq_true rfl) ⟨Nat.le_of_ble_eq_true rfl, Nat.le_of_ble_eq_true rfl⟩ (r_Md_usual hV rfl) ?_
    by_cases c1 : inb q.1 4
    · rw [if_pos c1] at h
      refine v_iast hV (pc := 45) dX12_readAll_45 k0_64 own_64 c1 ?_
      refine g_iinc (v := q.1 + 1) (ls1 := [some (.ref 53), some (.int v1), some (.int (q.1 + 1)), none]) (pc := 46) dX12_readAll_46 rfl rfl (by decide) rfl ?_
      refine g_goto (tgt := 29) (pc := 49) dX12_readAll_49 (by decide) ?_
      cases h
      exact hK
    · rw [if_neg c1] at h; cases h
set_option maxRecDepth 4000 in
theorem w_Md_readAll_L29 {V : Sm → Wd} (hV : VwT V) {l : Launch} {Γ : Gm} {rF : Option Value} {wF : Wd} {v1 : Int32} {k : Nat} {q : Int32 × Sm} {o : Sm} (h : lpN (Md_readAll_L29 v1) k q = some o) (hP : ps_Md_readAll_L29 V l Γ rF wF v1 o) : hd_Md_readAll_L29 V l Γ rF wF v1 q := lpN_ind2 (hd_Md_readAll_L29 V l Γ rF wF v1) (ps_Md_readAll_L29 V l Γ rF wF v1) (fun s o h hK => t_Md_readAll_L29 hV h hK) k q o h hP
def hd_Md_readAll_L54 (V : Sm → Wd) (l : Launch) (Γ : Gm) (rF : Option Value) (wF : Wd)  (q : Int32 × Int32 × Sm) : Prop := G mX12_readAll l Γ (rmD 4 0 0) (mQ Γ rF wF 0 0) 0 0 54 [some (.ref 53), some (.int q.1), some (.int q.2.1), none] [] (V q.2.2)
def ps_Md_readAll_L54 (V : Sm → Wd) (l : Launch) (Γ : Gm) (rF : Option Value) (wF : Wd)  (x : Sm) : Prop := (fun (a : Sm) => G mX12_readAll l Γ (rmD 4 0 0) (mQ Γ rF wF 0 0) 0 0 314 [some (.ref 53), none, none, none] [] (V a)) x
def Md_readAll_307_L54 (v1 : Int32) (v2 : Int32) (s1 : Int32) (s2 : Int32) (S : Sm) : Option ((Int32 × Int32 × Sm) ⊕ (Sm)) := (some (.inl (v1, v2, si S 53 3 (s1 + s2))))
set_option maxRecDepth 4000 in
theorem t_Md_readAll_307_L54 {V : Sm → Wd} (hV : VwT V) {l : Launch} {Γ : Gm} {v1 : Int32} {v2 : Int32} {s1 : Int32} {s2 : Int32} {rF : Option Value} {wF : Wd} {S : Sm} {o : (Int32 × Int32 × Sm) ⊕ (Sm)} (h : Md_readAll_307_L54 v1 v2 s1 s2 S = some o) (hK : Sum.elim (hd_Md_readAll_L54 V l Γ rF wF) (ps_Md_readAll_L54 V l Γ rF wF) o) : G mX12_readAll l Γ (rmD 4 0 0) (mQ Γ rF wF 0 0) 0 0 307 [some (.ref 53), some (.int v1), some (.int v2), none] [.int s2, .int s1, .ref 53] (V S) := by
  unfold Md_readAll_307_L54 at h
  refine g_iadd (pc := 307) dX12_readAll_307 ?_
  refine v_putI hV (pc := 308) dX12_readAll_308 fo_12_3 rfl k0_53 own_53 rfl ?_
  refine g_goto (tgt := 54) (pc := 311) dX12_readAll_311 (by decide) ?_
  cases h
  exact hK
def Md_readAll_292_L54 (v1 : Int32) (s0 : Int32) (S : Sm) : Option ((Int32 × Int32 × Sm) ⊕ (Sm)) := (if s0 = 0 then (Md_readAll_307_L54 v1 s0 (gi S 53 3) 0 S) else (Md_readAll_307_L54 v1 s0 (gi S 53 3) 1 S))
set_option maxRecDepth 4000 in
theorem t_Md_readAll_292_L54 {V : Sm → Wd} (hV : VwT V) {l : Launch} {Γ : Gm} {v1 : Int32} {s0 : Int32} {rF : Option Value} {wF : Wd} {S : Sm} {o : (Int32 × Int32 × Sm) ⊕ (Sm)} (h : Md_readAll_292_L54 v1 s0 S = some o) (hK : Sum.elim (hd_Md_readAll_L54 V l Γ rF wF) (ps_Md_readAll_L54 V l Γ rF wF) o) : G mX12_readAll l Γ (rmD 4 0 0) (mQ Γ rF wF 0 0) 0 0 292 [some (.ref 53), some (.int v1), none, none] [.int s0] (V S) := by
  unfold Md_readAll_292_L54 at h
  refine g_istore_n (ls1 := [some (.ref 53), some (.int v1), some (.int s0), none]) (pc := 292) dX12_readAll_292 (by decide) rfl ?_
  refine g_aload_n (pc := 293) dX12_readAll_293 rfl ?_
  refine g_dup (pc := 294) dX12_readAll_294 rfl ?_
  refine v_getI hV (pc := 295) dX12_readAll_295 fo_12_3 rfl k0_53 own_53 ?_
  refine g_iload_n (pc := 298) dX12_readAll_298 rfl ?_
  refine g_if_eq (tgt := 306) (pc := 299) dX12_readAll_299 (by decide) (fun c6 => ?_) (fun c6 => ?_)
  · rw [if_pos c6] at h
    refine g_iconst (v := 0) (pc := 306) dX12_readAll_306 (by decide) ?_
    exact t_Md_readAll_307_L54 hV h hK
  · rw [if_neg c6] at h
    refine g_iconst (v := 1) (pc := 302) dX12_readAll_302 (by decide) ?_
    refine g_goto (tgt := 307) (pc := 303) dX12_readAll_303 (by decide) ?_
    exact t_Md_readAll_307_L54 hV h hK
def Md_readAll_291_L54 (v1 : Int32) (S : Sm) : Option ((Int32 × Int32 × Sm) ⊕ (Sm)) := (Md_readAll_292_L54 v1 0 S)
set_option maxRecDepth 4000 in
theorem t_Md_readAll_291_L54 {V : Sm → Wd} (hV : VwT V) {l : Launch} {Γ : Gm} {v1 : Int32} {rF : Option Value} {wF : Wd} {S : Sm} {o : (Int32 × Int32 × Sm) ⊕ (Sm)} (h : Md_readAll_291_L54 v1 S = some o) (hK : Sum.elim (hd_Md_readAll_L54 V l Γ rF wF) (ps_Md_readAll_L54 V l Γ rF wF) o) : G mX12_readAll l Γ (rmD 4 0 0) (mQ Γ rF wF 0 0) 0 0 291 [some (.ref 53), some (.int v1), none, none] [] (V S) := by
  unfold Md_readAll_291_L54 at h
  refine g_iconst (v := 0) (pc := 291) dX12_readAll_291 (by decide) ?_
  exact t_Md_readAll_292_L54 hV h hK
def Md_readAll_270_L54 (v1 : Int32) (S : Sm) : Option ((Int32 × Int32 × Sm) ⊕ (Sm)) := (if (gi S 53 4) = ((-1)) then ((Md_look S).bind fun q7 => (if q7.1 = 59 then (Md_readAll_292_L54 v1 1 q7.2) else (Md_readAll_291_L54 v1 q7.2))) else (Md_readAll_291_L54 v1 S))
set_option maxRecDepth 4000 in
theorem t_Md_readAll_270_L54 {V : Sm → Wd} (hV : VwT V) {l : Launch} {Γ : Gm} {v1 : Int32} {rF : Option Value} {wF : Wd} {S : Sm} {o : (Int32 × Int32 × Sm) ⊕ (Sm)} (h : Md_readAll_270_L54 v1 S = some o) (hK : Sum.elim (hd_Md_readAll_L54 V l Γ rF wF) (ps_Md_readAll_L54 V l Γ rF wF) o) : G mX12_readAll l Γ (rmD 4 0 0) (mQ Γ rF wF 0 0) 0 0 270 [some (.ref 53), some (.int v1), none, none] [] (V S) := by
  unfold Md_readAll_270_L54 at h
  refine g_aload_n (pc := 270) dX12_readAll_270 rfl ?_
  refine v_getI hV (pc := 271) dX12_readAll_271 fo_12_4 rfl k0_53 own_53 ?_
  refine g_iconst (v := (-1)) (pc := 274) dX12_readAll_274 (by decide) ?_
  refine g_icmp_ne (tgt := 291) (pc := 275) dX12_readAll_275 (by decide) (fun c9 => ?_) (fun c9 => ?_)
  · rw [if_neg c9] at h
    exact t_Md_readAll_291_L54 hV h hK
  · rw [if_pos c9] at h
    refine g_aload_n (pc := 278) dX12_readAll_278 rfl ?_
    obtain ⟨q7, hq7, h⟩ := bnd h
    refine v_callVi hV (Mc := mX12_look) (v := q7.1) (S1 := q7.2) (As := []) (rest := []) (q := (RX12, TX12, 58)) (pc := 279) dX12_readAll_279 mK_X12_152 mf_X12_look rfl k0_53 rfl rfl rfl (Nat.le_of_ble_eq_true rfl) ⟨Nat.le_of_ble_eq_true rfl, Nat.le_of_ble_eq_true rfl⟩ (r_Md_look hV hq7) ?_
    refine g_bipush (v := 59) (pc := 282) dX12_readAll_282 (by decide) ?_
    refine g_icmp_ne (tgt := 291) (pc := 284) dX12_readAll_284 (by decide) (fun c8 => ?_) (fun c8 => ?_)
    · rw [if_neg c8] at h
      exact t_Md_readAll_291_L54 hV h hK
    · rw [if_pos c8] at h
      refine g_iconst (v := 1) (pc := 287) dX12_readAll_287 (by decide) ?_
      refine g_goto (tgt := 292) (pc := 288) dX12_readAll_288 (by decide) ?_
      exact t_Md_readAll_292_L54 hV h hK
def Md_readAll_266_L54 (v1 : Int32) (S : Sm) : Option ((Int32 × Int32 × Sm) ⊕ (Sm)) := (app (Md_bad S) fun q5 => (Md_readAll_270_L54 v1 q5))
set_option maxRecDepth 4000 in
theorem t_Md_readAll_266_L54 {V : Sm → Wd} (hV : VwT V) {l : Launch} {Γ : Gm} {v1 : Int32} {rF : Option Value} {wF : Wd} {S : Sm} {o : (Int32 × Int32 × Sm) ⊕ (Sm)} (h : Md_readAll_266_L54 v1 S = some o) (hK : Sum.elim (hd_Md_readAll_L54 V l Γ rF wF) (ps_Md_readAll_L54 V l Γ rF wF) o) : G mX12_readAll l Γ (rmD 4 0 0) (mQ Γ rF wF 0 0) 0 0 266 [some (.ref 53), some (.int v1), none, none] [] (V S) := by
  unfold Md_readAll_266_L54 at h
  refine g_aload_n (pc := 266) dX12_readAll_266 rfl ?_
  obtain ⟨q5, hq5, h⟩ := app_of h
  refine v_callVv hV (Mc := mX12_bad) (S1 := q5) (As := []) (rest := []) (q := (RX12, TX12, 58)) (pc := 267) dX12_readAll_267 mK_X12_149 mf_X12_bad rfl k0_53 rfl rfl rfl (Nat.le_of_ble_eq_true rfl) ⟨Nat.le_of_ble_eq_true rfl, Nat.le_of_ble_eq_true rfl⟩ (r_Md_bad hV hq5) ?_
  exact t_Md_readAll_270_L54 hV h hK
def Md_readAll_215_L54 (v1 : Int32) (v3 : Int32) (S : Sm) : Option ((Int32 × Int32 × Sm) ⊕ (Sm)) := (if v3 = 103 then (if (4 : Int32) ≤ (gi S 53 23) then (Md_readAll_266_L54 v1 S) else ((Md_items_67 v3 (gi (si S 53 3 ((gi S 53 3) + 1)) 53 23) 1 (si S 53 3 ((gi S 53 3) + 1))).bind fun q10 => (Md_readAll_270_L54 v1 (si q10 53 23 ((gi q10 53 23) + 1))))) else (Md_readAll_266_L54 v1 S))
set_option maxRecDepth 4000 in
theorem t_Md_readAll_215_L54 {V : Sm → Wd} (hV : VwT V) {l : Launch} {Γ : Gm} {v1 : Int32} {v3 : Int32} {rF : Option Value} {wF : Wd} {S : Sm} {o : (Int32 × Int32 × Sm) ⊕ (Sm)} (h : Md_readAll_215_L54 v1 v3 S = some o) (hK : Sum.elim (hd_Md_readAll_L54 V l Γ rF wF) (ps_Md_readAll_L54 V l Γ rF wF) o) : G mX12_readAll l Γ (rmD 4 0 0) (mQ Γ rF wF 0 0) 0 0 215 [some (.ref 53), some (.int v1), none, some (.int v3)] [] (V S) := by
  unfold Md_readAll_215_L54 at h
  refine g_iload_n (pc := 215) dX12_readAll_215 rfl ?_
  refine g_bipush (v := 103) (pc := 216) dX12_readAll_216 (by decide) ?_
  refine g_icmp_ne (tgt := 266) (pc := 218) dX12_readAll_218 (by decide) (fun c12 => ?_) (fun c12 => ?_)
  · rw [if_neg c12] at h
    refine g_wk [true, true, false, false] rfl ?_
    exact t_Md_readAll_266_L54 hV h hK
  · rw [if_pos c12] at h
    refine g_aload_n (pc := 221) dX12_readAll_221 rfl ?_
    refine v_getI hV (pc := 222) dX12_readAll_222 fo_12_23 rfl k0_53 own_53 ?_
    refine g_iconst (v := 4) (pc := 225) dX12_readAll_225 (by decide) ?_
    refine g_icmp_ge (tgt := 266) (pc := 226) dX12_readAll_226 (by decide) (fun c11 => ?_) (fun c11 => ?_)
    · rw [if_pos c11] at h
      refine g_wk [true, true, false, false] rfl ?_
      exact t_Md_readAll_266_L54 hV h hK
    · rw [if_neg c11] at h
      refine g_aload_n (pc := 229) dX12_readAll_229 rfl ?_
      refine g_dup (pc := 230) dX12_readAll_230 rfl ?_
      refine v_getI hV (pc := 231) dX12_readAll_231 fo_12_3 rfl k0_53 own_53 ?_
      refine g_iconst (v := 1) (pc := 234) dX12_readAll_234 (by decide) ?_
      refine g_iadd (pc := 235) dX12_readAll_235 ?_
      refine v_putI hV (pc := 236) dX12_readAll_236 fo_12_3 rfl k0_53 own_53 rfl ?_
      refine g_aload_n (pc := 239) dX12_readAll_239 rfl ?_
      refine g_iload_n (pc := 240) dX12_readAll_240 rfl ?_
      refine g_aload_n (pc := 241) dX12_readAll_241 rfl ?_
      refine v_getR hV (pc := 242) dX12_readAll_242 fo_12_20 rfl k0_53 r0_53_20 ?_
      refine g_aload_n (pc := 245) dX12_readAll_245 rfl ?_
      refine v_getI hV (pc := 246) dX12_readAll_246 fo_12_23 rfl k0_53 own_53 ?_
      refine g_iconst (v := 1) (pc := 249) dX12_readAll_249 (by decide) ?_
      obtain ⟨q10, hq10, h⟩ := bnd h
      refine v_callVv hV (Mc := mX12_items) (S1 := q10) (As := [.int v3, .ref 67, .int (gi (si S 53 3 ((gi S 53 3) + 1)) 53 23), .int 1]) (rest := []) (q := (RX12, TX12, 58)) (pc := 250) dX12_readAll_250 mK_X12_271 mf_X12_items rfl k0_53 rfl rfl rfl (Nat.le_of_ble_eq_true rfl) ⟨Nat.le_of_ble_eq_true rfl, Nat.le_of_ble_eq_true rfl⟩ (r_Md_items_67 hV hq10) ?_
      refine g_aload_n (pc := 253) dX12_readAll_253 rfl ?_
      refine g_dup (pc := 254) dX12_readAll_254 rfl ?_
      refine v_getI hV (pc := 255) dX12_readAll_255 fo_12_23 rfl k0_53 own_53 ?_
      refine g_iconst (v := 1) (pc := 258) dX12_readAll_258 (by decide) ?_
      refine g_iadd (pc := 259) dX12_readAll_259 ?_
      refine v_putI hV (pc := 260) dX12_readAll_260 fo_12_23 rfl k0_53 own_53 rfl ?_
      refine g_goto (tgt := 270) (pc := 263) dX12_readAll_263 (by decide) ?_
      refine g_wk [true, true, false, false] rfl ?_
      exact t_Md_readAll_270_L54 hV h hK
def Md_readAll_161_L54 (v1 : Int32) (v3 : Int32) (S : Sm) : Option ((Int32 × Int32 × Sm) ⊕ (Sm)) := (if v3 = 114 then (if (6 : Int32) ≤ (gi S 53 22) then (Md_readAll_215_L54 v1 v3 S) else ((Md_items_66 v3 (4 * (gi (si S 53 3 ((gi S 53 3) + 1)) 53 22)) 4 (si S 53 3 ((gi S 53 3) + 1))).bind fun q13 => (Md_readAll_270_L54 v1 (si q13 53 22 ((gi q13 53 22) + 1))))) else (Md_readAll_215_L54 v1 v3 S))
set_option maxRecDepth 4000 in
theorem t_Md_readAll_161_L54 {V : Sm → Wd} (hV : VwT V) {l : Launch} {Γ : Gm} {v1 : Int32} {v3 : Int32} {rF : Option Value} {wF : Wd} {S : Sm} {o : (Int32 × Int32 × Sm) ⊕ (Sm)} (h : Md_readAll_161_L54 v1 v3 S = some o) (hK : Sum.elim (hd_Md_readAll_L54 V l Γ rF wF) (ps_Md_readAll_L54 V l Γ rF wF) o) : G mX12_readAll l Γ (rmD 4 0 0) (mQ Γ rF wF 0 0) 0 0 161 [some (.ref 53), some (.int v1), none, some (.int v3)] [] (V S) := by
  unfold Md_readAll_161_L54 at h
  refine g_iload_n (pc := 161) dX12_readAll_161 rfl ?_
  refine g_bipush (v := 114) (pc := 162) dX12_readAll_162 (by decide) ?_
  refine g_icmp_ne (tgt := 215) (pc := 164) dX12_readAll_164 (by decide) (fun c15 => ?_) (fun c15 => ?_)
  · rw [if_neg c15] at h
    exact t_Md_readAll_215_L54 hV h hK
  · rw [if_pos c15] at h
    refine g_aload_n (pc := 167) dX12_readAll_167 rfl ?_
    refine v_getI hV (pc := 168) dX12_readAll_168 fo_12_22 rfl k0_53 own_53 ?_
    refine g_bipush (v := 6) (pc := 171) dX12_readAll_171 (by decide) ?_
    refine g_icmp_ge (tgt := 215) (pc := 173) dX12_readAll_173 (by decide) (fun c14 => ?_) (fun c14 => ?_)
    · rw [if_pos c14] at h
      exact t_Md_readAll_215_L54 hV h hK
    · rw [if_neg c14] at h
      refine g_aload_n (pc := 176) dX12_readAll_176 rfl ?_
      refine g_dup (pc := 177) dX12_readAll_177 rfl ?_
      refine v_getI hV (pc := 178) dX12_readAll_178 fo_12_3 rfl k0_53 own_53 ?_
      refine g_iconst (v := 1) (pc := 181) dX12_readAll_181 (by decide) ?_
      refine g_iadd (pc := 182) dX12_readAll_182 ?_
      refine v_putI hV (pc := 183) dX12_readAll_183 fo_12_3 rfl k0_53 own_53 rfl ?_
      refine g_aload_n (pc := 186) dX12_readAll_186 rfl ?_
      refine g_iload_n (pc := 187) dX12_readAll_187 rfl ?_
      refine g_aload_n (pc := 188) dX12_readAll_188 rfl ?_
      refine v_getR hV (pc := 189) dX12_readAll_189 fo_12_19 rfl k0_53 r0_53_19 ?_
      refine g_iconst (v := 4) (pc := 192) dX12_readAll_192 (by decide) ?_
      refine g_aload_n (pc := 193) dX12_readAll_193 rfl ?_
      refine v_getI hV (pc := 194) dX12_readAll_194 fo_12_22 rfl k0_53 own_53 ?_
      refine g_imul (pc := 197) dX12_readAll_197 ?_
      refine g_iconst (v := 4) (pc := 198) dX12_readAll_198 (by decide) ?_
      obtain ⟨q13, hq13, h⟩ := bnd h
      refine v_callVv hV (Mc := mX12_items) (S1 := q13) (As := [.int v3, .ref 66, .int (4 * (gi (si S 53 3 ((gi S 53 3) + 1)) 53 22)), .int 4]) (rest := []) (q := (RX12, TX12, 58)) (pc := 199) dX12_readAll_199 mK_X12_271 mf_X12_items rfl k0_53 rfl rfl rfl (Nat.le_of_ble_eq_true rfl) ⟨Nat.le_of_ble_eq_true rfl, Nat.le_of_ble_eq_true rfl⟩ (r_Md_items_66 hV hq13) ?_
      refine g_aload_n (pc := 202) dX12_readAll_202 rfl ?_
      refine g_dup (pc := 203) dX12_readAll_203 rfl ?_
      refine v_getI hV (pc := 204) dX12_readAll_204 fo_12_22 rfl k0_53 own_53 ?_
      refine g_iconst (v := 1) (pc := 207) dX12_readAll_207 (by decide) ?_
      refine g_iadd (pc := 208) dX12_readAll_208 ?_
      refine v_putI hV (pc := 209) dX12_readAll_209 fo_12_22 rfl k0_53 own_53 rfl ?_
      refine g_goto (tgt := 270) (pc := 212) dX12_readAll_212 (by decide) ?_
      refine g_wk [true, true, false, false] rfl ?_
      exact t_Md_readAll_270_L54 hV h hK
def Md_readAll_107_L54 (v1 : Int32) (v3 : Int32) (S : Sm) : Option ((Int32 × Int32 × Sm) ⊕ (Sm)) := (if v3 = 116 then (if (18 : Int32) ≤ (gi S 53 21) then (Md_readAll_161_L54 v1 v3 S) else ((Md_items_65 v3 (4 * (gi (si S 53 3 ((gi S 53 3) + 1)) 53 21)) 4 (si S 53 3 ((gi S 53 3) + 1))).bind fun q16 => (Md_readAll_270_L54 v1 (si q16 53 21 ((gi q16 53 21) + 1))))) else (Md_readAll_161_L54 v1 v3 S))
set_option maxRecDepth 4000 in
theorem t_Md_readAll_107_L54 {V : Sm → Wd} (hV : VwT V) {l : Launch} {Γ : Gm} {v1 : Int32} {v3 : Int32} {rF : Option Value} {wF : Wd} {S : Sm} {o : (Int32 × Int32 × Sm) ⊕ (Sm)} (h : Md_readAll_107_L54 v1 v3 S = some o) (hK : Sum.elim (hd_Md_readAll_L54 V l Γ rF wF) (ps_Md_readAll_L54 V l Γ rF wF) o) : G mX12_readAll l Γ (rmD 4 0 0) (mQ Γ rF wF 0 0) 0 0 107 [some (.ref 53), some (.int v1), none, some (.int v3)] [] (V S) := by
  unfold Md_readAll_107_L54 at h
  refine g_iload_n (pc := 107) dX12_readAll_107 rfl ?_
  refine g_bipush (v := 116) (pc := 108) dX12_readAll_108 (by decide) ?_
  refine g_icmp_ne (tgt := 161) (pc := 110) dX12_readAll_110 (by decide) (fun c18 => ?_) (fun c18 => ?_)
  · rw [if_neg c18] at h
    exact t_Md_readAll_161_L54 hV h hK
  · rw [if_pos c18] at h
    refine g_aload_n (pc := 113) dX12_readAll_113 rfl ?_
    refine v_getI hV (pc := 114) dX12_readAll_114 fo_12_21 rfl k0_53 own_53 ?_
    refine g_bipush (v := 18) (pc := 117) dX12_readAll_117 (by decide) ?_
    refine g_icmp_ge (tgt := 161) (pc := 119) dX12_readAll_119 (by decide) (fun c17 => ?_) (fun c17 => ?_)
    · rw [if_pos c17] at h
      exact t_Md_readAll_161_L54 hV h hK
    · rw [if_neg c17] at h
      refine g_aload_n (pc := 122) dX12_readAll_122 rfl ?_
      refine g_dup (pc := 123) dX12_readAll_123 rfl ?_
      refine v_getI hV (pc := 124) dX12_readAll_124 fo_12_3 rfl k0_53 own_53 ?_
      refine g_iconst (v := 1) (pc := 127) dX12_readAll_127 (by decide) ?_
      refine g_iadd (pc := 128) dX12_readAll_128 ?_
      refine v_putI hV (pc := 129) dX12_readAll_129 fo_12_3 rfl k0_53 own_53 rfl ?_
      refine g_aload_n (pc := 132) dX12_readAll_132 rfl ?_
      refine g_iload_n (pc := 133) dX12_readAll_133 rfl ?_
      refine g_aload_n (pc := 134) dX12_readAll_134 rfl ?_
      refine v_getR hV (pc := 135) dX12_readAll_135 fo_12_18 rfl k0_53 r0_53_18 ?_
      refine g_iconst (v := 4) (pc := 138) dX12_readAll_138 (by decide) ?_
      refine g_aload_n (pc := 139) dX12_readAll_139 rfl ?_
      refine v_getI hV (pc := 140) dX12_readAll_140 fo_12_21 rfl k0_53 own_53 ?_
      refine g_imul (pc := 143) dX12_readAll_143 ?_
      refine g_iconst (v := 4) (pc := 144) dX12_readAll_144 (by decide) ?_
      obtain ⟨q16, hq16, h⟩ := bnd h
      refine v_callVv hV (Mc := mX12_items) (S1 := q16) (As := [.int v3, .ref 65, .int (4 * (gi (si S 53 3 ((gi S 53 3) + 1)) 53 21)), .int 4]) (rest := []) (q := (RX12, TX12, 58)) (pc := 145) dX12_readAll_145 mK_X12_271 mf_X12_items rfl k0_53 rfl rfl rfl (Nat.le_of_ble_eq_true rfl) ⟨Nat.le_of_ble_eq_true rfl, Nat.le_of_ble_eq_true rfl⟩ (r_Md_items_65 hV hq16) ?_
      refine g_aload_n (pc := 148) dX12_readAll_148 rfl ?_
      refine g_dup (pc := 149) dX12_readAll_149 rfl ?_
      refine v_getI hV (pc := 150) dX12_readAll_150 fo_12_21 rfl k0_53 own_53 ?_
      refine g_iconst (v := 1) (pc := 153) dX12_readAll_153 (by decide) ?_
      refine g_iadd (pc := 154) dX12_readAll_154 ?_
      refine v_putI hV (pc := 155) dX12_readAll_155 fo_12_21 rfl k0_53 own_53 rfl ?_
      refine g_goto (tgt := 270) (pc := 158) dX12_readAll_158 (by decide) ?_
      refine g_wk [true, true, false, false] rfl ?_
      exact t_Md_readAll_270_L54 hV h hK
def Md_readAll_L54 (q : Int32 × Int32 × Sm) : Option ((Int32 × Int32 × Sm) ⊕ (Sm)) := (if q.2.1 = 0 then (some (.inr q.2.2)) else (if (gi q.2.2 53 4) = ((-1)) then ((Md_look q.2.2).bind fun q4 => (if q4.1 = 110 then (if q.1 = 0 then ((Md_items_64 q4.1 0 4 (si q4.2 53 3 ((gi q4.2 53 3) + 1))).bind fun q19 => (Md_readAll_270_L54 1 q19)) else (Md_readAll_107_L54 q.1 q4.1 q4.2)) else (Md_readAll_107_L54 q.1 q4.1 q4.2))) else (some (.inr q.2.2))))
set_option maxRecDepth 4000 in
theorem t_Md_readAll_L54 {V : Sm → Wd} (hV : VwT V) {l : Launch} {Γ : Gm} {rF : Option Value} {wF : Wd}  {q : Int32 × Int32 × Sm} {o : (Int32 × Int32 × Sm) ⊕ (Sm)} (h : Md_readAll_L54 q = some o) (hK : Sum.elim (hd_Md_readAll_L54 V l Γ rF wF) (ps_Md_readAll_L54 V l Γ rF wF) o) : hd_Md_readAll_L54 V l Γ rF wF q := by
  unfold Md_readAll_L54 at h
  unfold hd_Md_readAll_L54
  refine g_iload_n (pc := 54) dX12_readAll_54 rfl ?_
  refine g_if_eq (tgt := 314) (pc := 55) dX12_readAll_55 (by decide) (fun c23 => ?_) (fun c23 => ?_)
  · rw [if_pos c23] at h
    refine g_wk [true, false, false, false] rfl ?_
    cases h
    exact hK
  · rw [if_neg c23] at h
    refine g_aload_n (pc := 58) dX12_readAll_58 rfl ?_
    refine v_getI hV (pc := 59) dX12_readAll_59 fo_12_4 rfl k0_53 own_53 ?_
    refine g_iconst (v := (-1)) (pc := 62) dX12_readAll_62 (by decide) ?_
    refine g_icmp_ne (tgt := 314) (pc := 63) dX12_readAll_63 (by decide) (fun c22 => ?_) (fun c22 => ?_)
    · rw [if_neg c22] at h
      refine g_wk [true, false, false, false] rfl ?_
      cases h
      exact hK
    · rw [if_pos c22] at h
      refine g_aload_n (pc := 66) dX12_readAll_66 rfl ?_
      obtain ⟨q4, hq4, h⟩ := bnd h
      refine v_callVi hV (Mc := mX12_look) (v := q4.1) (S1 := q4.2) (As := []) (rest := []) (q := (RX12, TX12, 58)) (pc := 67) dX12_readAll_67 mK_X12_152 mf_X12_look rfl k0_53 rfl rfl rfl (Nat.le_of_ble_eq_true rfl) ⟨Nat.le_of_ble_eq_true rfl, Nat.le_of_ble_eq_true rfl⟩ (r_Md_look hV hq4) ?_
      refine g_istore_n (ls1 := [some (.ref 53), some (.int q.1), some (.int q.2.1), some (.int q4.1)]) (pc := 70) dX12_readAll_70 (by decide) rfl ?_
      refine g_iload_n (pc := 71) dX12_readAll_71 rfl ?_
      refine g_bipush (v := 110) (pc := 72) dX12_readAll_72 (by decide) ?_
      refine g_icmp_ne (tgt := 107) (pc := 74) dX12_readAll_74 (by decide) (fun c21 => ?_) (fun c21 => ?_)
      · rw [if_neg c21] at h
        refine g_wk [true, true, false, true] rfl ?_
        exact t_Md_readAll_107_L54 hV h hK
      · rw [if_pos c21] at h
        refine g_iload_n (pc := 77) dX12_readAll_77 rfl ?_
        refine g_if_ne (tgt := 107) (pc := 78) dX12_readAll_78 (by decide) (fun c20 => ?_) (fun c20 => ?_)
        · rw [if_neg c20] at h
          refine g_wk [true, true, false, true] rfl ?_
          exact t_Md_readAll_107_L54 hV h hK
        · rw [if_pos c20] at h
          refine g_iconst (v := 1) (pc := 81) dX12_readAll_81 (by decide) ?_
          refine g_istore_n (ls1 := [some (.ref 53), some (.int 1), some (.int q.2.1), some (.int q4.1)]) (pc := 82) dX12_readAll_82 (by decide) rfl ?_
          refine g_aload_n (pc := 83) dX12_readAll_83 rfl ?_
          refine g_dup (pc := 84) dX12_readAll_84 rfl ?_
          refine v_getI hV (pc := 85) dX12_readAll_85 fo_12_3 rfl k0_53 own_53 ?_
          refine g_iconst (v := 1) (pc := 88) dX12_readAll_88 (by decide) ?_
          refine g_iadd (pc := 89) dX12_readAll_89 ?_
          refine v_putI hV (pc := 90) dX12_readAll_90 fo_12_3 rfl k0_53 own_53 rfl ?_
          refine g_aload_n (pc := 93) dX12_readAll_93 rfl ?_
          refine g_iload_n (pc := 94) dX12_readAll_94 rfl ?_
          refine g_aload_n (pc := 95) dX12_readAll_95 rfl ?_
          refine v_getR hV (pc := 96) dX12_readAll_96 fo_12_17 rfl k0_53 r0_53_17 ?_
          refine g_iconst (v := 0) (pc := 99) dX12_readAll_99 (by decide) ?_
          refine g_iconst (v := 4) (pc := 100) dX12_readAll_100 (by decide) ?_
          obtain ⟨q19, hq19, h⟩ := bnd h
          refine v_callVv hV (Mc := mX12_items) (S1 := q19) (As := [.int q4.1, .ref 64, .int 0, .int 4]) (rest := []) (q := (RX12, TX12, 58)) (pc := 101) dX12_readAll_101 mK_X12_271 mf_X12_items rfl k0_53 rfl rfl rfl (Nat.le_of_ble_eq_true rfl) ⟨Nat.le_of_ble_eq_true rfl, Nat.le_of_ble_eq_true rfl⟩ (r_Md_items_64 hV hq19) ?_
          refine g_goto (tgt := 270) (pc := 104) dX12_readAll_104 (by decide) ?_
          refine g_wk [true, true, false, false] rfl ?_
          exact t_Md_readAll_270_L54 hV h hK
set_option maxRecDepth 4000 in
theorem w_Md_readAll_L54 {V : Sm → Wd} (hV : VwT V) {l : Launch} {Γ : Gm} {rF : Option Value} {wF : Wd}  {k : Nat} {q : Int32 × Int32 × Sm} {o : Sm} (h : lpN (Md_readAll_L54) k q = some o) (hP : ps_Md_readAll_L54 V l Γ rF wF o) : hd_Md_readAll_L54 V l Γ rF wF q := lpN_ind2 (hd_Md_readAll_L54 V l Γ rF wF) (ps_Md_readAll_L54 V l Γ rF wF) (fun s o h hK => t_Md_readAll_L54 hV h hK) k q o h hP
def Md_readAll_341 (S : Sm) : Option (Int32 × Sm) := (some ((gi S 53 4, S)))
set_option maxRecDepth 4000 in
theorem t_Md_readAll_341 {V : Sm → Wd} (hV : VwT V) {l : Launch} {Γ : Gm}  {S : Sm} {q : Int32 × Sm} (h : Md_readAll_341 S = some q) : G mX12_readAll l Γ (rmD 4 0 0) (mQ Γ (some (.int q.1)) (V q.2) 0 0) 0 0 341 [some (.ref 53), none, none, none] [] (V S) := by
  unfold Md_readAll_341 at h
  refine g_aload_n (pc := 341) dX12_readAll_341 rfl ?_
  refine v_getI hV (pc := 342) dX12_readAll_342 fo_12_4 rfl k0_53 own_53 ?_
  cases h
  exact g_iret (pc := 345) dX12_readAll_345 rfl rfl (Nat.le_refl _) (Nat.le_refl _)
def Md_readAll_337 (S : Sm) : Option (Int32 × Sm) := (app (Md_bad S) fun q26 => (Md_readAll_341 q26))
set_option maxRecDepth 4000 in
theorem t_Md_readAll_337 {V : Sm → Wd} (hV : VwT V) {l : Launch} {Γ : Gm}  {S : Sm} {q : Int32 × Sm} (h : Md_readAll_337 S = some q) : G mX12_readAll l Γ (rmD 4 0 0) (mQ Γ (some (.int q.1)) (V q.2) 0 0) 0 0 337 [some (.ref 53), none, none, none] [] (V S) := by
  unfold Md_readAll_337 at h
  refine g_aload_n (pc := 337) dX12_readAll_337 rfl ?_
  obtain ⟨q26, hq26, h⟩ := app_of h
  refine v_callVv hV (Mc := mX12_bad) (S1 := q26) (As := []) (rest := []) (q := (RX12, TX12, 58)) (pc := 338) dX12_readAll_338 mK_X12_149 mf_X12_bad rfl k0_53 rfl rfl rfl (Nat.le_of_ble_eq_true rfl) ⟨Nat.le_of_ble_eq_true rfl, Nat.le_of_ble_eq_true rfl⟩ (r_Md_bad hV hq26) ?_
  exact t_Md_readAll_341 hV h
def Md_readAll (S : Sm) : Option (Int32 × Sm) := ((lpN (Md_readAll_L29 0) FU (0, si (si (si (si (si S 53 3 0) 53 4 ((-1))) 53 21 0) 53 22 0) 53 23 0)).bind fun q3 => ((lpN (Md_readAll_L54) FU (0, 1, q3)).bind fun q24 => (if (gi q24 53 4) = ((-1)) then ((Md_look q24).bind fun q25 => (if q25.1 = ((-1)) then ((Md_isWhole q25.2).bind fun q27 => (if q27 = 0 then (Md_readAll_337 q25.2) else (Md_readAll_341 q25.2))) else (Md_readAll_337 q25.2))) else (Md_readAll_341 q24))))
set_option maxRecDepth 4000 in
theorem r_Md_readAll {V : Sm → Wd} (hV : VwT V)  {S : Sm} {q : Int32 × Sm} (h : Md_readAll S = some q) : Runs 4 mX12_readAll [.ref 53] (V S) (some (.int q.1)) (V q.2) 0 0 := by
  unfold Md_readAll at h
  refine Runs.of2 [some (.ref 53), none, none, none] 3 rfl rfl (Nat.le_of_ble_eq_true rfl) (fun l Γ => ?_)
  refine g_aload_n (pc := 0) dX12_readAll_0 rfl ?_
  refine g_iconst (v := 0) (pc := 1) dX12_readAll_1 (by decide) ?_
  refine v_putI hV (pc := 2) dX12_readAll_2 fo_12_3 rfl k0_53 own_53 rfl ?_
  refine g_aload_n (pc := 5) dX12_readAll_5 rfl ?_
  refine g_iconst (v := (-1)) (pc := 6) dX12_readAll_6 (by decide) ?_
  refine v_putI hV (pc := 7) dX12_readAll_7 fo_12_4 rfl k0_53 own_53 rfl ?_
  refine g_aload_n (pc := 10) dX12_readAll_10 rfl ?_
  refine g_iconst (v := 0) (pc := 11) dX12_readAll_11 (by decide) ?_
  refine v_putI hV (pc := 12) dX12_readAll_12 fo_12_21 rfl k0_53 own_53 rfl ?_
  refine g_aload_n (pc := 15) dX12_readAll_15 rfl ?_
  refine g_iconst (v := 0) (pc := 16) dX12_readAll_16 (by decide) ?_
  refine v_putI hV (pc := 17) dX12_readAll_17 fo_12_22 rfl k0_53 own_53 rfl ?_
  refine g_aload_n (pc := 20) dX12_readAll_20 rfl ?_
  refine g_iconst (v := 0) (pc := 21) dX12_readAll_21 (by decide) ?_
  refine v_putI hV (pc := 22) dX12_readAll_22 fo_12_23 rfl k0_53 own_53 rfl ?_
  refine g_iconst (v := 0) (pc := 25) dX12_readAll_25 (by decide) ?_
  refine g_istore_n (ls1 := [some (.ref 53), some (.int 0), none, none]) (pc := 26) dX12_readAll_26 (by decide) rfl ?_
  refine g_iconst (v := 0) (pc := 27) dX12_readAll_27 (by decide) ?_
  refine g_istore_n (ls1 := [some (.ref 53), some (.int 0), some (.int 0), none]) (pc := 28) dX12_readAll_28 (by decide) rfl ?_
  obtain ⟨q3, hqq3, h⟩ := bnd h
  refine w_Md_readAll_L29 hV hqq3 ?_
  unfold ps_Md_readAll_L29
  show G _ _ _ _ _ _ _ _ _ _ _
  refine g_iconst (v := 1) (pc := 52) dX12_readAll_52 (by decide) ?_
  refine g_istore_n (ls1 := [some (.ref 53), some (.int 0), some (.int 1), none]) (pc := 53) dX12_readAll_53 (by decide) rfl ?_
  obtain ⟨q24, hqq24, h⟩ := bnd h
  refine w_Md_readAll_L54 hV hqq24 ?_
  unfold ps_Md_readAll_L54
  show G _ _ _ _ _ _ _ _ _ _ _
  refine g_aload_n (pc := 314) dX12_readAll_314 rfl ?_
  refine v_getI hV (pc := 315) dX12_readAll_315 fo_12_4 rfl k0_53 own_53 ?_
  refine g_iconst (v := (-1)) (pc := 318) dX12_readAll_318 (by decide) ?_
  refine g_icmp_ne (tgt := 341) (pc := 319) dX12_readAll_319 (by decide) (fun c30 => ?_) (fun c30 => ?_)
  · rw [if_neg c30] at h
    exact t_Md_readAll_341 hV h
  · rw [if_pos c30] at h
    refine g_aload_n (pc := 322) dX12_readAll_322 rfl ?_
    obtain ⟨q25, hq25, h⟩ := bnd h
    refine v_callVi hV (Mc := mX12_look) (v := q25.1) (S1 := q25.2) (As := []) (rest := []) (q := (RX12, TX12, 58)) (pc := 323) dX12_readAll_323 mK_X12_152 mf_X12_look rfl k0_53 rfl rfl rfl (Nat.le_of_ble_eq_true rfl) ⟨Nat.le_of_ble_eq_true rfl, Nat.le_of_ble_eq_true rfl⟩ (r_Md_look hV hq25) ?_
    refine g_iconst (v := (-1)) (pc := 326) dX12_readAll_326 (by decide) ?_
    refine g_icmp_ne (tgt := 337) (pc := 327) dX12_readAll_327 (by decide) (fun c29 => ?_) (fun c29 => ?_)
    · rw [if_neg c29] at h
      exact t_Md_readAll_337 hV h
    · rw [if_pos c29] at h
      refine g_aload_n (pc := 330) dX12_readAll_330 rfl ?_
      obtain ⟨q27, hq27, h⟩ := bnd h
      refine v_callVi hV (Mc := mX12_isWhole) (v := q27) (S1 := q25.2) (As := []) (rest := []) (q := (RX12, TX12, 58)) (pc := 331) dX12_readAll_331 mK_X12_275 mf_X12_isWhole rfl k0_53 rfl rfl rfl (Nat.le_of_ble_eq_true rfl) ⟨Nat.le_of_ble_eq_true rfl, Nat.le_of_ble_eq_true rfl⟩ (r_Md_isWhole hV hq27) ?_
      refine g_if_ne (tgt := 341) (pc := 334) dX12_readAll_334 (by decide) (fun c28 => ?_) (fun c28 => ?_)
      · rw [if_neg c28] at h
        exact t_Md_readAll_341 hV h
      · rw [if_pos c28] at h
        exact t_Md_readAll_337 hV h
def Md_fault_26 (s0 : Int32) (S : Sm) : Option (Int32 × Sm) := (some ((s0, S)))
set_option maxRecDepth 4000 in
theorem t_Md_fault_26 {V : Sm → Wd} (hV : VwT V) {l : Launch} {Γ : Gm} {s0 : Int32} {S : Sm} {q : Int32 × Sm} (h : Md_fault_26 s0 S = some q) : G mX12_fault l Γ (rmD 86 0 0) (mQ Γ (some (.int q.1)) (V q.2) 0 0) 0 0 26 [none, none] [.int s0] (V S) := by
  unfold Md_fault_26 at h
  cases h
  exact g_iret (pc := 26) dX12_fault_26 rfl rfl (Nat.le_refl _) (Nat.le_refl _)
def Md_fault (v1 : Int32) (S : Sm) : Option (Int32 × Sm) := (if v1 = 0 then ((Md_readAll S).bind fun q3 => (Md_fault_26 q3.1 q3.2)) else (if v1 = 1 then ((Md_readLaw 4 S).bind fun q1 => (Md_fault_26 q1.1 q1.2)) else (Md_fault_26 ((-2)) S)))
set_option maxRecDepth 4000 in
theorem r_Md_fault {V : Sm → Wd} (hV : VwT V) {v1 : Int32} {S : Sm} {q : Int32 × Sm} (h : Md_fault v1 S = some q) : Runs 86 mX12_fault [.ref 53, .int v1] (V S) (some (.int q.1)) (V q.2) 0 0 := by
  unfold Md_fault at h
  refine Runs.of2 [some (.ref 53), some (.int v1)] 0 rfl rfl (Nat.le_of_ble_eq_true rfl) (fun l Γ => ?_)
  refine g_iload_n (pc := 0) dX12_fault_0 rfl ?_
  refine g_if_ne (tgt := 11) (pc := 1) dX12_fault_1 (by decide) (fun c4 => ?_) (fun c4 => ?_)
  · rw [if_neg c4] at h
    refine g_iload_n (pc := 11) dX12_fault_11 rfl ?_
    refine g_iconst (v := 1) (pc := 12) dX12_fault_12 (by decide) ?_
    refine g_icmp_ne (tgt := 24) (pc := 13) dX12_fault_13 (by decide) (fun c2 => ?_) (fun c2 => ?_)
    · rw [if_neg c2] at h
      refine g_bipush (v := (-2)) (pc := 24) dX12_fault_24 (by decide) ?_
      refine g_wk [false, false] rfl ?_
      exact t_Md_fault_26 hV h
    · rw [if_pos c2] at h
      refine g_aload_n (pc := 16) dX12_fault_16 rfl ?_
      refine g_iconst (v := 4) (pc := 17) dX12_fault_17 (by decide) ?_
      obtain ⟨q1, hq1, h⟩ := bnd h
      refine v_callVi hV (Mc := mX12_readLaw) (v := q1.1) (S1 := q1.2) (As := [.int 4]) (rest := []) (q := (RX12, TX12, 58)) (pc := 18) dX12_fault_18 mK_X12_282 mf_X12_readLaw rfl k0_53 rfl rfl rfl (Nat.le_of_ble_eq_true rfl) ⟨Nat.le_of_ble_eq_true rfl, Nat.le_of_ble_eq_true rfl⟩ (r_Md_readLaw hV hq1) ?_
      refine g_goto (tgt := 26) (pc := 21) dX12_fault_21 (by decide) ?_
      refine g_wk [false, false] rfl ?_
      exact t_Md_fault_26 hV h
  · rw [if_pos c4] at h
    refine g_aload_n (pc := 4) dX12_fault_4 rfl ?_
    obtain ⟨q3, hq3, h⟩ := bnd h
    refine v_callVi hV (Mc := mX12_readAll) (v := q3.1) (S1 := q3.2) (As := []) (rest := []) (q := (RX12, TX12, 58)) (pc := 5) dX12_fault_5 mK_X12_279 mf_X12_readAll rfl k0_53 rfl rfl rfl (Nat.le_of_ble_eq_true rfl) ⟨Nat.le_of_ble_eq_true rfl, Nat.le_of_ble_eq_true rfl⟩ (r_Md_readAll hV hq3) ?_
    refine g_goto (tgt := 26) (pc := 8) dX12_fault_8 (by decide) ?_
    refine g_wk [false, false] rfl ?_
    exact t_Md_fault_26 hV h
def hd_Md_takeTunnels_L7 (V : Sm → Wd) (l : Launch) (Γ : Gm) (rF : Option Value) (wF : Wd)  (q : Int32 × Sm) : Prop := G mX12_takeTunnels l Γ (rmD 0 0 0) (mQ Γ rF wF 0 0) 0 0 7 [some (.ref 53), some (.int q.1), none, none] [] (V q.2)
def ps_Md_takeTunnels_L7 (V : Sm → Wd) (l : Launch) (Γ : Gm) (rF : Option Value) (wF : Wd)  (x : Sm) : Prop := (fun (a : Sm) => G mX12_takeTunnels l Γ (rmD 0 0 0) (mQ Γ rF wF 0 0) 0 0 38 [some (.ref 53), none, none, none] [] (V a)) x
def Md_takeTunnels_L7 (q : Int32 × Sm) : Option ((Int32 × Sm) ⊕ (Sm)) := (if (40 : Int32) ≤ q.1 then (some (.inr q.2)) else (if inb (0 + q.1) 320 then (if inb (40 + q.1) 320 then (some (.inl (q.1 + 1, si (si q.2 70 (ix (0 + q.1)) ((-1))) 70 (ix (40 + q.1)) 1))) else none) else none))
set_option maxRecDepth 4000 in
theorem t_Md_takeTunnels_L7 {V : Sm → Wd} (hV : VwT V) {l : Launch} {Γ : Gm} {rF : Option Value} {wF : Wd}  {q : Int32 × Sm} {o : (Int32 × Sm) ⊕ (Sm)} (h : Md_takeTunnels_L7 q = some o) (hK : Sum.elim (hd_Md_takeTunnels_L7 V l Γ rF wF) (ps_Md_takeTunnels_L7 V l Γ rF wF) o) : hd_Md_takeTunnels_L7 V l Γ rF wF q := by
  unfold Md_takeTunnels_L7 at h
  unfold hd_Md_takeTunnels_L7
  refine g_iload_n (pc := 7) dX12_takeTunnels_7 rfl ?_
  refine g_bipush (v := 40) (pc := 8) dX12_takeTunnels_8 (by decide) ?_
  refine g_icmp_ge (tgt := 38) (pc := 10) dX12_takeTunnels_10 (by decide) (fun c3 => ?_) (fun c3 => ?_)
  · rw [if_pos c3] at h
    refine g_wk [true, false, false, false] rfl ?_
    cases h
    exact hK
  · rw [if_neg c3] at h
    refine g_aload_n (pc := 13) dX12_takeTunnels_13 rfl ?_
    refine v_getR hV (pc := 14) dX12_takeTunnels_14 fo_12_27 rfl k0_53 r0_53_27 ?_
    refine g_iconst (v := 0) (pc := 17) dX12_takeTunnels_17 (by decide) ?_
    refine g_iload_n (pc := 18) dX12_takeTunnels_18 rfl ?_
    refine g_iadd (pc := 19) dX12_takeTunnels_19 ?_
    refine g_iconst (v := (-1)) (pc := 20) dX12_takeTunnels_20 (by decide) ?_
    by_cases c1 : inb (0 + q.1) 320
    · rw [if_pos c1] at h
      refine v_iast hV (pc := 21) dX12_takeTunnels_21 k0_70 own_70 c1 ?_
      refine g_aload_n (pc := 22) dX12_takeTunnels_22 rfl ?_
      refine v_getR hV (pc := 23) dX12_takeTunnels_23 fo_12_27 rfl k0_53 r0_53_27 ?_
      refine g_bipush (v := 40) (pc := 26) dX12_takeTunnels_26 (by decide) ?_
      refine g_iload_n (pc := 28) dX12_takeTunnels_28 rfl ?_
      refine g_iadd (pc := 29) dX12_takeTunnels_29 ?_
      refine g_iconst (v := 1) (pc := 30) dX12_takeTunnels_30 (by decide) ?_
      by_cases c2 : inb (40 + q.1) 320
      · rw [if_pos c2] at h
        refine v_iast hV (pc := 31) dX12_takeTunnels_31 k0_70 own_70 c2 ?_
        refine g_iinc (v := q.1 + 1) (ls1 := [some (.ref 53), some (.int (q.1 + 1)), none, none]) (pc := 32) dX12_takeTunnels_32 rfl rfl (by decide) rfl ?_
        refine g_goto (tgt := 7) (pc := 35) dX12_takeTunnels_35 (by decide) ?_
        cases h
        exact hK
      · rw [if_neg c2] at h; cases h
    · rw [if_neg c1] at h; cases h
set_option maxRecDepth 4000 in
theorem w_Md_takeTunnels_L7 {V : Sm → Wd} (hV : VwT V) {l : Launch} {Γ : Gm} {rF : Option Value} {wF : Wd}  {k : Nat} {q : Int32 × Sm} {o : Sm} (h : lpN (Md_takeTunnels_L7) k q = some o) (hP : ps_Md_takeTunnels_L7 V l Γ rF wF o) : hd_Md_takeTunnels_L7 V l Γ rF wF q := lpN_ind2 (hd_Md_takeTunnels_L7 V l Γ rF wF) (ps_Md_takeTunnels_L7 V l Γ rF wF) (fun s o h hK => t_Md_takeTunnels_L7 hV h hK) k q o h hP
def hd_Md_takeTunnels_L40 (V : Sm → Wd) (l : Launch) (Γ : Gm) (rF : Option Value) (wF : Wd)  (q : Int32 × Sm) : Prop := G mX12_takeTunnels l Γ (rmD 0 0 0) (mQ Γ rF wF 0 0) 0 0 40 [some (.ref 53), some (.int q.1), none, none] [] (V q.2)
def ps_Md_takeTunnels_L40 (V : Sm → Wd) (l : Launch) (Γ : Gm) (rF : Option Value) (wF : Wd)  (x : Sm) : Prop := (fun (a : Sm) => G mX12_takeTunnels l Γ (rmD 0 0 0) (mQ Γ rF wF 0 0) 0 0 178 [none, none, none, none] [] (V a)) x
def Md_takeTunnels_172_L40 (v1 : Int32) (S : Sm) : Option ((Int32 × Sm) ⊕ (Sm)) := (some (.inl (v1 + 1, S)))
set_option maxRecDepth 4000 in
theorem t_Md_takeTunnels_172_L40 {V : Sm → Wd} (hV : VwT V) {l : Launch} {Γ : Gm} {v1 : Int32} {rF : Option Value} {wF : Wd} {S : Sm} {o : (Int32 × Sm) ⊕ (Sm)} (h : Md_takeTunnels_172_L40 v1 S = some o) (hK : Sum.elim (hd_Md_takeTunnels_L40 V l Γ rF wF) (ps_Md_takeTunnels_L40 V l Γ rF wF) o) : G mX12_takeTunnels l Γ (rmD 0 0 0) (mQ Γ rF wF 0 0) 0 0 172 [some (.ref 53), some (.int v1), none, none] [] (V S) := by
  unfold Md_takeTunnels_172_L40 at h
  refine g_iinc (v := v1 + 1) (ls1 := [some (.ref 53), some (.int (v1 + 1)), none, none]) (pc := 172) dX12_takeTunnels_172 rfl rfl (by decide) rfl ?_
  refine g_goto (tgt := 40) (pc := 175) dX12_takeTunnels_175 (by decide) ?_
  cases h
  exact hK
def Md_takeTunnels_100_L40 (v1 : Int32) (v2 : Int32) (v3 : Int32) (s1 : Int32) (s2 : Int32) (S : Sm) : Option ((Int32 × Sm) ⊕ (Sm)) := (if inb s1 320 then (if inb ((4 * v1) + 3) 72 then (if inb (40 + v2) 320 then (if v3 = 8 then (if inb (4 * v1) 72 then (if inb (gi (si (si S 70 (ix s1) s2) 70 (ix (40 + v2)) (gi (si S 70 (ix s1) s2) 65 (ix ((4 * v1) + 3)))) 53 30) 4 then (if inb ((4 * v1) + 1) 72 then (if inb (gi (si (si (si S 70 (ix s1) s2) 70 (ix (40 + v2)) (gi (si S 70 (ix s1) s2) 65 (ix ((4 * v1) + 3)))) 71 (ix (gi (si (si S 70 (ix s1) s2) 70 (ix (40 + v2)) (gi (si S 70 (ix s1) s2) 65 (ix ((4 * v1) + 3)))) 53 30)) (gi (si (si S 70 (ix s1) s2) 70 (ix (40 + v2)) (gi (si S 70 (ix s1) s2) 65 (ix ((4 * v1) + 3)))) 65 (ix (4 * v1)))) 53 30) 4 then (Md_takeTunnels_172_L40 v1 (si (si (si (si (si S 70 (ix s1) s2) 70 (ix (40 + v2)) (gi (si S 70 (ix s1) s2) 65 (ix ((4 * v1) + 3)))) 71 (ix (gi (si (si S 70 (ix s1) s2) 70 (ix (40 + v2)) (gi (si S 70 (ix s1) s2) 65 (ix ((4 * v1) + 3)))) 53 30)) (gi (si (si S 70 (ix s1) s2) 70 (ix (40 + v2)) (gi (si S 70 (ix s1) s2) 65 (ix ((4 * v1) + 3)))) 65 (ix (4 * v1)))) 72 (ix (gi (si (si (si S 70 (ix s1) s2) 70 (ix (40 + v2)) (gi (si S 70 (ix s1) s2) 65 (ix ((4 * v1) + 3)))) 71 (ix (gi (si (si S 70 (ix s1) s2) 70 (ix (40 + v2)) (gi (si S 70 (ix s1) s2) 65 (ix ((4 * v1) + 3)))) 53 30)) (gi (si (si S 70 (ix s1) s2) 70 (ix (40 + v2)) (gi (si S 70 (ix s1) s2) 65 (ix ((4 * v1) + 3)))) 65 (ix (4 * v1)))) 53 30)) (gi (si (si (si S 70 (ix s1) s2) 70 (ix (40 + v2)) (gi (si S 70 (ix s1) s2) 65 (ix ((4 * v1) + 3)))) 71 (ix (gi (si (si S 70 (ix s1) s2) 70 (ix (40 + v2)) (gi (si S 70 (ix s1) s2) 65 (ix ((4 * v1) + 3)))) 53 30)) (gi (si (si S 70 (ix s1) s2) 70 (ix (40 + v2)) (gi (si S 70 (ix s1) s2) 65 (ix ((4 * v1) + 3)))) 65 (ix (4 * v1)))) 65 (ix ((4 * v1) + 1)))) 53 30 ((gi (si (si (si (si S 70 (ix s1) s2) 70 (ix (40 + v2)) (gi (si S 70 (ix s1) s2) 65 (ix ((4 * v1) + 3)))) 71 (ix (gi (si (si S 70 (ix s1) s2) 70 (ix (40 + v2)) (gi (si S 70 (ix s1) s2) 65 (ix ((4 * v1) + 3)))) 53 30)) (gi (si (si S 70 (ix s1) s2) 70 (ix (40 + v2)) (gi (si S 70 (ix s1) s2) 65 (ix ((4 * v1) + 3)))) 65 (ix (4 * v1)))) 72 (ix (gi (si (si (si S 70 (ix s1) s2) 70 (ix (40 + v2)) (gi (si S 70 (ix s1) s2) 65 (ix ((4 * v1) + 3)))) 71 (ix (gi (si (si S 70 (ix s1) s2) 70 (ix (40 + v2)) (gi (si S 70 (ix s1) s2) 65 (ix ((4 * v1) + 3)))) 53 30)) (gi (si (si S 70 (ix s1) s2) 70 (ix (40 + v2)) (gi (si S 70 (ix s1) s2) 65 (ix ((4 * v1) + 3)))) 65 (ix (4 * v1)))) 53 30)) (gi (si (si (si S 70 (ix s1) s2) 70 (ix (40 + v2)) (gi (si S 70 (ix s1) s2) 65 (ix ((4 * v1) + 3)))) 71 (ix (gi (si (si S 70 (ix s1) s2) 70 (ix (40 + v2)) (gi (si S 70 (ix s1) s2) 65 (ix ((4 * v1) + 3)))) 53 30)) (gi (si (si S 70 (ix s1) s2) 70 (ix (40 + v2)) (gi (si S 70 (ix s1) s2) 65 (ix ((4 * v1) + 3)))) 65 (ix (4 * v1)))) 65 (ix ((4 * v1) + 1)))) 53 30) + 1))) else none) else none) else none) else none) else (Md_takeTunnels_172_L40 v1 (si (si S 70 (ix s1) s2) 70 (ix (40 + v2)) (gi (si S 70 (ix s1) s2) 65 (ix ((4 * v1) + 3)))))) else none) else none) else none)
set_option maxRecDepth 4000 in
theorem t_Md_takeTunnels_100_L40 {V : Sm → Wd} (hV : VwT V) {l : Launch} {Γ : Gm} {v1 : Int32} {v2 : Int32} {v3 : Int32} {s1 : Int32} {s2 : Int32} {rF : Option Value} {wF : Wd} {S : Sm} {o : (Int32 × Sm) ⊕ (Sm)} (h : Md_takeTunnels_100_L40 v1 v2 v3 s1 s2 S = some o) (hK : Sum.elim (hd_Md_takeTunnels_L40 V l Γ rF wF) (ps_Md_takeTunnels_L40 V l Γ rF wF) o) : G mX12_takeTunnels l Γ (rmD 0 0 0) (mQ Γ rF wF 0 0) 0 0 100 [some (.ref 53), some (.int v1), some (.int v2), some (.int v3)] [.int s2, .int s1, .ref 70] (V S) := by
  unfold Md_takeTunnels_100_L40 at h
  by_cases c8 : inb s1 320
  · rw [if_pos c8] at h
    refine v_iast hV (pc := 100) dX12_takeTunnels_100 k0_70 own_70 c8 ?_
    refine g_aload_n (pc := 101) dX12_takeTunnels_101 rfl ?_
    refine v_getR hV (pc := 102) dX12_takeTunnels_102 fo_12_27 rfl k0_53 r0_53_27 ?_
    refine g_bipush (v := 40) (pc := 105) dX12_takeTunnels_105 (by decide) ?_
    refine g_iload_n (pc := 107) dX12_takeTunnels_107 rfl ?_
    refine g_iadd (pc := 108) dX12_takeTunnels_108 ?_
    refine g_aload_n (pc := 109) dX12_takeTunnels_109 rfl ?_
    refine v_getR hV (pc := 110) dX12_takeTunnels_110 fo_12_18 rfl k0_53 r0_53_18 ?_
    refine g_iconst (v := 4) (pc := 113) dX12_takeTunnels_113 (by decide) ?_
    refine g_iload_n (pc := 114) dX12_takeTunnels_114 rfl ?_
    refine g_imul (pc := 115) dX12_takeTunnels_115 ?_
    refine g_iconst (v := 3) (pc := 116) dX12_takeTunnels_116 (by decide) ?_
    refine g_iadd (pc := 117) dX12_takeTunnels_117 ?_
    by_cases c9 : inb ((4 * v1) + 3) 72
    · rw [if_pos c9] at h
      refine v_iald hV (pc := 118) dX12_takeTunnels_118 k0_65 own_65 c9 ?_
      by_cases c10 : inb (40 + v2) 320
      · rw [if_pos c10] at h
        refine v_iast hV (pc := 119) dX12_takeTunnels_119 k0_70 own_70 c10 ?_
        refine g_iload_n (pc := 120) dX12_takeTunnels_120 rfl ?_
        refine g_bipush (v := 8) (pc := 121) dX12_takeTunnels_121 (by decide) ?_
        refine g_icmp_ne (tgt := 172) (pc := 123) dX12_takeTunnels_123 (by decide) (fun c15 => ?_) (fun c15 => ?_)
        · rw [if_neg c15] at h
          refine g_wk [true, true, false, false] rfl ?_
          exact t_Md_takeTunnels_172_L40 hV h hK
        · rw [if_pos c15] at h
          refine g_aload_n (pc := 126) dX12_takeTunnels_126 rfl ?_
          refine v_getR hV (pc := 127) dX12_takeTunnels_127 fo_12_28 rfl k0_53 r0_53_28 ?_
          refine g_aload_n (pc := 130) dX12_takeTunnels_130 rfl ?_
          refine v_getI hV (pc := 131) dX12_takeTunnels_131 fo_12_30 rfl k0_53 own_53 ?_
          refine g_aload_n (pc := 134) dX12_takeTunnels_134 rfl ?_
          refine v_getR hV (pc := 135) dX12_takeTunnels_135 fo_12_18 rfl k0_53 r0_53_18 ?_
          refine g_iconst (v := 4) (pc := 138) dX12_takeTunnels_138 (by decide) ?_
          refine g_iload_n (pc := 139) dX12_takeTunnels_139 rfl ?_
          refine g_imul (pc := 140) dX12_takeTunnels_140 ?_
          by_cases c11 : inb (4 * v1) 72
          · rw [if_pos c11] at h
            refine v_iald hV (pc := 141) dX12_takeTunnels_141 k0_65 own_65 c11 ?_
            by_cases c12 : inb (gi (si (si S 70 (ix s1) s2) 70 (ix (40 + v2)) (gi (si S 70 (ix s1) s2) 65 (ix ((4 * v1) + 3)))) 53 30) 4
            · rw [if_pos c12] at h
              refine v_iast hV (pc := 142) dX12_takeTunnels_142 k0_71 own_71 c12 ?_
              refine g_aload_n (pc := 143) dX12_takeTunnels_143 rfl ?_
              refine v_getR hV (pc := 144) dX12_takeTunnels_144 fo_12_29 rfl k0_53 r0_53_29 ?_
              refine g_aload_n (pc := 147) dX12_takeTunnels_147 rfl ?_
              refine v_getI hV (pc := 148) dX12_takeTunnels_148 fo_12_30 rfl k0_53 own_53 ?_
              refine g_aload_n (pc := 151) dX12_takeTunnels_151 rfl ?_
              refine v_getR hV (pc := 152) dX12_takeTunnels_152 fo_12_18 rfl k0_53 r0_53_18 ?_
              refine g_iconst (v := 4) (pc := 155) dX12_takeTunnels_155 (by decide) ?_
              refine g_iload_n (pc := 156) dX12_takeTunnels_156 rfl ?_
              refine g_imul (pc := 157) dX12_takeTunnels_157 ?_
              refine g_iconst (v := 1) (pc := 158) dX12_takeTunnels_158 (by decide) ?_
              refine g_iadd (pc := 159) dX12_takeTunnels_159 ?_
              by_cases c13 : inb ((4 * v1) + 1) 72
              · rw [if_pos c13] at h
                refine v_iald hV (pc := 160) dX12_takeTunnels_160 k0_65 own_65 c13 ?_
                by_cases c14 : inb (gi (si (si (si S 70 (ix s1) s2) 70 (ix (40 + v2)) (gi (si S 70 (ix s1) s2) 65 (ix ((4 * v1) + 3)))) 71 (ix (gi (si (si S 70 (ix s1) s2) 70 (ix (40 + v2)) (gi (si S 70 (ix s1) s2) 65 (ix ((4 * v1) + 3)))) 53 30)) (gi (si (si S 70 (ix s1) s2) 70 (ix (40 + v2)) (gi (si S 70 (ix s1) s2) 65 (ix ((4 * v1) + 3)))) 65 (ix (4 * v1)))) 53 30) 4
                · rw [if_pos c14] at h
                  refine v_iast hV (pc := 161) dX12_takeTunnels_161 k0_72 own_72 c14 ?_
                  refine g_aload_n (pc := 162) dX12_takeTunnels_162 rfl ?_
                  refine g_dup (pc := 163) dX12_takeTunnels_163 rfl ?_
                  refine v_getI hV (pc := 164) dX12_takeTunnels_164 fo_12_30 rfl k0_53 own_53 ?_
                  refine g_iconst (v := 1) (pc := 167) dX12_takeTunnels_167 (by decide) ?_
                  refine g_iadd (pc := 168) dX12_takeTunnels_168 ?_
                  refine v_putI hV (pc := 169) dX12_takeTunnels_169 fo_12_30 rfl k0_53 own_53 rfl ?_
                  refine g_wk [true, true, false, false] rfl ?_
                  exact t_Md_takeTunnels_172_L40 hV h hK
                · rw [if_neg c14] at h; cases h
              · rw [if_neg c13] at h; cases h
            · rw [if_neg c12] at h; cases h
          · rw [if_neg c11] at h; cases h
      · rw [if_neg c10] at h; cases h
    · rw [if_neg c9] at h; cases h
  · rw [if_neg c8] at h; cases h
def Md_takeTunnels_L40 (q : Int32 × Sm) : Option ((Int32 × Sm) ⊕ (Sm)) := (if (gi q.2 53 21) ≤ q.1 then (some (.inr q.2)) else (if inb (4 * q.1) 72 then (if inb ((4 * q.1) + 1) 72 then (if inb ((4 * q.1) + 2) 72 then (if (gi q.2 65 (ix ((4 * q.1) + 2))) = 8 then (Md_takeTunnels_100_L40 q.1 ((5 * (gi q.2 65 (ix (4 * q.1)))) + (gi q.2 65 (ix ((4 * q.1) + 1)))) (gi q.2 65 (ix ((4 * q.1) + 2))) (0 + ((5 * (gi q.2 65 (ix (4 * q.1)))) + (gi q.2 65 (ix ((4 * q.1) + 1))))) ((-2)) q.2) else (Md_takeTunnels_100_L40 q.1 ((5 * (gi q.2 65 (ix (4 * q.1)))) + (gi q.2 65 (ix ((4 * q.1) + 1)))) (gi q.2 65 (ix ((4 * q.1) + 2))) (0 + ((5 * (gi q.2 65 (ix (4 * q.1)))) + (gi q.2 65 (ix ((4 * q.1) + 1))))) (gi q.2 65 (ix ((4 * q.1) + 2))) q.2)) else none) else none) else none))
set_option maxRecDepth 4000 in
theorem t_Md_takeTunnels_L40 {V : Sm → Wd} (hV : VwT V) {l : Launch} {Γ : Gm} {rF : Option Value} {wF : Wd}  {q : Int32 × Sm} {o : (Int32 × Sm) ⊕ (Sm)} (h : Md_takeTunnels_L40 q = some o) (hK : Sum.elim (hd_Md_takeTunnels_L40 V l Γ rF wF) (ps_Md_takeTunnels_L40 V l Γ rF wF) o) : hd_Md_takeTunnels_L40 V l Γ rF wF q := by
  unfold Md_takeTunnels_L40 at h
  unfold hd_Md_takeTunnels_L40
  refine g_iload_n (pc := 40) dX12_takeTunnels_40 rfl ?_
  refine g_aload_n (pc := 41) dX12_takeTunnels_41 rfl ?_
  refine v_getI hV (pc := 42) dX12_takeTunnels_42 fo_12_21 rfl k0_53 own_53 ?_
  refine g_icmp_ge (tgt := 178) (pc := 45) dX12_takeTunnels_45 (by decide) (fun c17 => ?_) (fun c17 => ?_)
  · rw [if_pos c17] at h
    refine g_wk [false, false, false, false] rfl ?_
    cases h
    exact hK
  · rw [if_neg c17] at h
    refine g_iconst (v := 5) (pc := 48) dX12_takeTunnels_48 (by decide) ?_
    refine g_aload_n (pc := 49) dX12_takeTunnels_49 rfl ?_
    refine v_getR hV (pc := 50) dX12_takeTunnels_50 fo_12_18 rfl k0_53 r0_53_18 ?_
    refine g_iconst (v := 4) (pc := 53) dX12_takeTunnels_53 (by decide) ?_
    refine g_iload_n (pc := 54) dX12_takeTunnels_54 rfl ?_
    refine g_imul (pc := 55) dX12_takeTunnels_55 ?_
    by_cases c5 : inb (4 * q.1) 72
    · rw [if_pos c5] at h
      refine v_iald hV (pc := 56) dX12_takeTunnels_56 k0_65 own_65 c5 ?_
      refine g_imul (pc := 57) dX12_takeTunnels_57 ?_
      refine g_aload_n (pc := 58) dX12_takeTunnels_58 rfl ?_
      refine v_getR hV (pc := 59) dX12_takeTunnels_59 fo_12_18 rfl k0_53 r0_53_18 ?_
      refine g_iconst (v := 4) (pc := 62) dX12_takeTunnels_62 (by decide) ?_
      refine g_iload_n (pc := 63) dX12_takeTunnels_63 rfl ?_
      refine g_imul (pc := 64) dX12_takeTunnels_64 ?_
      refine g_iconst (v := 1) (pc := 65) dX12_takeTunnels_65 (by decide) ?_
      refine g_iadd (pc := 66) dX12_takeTunnels_66 ?_
      by_cases c6 : inb ((4 * q.1) + 1) 72
      · rw [if_pos c6] at h
        refine v_iald hV (pc := 67) dX12_takeTunnels_67 k0_65 own_65 c6 ?_
        refine g_iadd (pc := 68) dX12_takeTunnels_68 ?_
        refine g_istore_n (ls1 := [some (.ref 53), some (.int q.1), some (.int ((5 * (gi q.2 65 (ix (4 * q.1)))) + (gi q.2 65 (ix ((4 * q.1) + 1))))), none]) (pc := 69) dX12_takeTunnels_69 (by decide) rfl ?_
        refine g_aload_n (pc := 70) dX12_takeTunnels_70 rfl ?_
        refine v_getR hV (pc := 71) dX12_takeTunnels_71 fo_12_18 rfl k0_53 r0_53_18 ?_
        refine g_iconst (v := 4) (pc := 74) dX12_takeTunnels_74 (by decide) ?_
        refine g_iload_n (pc := 75) dX12_takeTunnels_75 rfl ?_
        refine g_imul (pc := 76) dX12_takeTunnels_76 ?_
        refine g_iconst (v := 2) (pc := 77) dX12_takeTunnels_77 (by decide) ?_
        refine g_iadd (pc := 78) dX12_takeTunnels_78 ?_
        by_cases c7 : inb ((4 * q.1) + 2) 72
        · rw [if_pos c7] at h
          refine v_iald hV (pc := 79) dX12_takeTunnels_79 k0_65 own_65 c7 ?_
          refine g_istore_n (ls1 := [some (.ref 53), some (.int q.1), some (.int ((5 * (gi q.2 65 (ix (4 * q.1)))) + (gi q.2 65 (ix ((4 * q.1) + 1))))), some (.int (gi q.2 65 (ix ((4 * q.1) + 2))))]) (pc := 80) dX12_takeTunnels_80 (by decide) rfl ?_
          refine g_aload_n (pc := 81) dX12_takeTunnels_81 rfl ?_
          refine v_getR hV (pc := 82) dX12_takeTunnels_82 fo_12_27 rfl k0_53 r0_53_27 ?_
          refine g_iconst (v := 0) (pc := 85) dX12_takeTunnels_85 (by decide) ?_
          refine g_iload_n (pc := 86) dX12_takeTunnels_86 rfl ?_
          refine g_iadd (pc := 87) dX12_takeTunnels_87 ?_
          refine g_iload_n (pc := 88) dX12_takeTunnels_88 rfl ?_
          refine g_bipush (v := 8) (pc := 89) dX12_takeTunnels_89 (by decide) ?_
          refine g_icmp_ne (tgt := 99) (pc := 91) dX12_takeTunnels_91 (by decide) (fun c16 => ?_) (fun c16 => ?_)
          · rw [if_neg c16] at h
            refine g_iload_n (pc := 99) dX12_takeTunnels_99 rfl ?_
            exact t_Md_takeTunnels_100_L40 hV h hK
          · rw [if_pos c16] at h
            refine g_bipush (v := (-2)) (pc := 94) dX12_takeTunnels_94 (by decide) ?_
            refine g_goto (tgt := 100) (pc := 96) dX12_takeTunnels_96 (by decide) ?_
            exact t_Md_takeTunnels_100_L40 hV h hK
        · rw [if_neg c7] at h; cases h
      · rw [if_neg c6] at h; cases h
    · rw [if_neg c5] at h; cases h
set_option maxRecDepth 4000 in
theorem w_Md_takeTunnels_L40 {V : Sm → Wd} (hV : VwT V) {l : Launch} {Γ : Gm} {rF : Option Value} {wF : Wd}  {k : Nat} {q : Int32 × Sm} {o : Sm} (h : lpN (Md_takeTunnels_L40) k q = some o) (hP : ps_Md_takeTunnels_L40 V l Γ rF wF o) : hd_Md_takeTunnels_L40 V l Γ rF wF q := lpN_ind2 (hd_Md_takeTunnels_L40 V l Γ rF wF) (ps_Md_takeTunnels_L40 V l Γ rF wF) (fun s o h hK => t_Md_takeTunnels_L40 hV h hK) k q o h hP
def Md_takeTunnels (S : Sm) : Option (Sm) := ((lpN (Md_takeTunnels_L7) FU (0, si S 53 30 0)).bind fun q4 => ((lpN (Md_takeTunnels_L40) FU (0, q4)).bind fun q18 => (some q18)))
set_option maxRecDepth 4000 in
theorem r_Md_takeTunnels {V : Sm → Wd} (hV : VwT V)  {S : Sm} {q : Sm} (h : Md_takeTunnels S = some q) : Runs 0 mX12_takeTunnels [.ref 53] (V S) none (V q) 0 0 := by
  unfold Md_takeTunnels at h
  refine Runs.of2 [some (.ref 53), none, none, none] 3 rfl rfl (Nat.le_of_ble_eq_true rfl) (fun l Γ => ?_)
  refine g_aload_n (pc := 0) dX12_takeTunnels_0 rfl ?_
  refine g_iconst (v := 0) (pc := 1) dX12_takeTunnels_1 (by decide) ?_
  refine v_putI hV (pc := 2) dX12_takeTunnels_2 fo_12_30 rfl k0_53 own_53 rfl ?_
  refine g_iconst (v := 0) (pc := 5) dX12_takeTunnels_5 (by decide) ?_
  refine g_istore_n (ls1 := [some (.ref 53), some (.int 0), none, none]) (pc := 6) dX12_takeTunnels_6 (by decide) rfl ?_
  obtain ⟨q4, hqq4, h⟩ := bnd h
  refine w_Md_takeTunnels_L7 hV hqq4 ?_
  unfold ps_Md_takeTunnels_L7
  show G _ _ _ _ _ _ _ _ _ _ _
  refine g_iconst (v := 0) (pc := 38) dX12_takeTunnels_38 (by decide) ?_
  refine g_istore_n (ls1 := [some (.ref 53), some (.int 0), none, none]) (pc := 39) dX12_takeTunnels_39 (by decide) rfl ?_
  obtain ⟨q18, hqq18, h⟩ := bnd h
  refine w_Md_takeTunnels_L40 hV hqq18 ?_
  unfold ps_Md_takeTunnels_L40
  show G _ _ _ _ _ _ _ _ _ _ _
  cases h
  exact g_vret (pc := 178) dX12_takeTunnels_178 rfl (Nat.le_refl _) (Nat.le_refl _)
def Md_put_ (v1 : Int32) (v2 : Int32) (v3 : Int32) (S : Sm) : Option (Sm) := (if inb ((88 + (6 * v1)) + v2) 320 then (some (si S 70 (ix ((88 + (6 * v1)) + v2)) v3)) else none)
set_option maxRecDepth 4000 in
theorem r_Md_put_ {V : Sm → Wd} (hV : VwT V) {v1 : Int32} {v2 : Int32} {v3 : Int32} {S : Sm} {q : Sm} (h : Md_put_ v1 v2 v3 S = some q) : Runs 0 mX12_put_ [.ref 53, .int v1, .int v2, .int v3] (V S) none (V q) 0 0 := by
  unfold Md_put_ at h
  refine Runs.of2 [some (.ref 53), some (.int v1), some (.int v2), some (.int v3)] 0 rfl rfl (Nat.le_of_ble_eq_true rfl) (fun l Γ => ?_)
  refine g_aload_n (pc := 0) dX12_put__0 rfl ?_
  refine v_getR hV (pc := 1) dX12_put__1 fo_12_27 rfl k0_53 r0_53_27 ?_
  refine g_bipush (v := 88) (pc := 4) dX12_put__4 (by decide) ?_
  refine g_bipush (v := 6) (pc := 6) dX12_put__6 (by decide) ?_
  refine g_iload_n (pc := 8) dX12_put__8 rfl ?_
  refine g_imul (pc := 9) dX12_put__9 ?_
  refine g_iadd (pc := 10) dX12_put__10 ?_
  refine g_iload_n (pc := 11) dX12_put__11 rfl ?_
  refine g_iadd (pc := 12) dX12_put__12 ?_
  refine g_iload_n (pc := 13) dX12_put__13 rfl ?_
  by_cases c1 : inb ((88 + (6 * v1)) + v2) 320
  · rw [if_pos c1] at h
    refine v_iast hV (pc := 14) dX12_put__14 k0_70 own_70 c1 ?_
    cases h
    exact g_vret (pc := 15) dX12_put__15 rfl (Nat.le_refl _) (Nat.le_refl _)
  · rw [if_neg c1] at h; cases h
def Md_begin (v1 : Int32) (v2 : Int32) (v3 : Int32) (v4 : Int32) (v5 : Int32) (S : Sm) : Option (Sm) := ((Md_put_ v1 0 v2 S).bind fun q1 => ((Md_put_ v1 1 v3 q1).bind fun q2 => ((Md_put_ v1 2 v4 q2).bind fun q3 => ((Md_put_ v1 3 v4 q3).bind fun q4 => ((Md_put_ v1 4 v5 q4).bind fun q5 => ((Md_put_ v1 5 ((-1)) q5).bind fun q6 => (some q6)))))))
set_option maxRecDepth 4000 in
theorem r_Md_begin {V : Sm → Wd} (hV : VwT V) {v1 : Int32} {v2 : Int32} {v3 : Int32} {v4 : Int32} {v5 : Int32} {S : Sm} {q : Sm} (h : Md_begin v1 v2 v3 v4 v5 S = some q) : Runs 1 mX12_begin [.ref 53, .int v1, .int v2, .int v3, .int v4, .int v5] (V S) none (V q) 0 0 := by
  unfold Md_begin at h
  refine Runs.of2 [some (.ref 53), some (.int v1), some (.int v2), some (.int v3), some (.int v4), some (.int v5)] 0 rfl rfl (Nat.le_of_ble_eq_true rfl) (fun l Γ => ?_)
  refine g_aload_n (pc := 0) dX12_begin_0 rfl ?_
  refine g_iload_n (pc := 1) dX12_begin_1 rfl ?_
  refine g_iconst (v := 0) (pc := 2) dX12_begin_2 (by decide) ?_
  refine g_iload_n (pc := 3) dX12_begin_3 rfl ?_
  obtain ⟨q1, hq1, h⟩ := bnd h
  refine v_callVv hV (Mc := mX12_put_) (S1 := q1) (As := [.int v1, .int 0, .int v2]) (rest := []) (q := (RX12, TX12, 58)) (pc := 4) dX12_begin_4 mK_X12_288 mf_X12_put_ rfl k0_53 rfl rfl rfl (Nat.le_of_ble_eq_true rfl) ⟨Nat.le_of_ble_eq_true rfl, Nat.le_of_ble_eq_true rfl⟩ (r_Md_put_ hV hq1) ?_
  refine g_aload_n (pc := 7) dX12_begin_7 rfl ?_
  refine g_iload_n (pc := 8) dX12_begin_8 rfl ?_
  refine g_iconst (v := 1) (pc := 9) dX12_begin_9 (by decide) ?_
  refine g_iload_n (pc := 10) dX12_begin_10 rfl ?_
  obtain ⟨q2, hq2, h⟩ := bnd h
  refine v_callVv hV (Mc := mX12_put_) (S1 := q2) (As := [.int v1, .int 1, .int v3]) (rest := []) (q := (RX12, TX12, 58)) (pc := 11) dX12_begin_11 mK_X12_288 mf_X12_put_ rfl k0_53 rfl rfl rfl (Nat.le_of_ble_eq_true rfl) ⟨Nat.le_of_ble_eq_true rfl, Nat.le_of_ble_eq_true rfl⟩ (r_Md_put_ hV hq2) ?_
  refine g_aload_n (pc := 14) dX12_begin_14 rfl ?_
  refine g_iload_n (pc := 15) dX12_begin_15 rfl ?_
  refine g_iconst (v := 2) (pc := 16) dX12_begin_16 (by decide) ?_
  refine g_iload (pc := 17) dX12_begin_17 rfl ?_
  obtain ⟨q3, hq3, h⟩ := bnd h
  refine v_callVv hV (Mc := mX12_put_) (S1 := q3) (As := [.int v1, .int 2, .int v4]) (rest := []) (q := (RX12, TX12, 58)) (pc := 19) dX12_begin_19 mK_X12_288 mf_X12_put_ rfl k0_53 rfl rfl rfl (Nat.le_of_ble_eq_true rfl) ⟨Nat.le_of_ble_eq_true rfl, Nat.le_of_ble_eq_true rfl⟩ (r_Md_put_ hV hq3) ?_
  refine g_aload_n (pc := 22) dX12_begin_22 rfl ?_
  refine g_iload_n (pc := 23) dX12_begin_23 rfl ?_
  refine g_iconst (v := 3) (pc := 24) dX12_begin_24 (by decide) ?_
  refine g_iload (pc := 25) dX12_begin_25 rfl ?_
  obtain ⟨q4, hq4, h⟩ := bnd h
  refine v_callVv hV (Mc := mX12_put_) (S1 := q4) (As := [.int v1, .int 3, .int v4]) (rest := []) (q := (RX12, TX12, 58)) (pc := 27) dX12_begin_27 mK_X12_288 mf_X12_put_ rfl k0_53 rfl rfl rfl (Nat.le_of_ble_eq_true rfl) ⟨Nat.le_of_ble_eq_true rfl, Nat.le_of_ble_eq_true rfl⟩ (r_Md_put_ hV hq4) ?_
  refine g_aload_n (pc := 30) dX12_begin_30 rfl ?_
  refine g_iload_n (pc := 31) dX12_begin_31 rfl ?_
  refine g_iconst (v := 4) (pc := 32) dX12_begin_32 (by decide) ?_
  refine g_iload (pc := 33) dX12_begin_33 rfl ?_
  obtain ⟨q5, hq5, h⟩ := bnd h
  refine v_callVv hV (Mc := mX12_put_) (S1 := q5) (As := [.int v1, .int 4, .int v5]) (rest := []) (q := (RX12, TX12, 58)) (pc := 35) dX12_begin_35 mK_X12_288 mf_X12_put_ rfl k0_53 rfl rfl rfl (Nat.le_of_ble_eq_true rfl) ⟨Nat.le_of_ble_eq_true rfl, Nat.le_of_ble_eq_true rfl⟩ (r_Md_put_ hV hq5) ?_
  refine g_aload_n (pc := 38) dX12_begin_38 rfl ?_
  refine g_iload_n (pc := 39) dX12_begin_39 rfl ?_
  refine g_iconst (v := 5) (pc := 40) dX12_begin_40 (by decide) ?_
  refine g_iconst (v := (-1)) (pc := 41) dX12_begin_41 (by decide) ?_
  obtain ⟨q6, hq6, h⟩ := bnd h
  refine v_callVv hV (Mc := mX12_put_) (S1 := q6) (As := [.int v1, .int 5, .int ((-1))]) (rest := []) (q := (RX12, TX12, 58)) (pc := 42) dX12_begin_42 mK_X12_288 mf_X12_put_ rfl k0_53 rfl rfl rfl (Nat.le_of_ble_eq_true rfl) ⟨Nat.le_of_ble_eq_true rfl, Nat.le_of_ble_eq_true rfl⟩ (r_Md_put_ hV hq6) ?_
  cases h
  exact g_vret (pc := 45) dX12_begin_45 rfl (Nat.le_refl _) (Nat.le_refl _)
def hd_Md_takeAll_L2 (V : Sm → Wd) (l : Launch) (Γ : Gm) (rF : Option Value) (wF : Wd)  (q : Int32 × Sm) : Prop := G mX12_takeAll l Γ (rmD 2 0 0) (mQ Γ rF wF 0 0) 0 0 2 [some (.ref 53), some (.int q.1)] [] (V q.2)
def ps_Md_takeAll_L2 (V : Sm → Wd) (l : Launch) (Γ : Gm) (rF : Option Value) (wF : Wd)  (x : Sm) : Prop := (fun (a : Sm) => G mX12_takeAll l Γ (rmD 2 0 0) (mQ Γ rF wF 0 0) 0 0 25 [some (.ref 53), none] [] (V a)) x
def Md_takeAll_L2 (q : Int32 × Sm) : Option ((Int32 × Sm) ⊕ (Sm)) := (if (4 : Int32) ≤ q.1 then (some (.inr q.2)) else (if inb q.1 4 then (if inb q.1 4 then (some (.inl (q.1 + 1, si q.2 68 (ix q.1) (gi q.2 64 (ix q.1))))) else none) else none))
set_option maxRecDepth 4000 in
theorem t_Md_takeAll_L2 {V : Sm → Wd} (hV : VwT V) {l : Launch} {Γ : Gm} {rF : Option Value} {wF : Wd}  {q : Int32 × Sm} {o : (Int32 × Sm) ⊕ (Sm)} (h : Md_takeAll_L2 q = some o) (hK : Sum.elim (hd_Md_takeAll_L2 V l Γ rF wF) (ps_Md_takeAll_L2 V l Γ rF wF) o) : hd_Md_takeAll_L2 V l Γ rF wF q := by
  unfold Md_takeAll_L2 at h
  unfold hd_Md_takeAll_L2
  refine g_iload_n (pc := 2) dX12_takeAll_2 rfl ?_
  refine g_iconst (v := 4) (pc := 3) dX12_takeAll_3 (by decide) ?_
  refine g_icmp_ge (tgt := 25) (pc := 4) dX12_takeAll_4 (by decide) (fun c3 => ?_) (fun c3 => ?_)
  · rw [if_pos c3] at h
    refine g_wk [true, false] rfl ?_
    cases h
    exact hK
  · rw [if_neg c3] at h
    refine g_aload_n (pc := 7) dX12_takeAll_7 rfl ?_
    refine v_getR hV (pc := 8) dX12_takeAll_8 fo_12_24 rfl k0_53 r0_53_24 ?_
    refine g_iload_n (pc := 11) dX12_takeAll_11 rfl ?_
    refine g_aload_n (pc := 12) dX12_takeAll_12 rfl ?_
    refine v_getR hV (pc := 13) dX12_takeAll_13 fo_12_17 rfl k0_53 r0_53_17 ?_
    refine g_iload_n (pc := 16) dX12_takeAll_16 rfl ?_
    by_cases c1 : inb q.1 4
    · rw [if_pos c1] at h
      refine v_iald hV (pc := 17) dX12_takeAll_17 k0_64 own_64 c1 ?_
      by_cases c2 : inb q.1 4
      · rw [if_pos c2] at h
        refine v_iast hV (pc := 18) dX12_takeAll_18 k0_68 own_68 c2 ?_
        refine g_iinc (v := q.1 + 1) (ls1 := [some (.ref 53), some (.int (q.1 + 1))]) (pc := 19) dX12_takeAll_19 rfl rfl (by decide) rfl ?_
        refine g_goto (tgt := 2) (pc := 22) dX12_takeAll_22 (by decide) ?_
        cases h
        exact hK
      · rw [if_neg c2] at h; cases h
    · rw [if_neg c1] at h; cases h
set_option maxRecDepth 4000 in
theorem w_Md_takeAll_L2 {V : Sm → Wd} (hV : VwT V) {l : Launch} {Γ : Gm} {rF : Option Value} {wF : Wd}  {k : Nat} {q : Int32 × Sm} {o : Sm} (h : lpN (Md_takeAll_L2) k q = some o) (hP : ps_Md_takeAll_L2 V l Γ rF wF o) : hd_Md_takeAll_L2 V l Γ rF wF q := lpN_ind2 (hd_Md_takeAll_L2 V l Γ rF wF) (ps_Md_takeAll_L2 V l Γ rF wF) (fun s o h hK => t_Md_takeAll_L2 hV h hK) k q o h hP
def hd_Md_takeAll_L27 (V : Sm → Wd) (l : Launch) (Γ : Gm) (rF : Option Value) (wF : Wd)  (q : Int32 × Sm) : Prop := G mX12_takeAll l Γ (rmD 2 0 0) (mQ Γ rF wF 0 0) 0 0 27 [some (.ref 53), some (.int q.1)] [] (V q.2)
def ps_Md_takeAll_L27 (V : Sm → Wd) (l : Launch) (Γ : Gm) (rF : Option Value) (wF : Wd)  (x : Sm) : Prop := (fun (a : Sm) => G mX12_takeAll l Γ (rmD 2 0 0) (mQ Γ rF wF 0 0) 0 0 47 [some (.ref 53), none] [] (V a)) x
def Md_takeAll_L27 (q : Int32 × Sm) : Option ((Int32 × Sm) ⊕ (Sm)) := (if (320 : Int32) ≤ q.1 then (some (.inr q.2)) else (if inb q.1 320 then (some (.inl (q.1 + 1, si q.2 70 (ix q.1) 0))) else none))
set_option maxRecDepth 4000 in
theorem t_Md_takeAll_L27 {V : Sm → Wd} (hV : VwT V) {l : Launch} {Γ : Gm} {rF : Option Value} {wF : Wd}  {q : Int32 × Sm} {o : (Int32 × Sm) ⊕ (Sm)} (h : Md_takeAll_L27 q = some o) (hK : Sum.elim (hd_Md_takeAll_L27 V l Γ rF wF) (ps_Md_takeAll_L27 V l Γ rF wF) o) : hd_Md_takeAll_L27 V l Γ rF wF q := by
  unfold Md_takeAll_L27 at h
  unfold hd_Md_takeAll_L27
  refine g_iload_n (pc := 27) dX12_takeAll_27 rfl ?_
  refine g_sipush (v := 320) (pc := 28) dX12_takeAll_28 (by decide) ?_
  refine g_icmp_ge (tgt := 47) (pc := 31) dX12_takeAll_31 (by decide) (fun c6 => ?_) (fun c6 => ?_)
  · rw [if_pos c6] at h
    refine g_wk [true, false] rfl ?_
    cases h
    exact hK
  · rw [if_neg c6] at h
    refine g_aload_n (pc := 34) dX12_takeAll_34 rfl ?_
    refine v_getR hV (pc := 35) dX12_takeAll_35 fo_12_27 rfl k0_53 r0_53_27 ?_
    refine g_iload_n (pc := 38) dX12_takeAll_38 rfl ?_
    refine g_iconst (v := 0) (pc := 39) dX12_takeAll_39 (by decide) ?_
    by_cases c5 : inb q.1 320
    · rw [if_pos c5] at h
      refine v_iast hV (pc := 40) dX12_takeAll_40 k0_70 own_70 c5 ?_
      refine g_iinc (v := q.1 + 1) (ls1 := [some (.ref 53), some (.int (q.1 + 1))]) (pc := 41) dX12_takeAll_41 rfl rfl (by decide) rfl ?_
      refine g_goto (tgt := 27) (pc := 44) dX12_takeAll_44 (by decide) ?_
      cases h
      exact hK
    · rw [if_neg c5] at h; cases h
set_option maxRecDepth 4000 in
theorem w_Md_takeAll_L27 {V : Sm → Wd} (hV : VwT V) {l : Launch} {Γ : Gm} {rF : Option Value} {wF : Wd}  {k : Nat} {q : Int32 × Sm} {o : Sm} (h : lpN (Md_takeAll_L27) k q = some o) (hP : ps_Md_takeAll_L27 V l Γ rF wF o) : hd_Md_takeAll_L27 V l Γ rF wF q := lpN_ind2 (hd_Md_takeAll_L27 V l Γ rF wF) (ps_Md_takeAll_L27 V l Γ rF wF) (fun s o h hK => t_Md_takeAll_L27 hV h hK) k q o h hP
def hd_Md_takeAll_L67 (V : Sm → Wd) (l : Launch) (Γ : Gm) (rF : Option Value) (wF : Wd)  (q : Int32 × Sm) : Prop := G mX12_takeAll l Γ (rmD 2 0 0) (mQ Γ rF wF 0 0) 0 0 67 [some (.ref 53), some (.int q.1)] [] (V q.2)
def ps_Md_takeAll_L67 (V : Sm → Wd) (l : Launch) (Γ : Gm) (rF : Option Value) (wF : Wd)  (x : Sm) : Prop := (fun (a : Sm) => G mX12_takeAll l Γ (rmD 2 0 0) (mQ Γ rF wF 0 0) 0 0 99 [some (.ref 53), none] [] (V a)) x
def Md_takeAll_L67 (q : Int32 × Sm) : Option ((Int32 × Sm) ⊕ (Sm)) := (if (gi q.2 53 23) ≤ q.1 then (some (.inr q.2)) else (if inb q.1 4 then (if inb (80 + (gi q.2 67 (ix q.1))) 320 then (if inb (80 + (gi q.2 67 (ix q.1))) 320 then (some (.inl (q.1 + 1, si q.2 70 (ix (80 + (gi q.2 67 (ix q.1)))) ((gi q.2 70 (ix (80 + (gi q.2 67 (ix q.1))))) + 1)))) else none) else none) else none))
set_option maxRecDepth 4000 in
theorem t_Md_takeAll_L67 {V : Sm → Wd} (hV : VwT V) {l : Launch} {Γ : Gm} {rF : Option Value} {wF : Wd}  {q : Int32 × Sm} {o : (Int32 × Sm) ⊕ (Sm)} (h : Md_takeAll_L67 q = some o) (hK : Sum.elim (hd_Md_takeAll_L67 V l Γ rF wF) (ps_Md_takeAll_L67 V l Γ rF wF) o) : hd_Md_takeAll_L67 V l Γ rF wF q := by
  unfold Md_takeAll_L67 at h
  unfold hd_Md_takeAll_L67
  refine g_iload_n (pc := 67) dX12_takeAll_67 rfl ?_
  refine g_aload_n (pc := 68) dX12_takeAll_68 rfl ?_
  refine v_getI hV (pc := 69) dX12_takeAll_69 fo_12_23 rfl k0_53 own_53 ?_
  refine g_icmp_ge (tgt := 99) (pc := 72) dX12_takeAll_72 (by decide) (fun c12 => ?_) (fun c12 => ?_)
  · rw [if_pos c12] at h
    refine g_wk [true, false] rfl ?_
    cases h
    exact hK
  · rw [if_neg c12] at h
    refine g_aload_n (pc := 75) dX12_takeAll_75 rfl ?_
    refine v_getR hV (pc := 76) dX12_takeAll_76 fo_12_27 rfl k0_53 r0_53_27 ?_
    refine g_bipush (v := 80) (pc := 79) dX12_takeAll_79 (by decide) ?_
    refine g_aload_n (pc := 81) dX12_takeAll_81 rfl ?_
    refine v_getR hV (pc := 82) dX12_takeAll_82 fo_12_20 rfl k0_53 r0_53_20 ?_
    refine g_iload_n (pc := 85) dX12_takeAll_85 rfl ?_
    by_cases c9 : inb q.1 4
    · rw [if_pos c9] at h
      refine v_iald hV (pc := 86) dX12_takeAll_86 k0_67 own_67 c9 ?_
      refine g_iadd (pc := 87) dX12_takeAll_87 ?_
      refine g_dup2 (pc := 88) dX12_takeAll_88 rfl rfl ?_
      by_cases c10 : inb (80 + (gi q.2 67 (ix q.1))) 320
      · rw [if_pos c10] at h
        refine v_iald hV (pc := 89) dX12_takeAll_89 k0_70 own_70 c10 ?_
        refine g_iconst (v := 1) (pc := 90) dX12_takeAll_90 (by decide) ?_
        refine g_iadd (pc := 91) dX12_takeAll_91 ?_
        by_cases c11 : inb (80 + (gi q.2 67 (ix q.1))) 320
        · rw [if_pos c11] at h
          refine v_iast hV (pc := 92) dX12_takeAll_92 k0_70 own_70 c11 ?_
          refine g_iinc (v := q.1 + 1) (ls1 := [some (.ref 53), some (.int (q.1 + 1))]) (pc := 93) dX12_takeAll_93 rfl rfl (by decide) rfl ?_
          refine g_goto (tgt := 67) (pc := 96) dX12_takeAll_96 (by decide) ?_
          cases h
          exact hK
        · rw [if_neg c11] at h; cases h
      · rw [if_neg c10] at h; cases h
    · rw [if_neg c9] at h; cases h
set_option maxRecDepth 4000 in
theorem w_Md_takeAll_L67 {V : Sm → Wd} (hV : VwT V) {l : Launch} {Γ : Gm} {rF : Option Value} {wF : Wd}  {k : Nat} {q : Int32 × Sm} {o : Sm} (h : lpN (Md_takeAll_L67) k q = some o) (hP : ps_Md_takeAll_L67 V l Γ rF wF o) : hd_Md_takeAll_L67 V l Γ rF wF q := lpN_ind2 (hd_Md_takeAll_L67 V l Γ rF wF) (ps_Md_takeAll_L67 V l Γ rF wF) (fun s o h hK => t_Md_takeAll_L67 hV h hK) k q o h hP
def hd_Md_takeAll_L109 (V : Sm → Wd) (l : Launch) (Γ : Gm) (rF : Option Value) (wF : Wd)  (q : Int32 × Sm) : Prop := G mX12_takeAll l Γ (rmD 2 0 0) (mQ Γ rF wF 0 0) 0 0 109 [some (.ref 53), some (.int q.1)] [] (V q.2)
def ps_Md_takeAll_L109 (V : Sm → Wd) (l : Launch) (Γ : Gm) (rF : Option Value) (wF : Wd)  (x : Sm) : Prop := (fun (a : Sm) => G mX12_takeAll l Γ (rmD 2 0 0) (mQ Γ rF wF 0 0) 0 0 133 [some (.ref 53), none] [] (V a)) x
def Md_takeAll_L109 (q : Int32 × Sm) : Option ((Int32 × Sm) ⊕ (Sm)) := (if (24 : Int32) ≤ q.1 then (some (.inr q.2)) else (if inb q.1 24 then (if inb q.1 24 then (some (.inl (q.1 + 1, si q.2 69 (ix q.1) (gi q.2 66 (ix q.1))))) else none) else none))
set_option maxRecDepth 4000 in
theorem t_Md_takeAll_L109 {V : Sm → Wd} (hV : VwT V) {l : Launch} {Γ : Gm} {rF : Option Value} {wF : Wd}  {q : Int32 × Sm} {o : (Int32 × Sm) ⊕ (Sm)} (h : Md_takeAll_L109 q = some o) (hK : Sum.elim (hd_Md_takeAll_L109 V l Γ rF wF) (ps_Md_takeAll_L109 V l Γ rF wF) o) : hd_Md_takeAll_L109 V l Γ rF wF q := by
  unfold Md_takeAll_L109 at h
  unfold hd_Md_takeAll_L109
  refine g_iload_n (pc := 109) dX12_takeAll_109 rfl ?_
  refine g_bipush (v := 24) (pc := 110) dX12_takeAll_110 (by decide) ?_
  refine g_icmp_ge (tgt := 133) (pc := 112) dX12_takeAll_112 (by decide) (fun c16 => ?_) (fun c16 => ?_)
  · rw [if_pos c16] at h
    refine g_wk [true, false] rfl ?_
    cases h
    exact hK
  · rw [if_neg c16] at h
    refine g_aload_n (pc := 115) dX12_takeAll_115 rfl ?_
    refine v_getR hV (pc := 116) dX12_takeAll_116 fo_12_25 rfl k0_53 r0_53_25 ?_
    refine g_iload_n (pc := 119) dX12_takeAll_119 rfl ?_
    refine g_aload_n (pc := 120) dX12_takeAll_120 rfl ?_
    refine v_getR hV (pc := 121) dX12_takeAll_121 fo_12_19 rfl k0_53 r0_53_19 ?_
    refine g_iload_n (pc := 124) dX12_takeAll_124 rfl ?_
    by_cases c14 : inb q.1 24
    · rw [if_pos c14] at h
      refine v_iald hV (pc := 125) dX12_takeAll_125 k0_66 own_66 c14 ?_
      by_cases c15 : inb q.1 24
      · rw [if_pos c15] at h
        refine v_iast hV (pc := 126) dX12_takeAll_126 k0_69 own_69 c15 ?_
        refine g_iinc (v := q.1 + 1) (ls1 := [some (.ref 53), some (.int (q.1 + 1))]) (pc := 127) dX12_takeAll_127 rfl rfl (by decide) rfl ?_
        refine g_goto (tgt := 109) (pc := 130) dX12_takeAll_130 (by decide) ?_
        cases h
        exact hK
      · rw [if_neg c15] at h; cases h
    · rw [if_neg c14] at h; cases h
set_option maxRecDepth 4000 in
theorem w_Md_takeAll_L109 {V : Sm → Wd} (hV : VwT V) {l : Launch} {Γ : Gm} {rF : Option Value} {wF : Wd}  {k : Nat} {q : Int32 × Sm} {o : Sm} (h : lpN (Md_takeAll_L109) k q = some o) (hP : ps_Md_takeAll_L109 V l Γ rF wF o) : hd_Md_takeAll_L109 V l Γ rF wF q := lpN_ind2 (hd_Md_takeAll_L109 V l Γ rF wF) (ps_Md_takeAll_L109 V l Γ rF wF) (fun s o h hK => t_Md_takeAll_L109 hV h hK) k q o h hP
def hd_Md_takeAll_L135 (V : Sm → Wd) (l : Launch) (Γ : Gm) (rF : Option Value) (wF : Wd)  (q : Int32 × Sm) : Prop := G mX12_takeAll l Γ (rmD 2 0 0) (mQ Γ rF wF 0 0) 0 0 135 [some (.ref 53), some (.int q.1)] [] (V q.2)
def ps_Md_takeAll_L135 (V : Sm → Wd) (l : Launch) (Γ : Gm) (rF : Option Value) (wF : Wd)  (x : Sm) : Prop := (fun (a : Sm) => G mX12_takeAll l Γ (rmD 2 0 0) (mQ Γ rF wF 0 0) 0 0 201 [some (.ref 53), none] [] (V a)) x
def Md_takeAll_L135 (q : Int32 × Sm) : Option ((Int32 × Sm) ⊕ (Sm)) := (if (gi q.2 53 26) ≤ q.1 then (some (.inr q.2)) else (if inb (4 * q.1) 24 then (if inb ((4 * q.1) + 1) 24 then (if inb ((4 * q.1) + 2) 24 then (if inb ((4 * q.1) + 3) 24 then ((Md_begin q.1 (gi q.2 69 (ix (4 * q.1))) (gi q.2 69 (ix ((4 * q.1) + 1))) ((gi q.2 70 137) + (gi q.2 69 (ix ((4 * q.1) + 2)))) (gi q.2 69 (ix ((4 * q.1) + 3))) q.2).bind fun q22 => (some (.inl (q.1 + 1, q22)))) else none) else none) else none) else none))
set_option maxRecDepth 4000 in
theorem t_Md_takeAll_L135 {V : Sm → Wd} (hV : VwT V) {l : Launch} {Γ : Gm} {rF : Option Value} {wF : Wd}  {q : Int32 × Sm} {o : (Int32 × Sm) ⊕ (Sm)} (h : Md_takeAll_L135 q = some o) (hK : Sum.elim (hd_Md_takeAll_L135 V l Γ rF wF) (ps_Md_takeAll_L135 V l Γ rF wF) o) : hd_Md_takeAll_L135 V l Γ rF wF q := by
  unfold Md_takeAll_L135 at h
  unfold hd_Md_takeAll_L135
  refine g_iload_n (pc := 135) dX12_takeAll_135 rfl ?_
  refine g_aload_n (pc := 136) dX12_takeAll_136 rfl ?_
  refine v_getI hV (pc := 137) dX12_takeAll_137 fo_12_26 rfl k0_53 own_53 ?_
  refine g_icmp_ge (tgt := 201) (pc := 140) dX12_takeAll_140 (by decide) (fun c23 => ?_) (fun c23 => ?_)
  · rw [if_pos c23] at h
    refine g_wk [true, false] rfl ?_
    cases h
    exact hK
  · rw [if_neg c23] at h
    refine g_aload_n (pc := 143) dX12_takeAll_143 rfl ?_
    refine g_iload_n (pc := 144) dX12_takeAll_144 rfl ?_
    refine g_aload_n (pc := 145) dX12_takeAll_145 rfl ?_
    refine v_getR hV (pc := 146) dX12_takeAll_146 fo_12_25 rfl k0_53 r0_53_25 ?_
    refine g_iconst (v := 4) (pc := 149) dX12_takeAll_149 (by decide) ?_
    refine g_iload_n (pc := 150) dX12_takeAll_150 rfl ?_
    refine g_imul (pc := 151) dX12_takeAll_151 ?_
    by_cases c18 : inb (4 * q.1) 24
    · rw [if_pos c18] at h
      refine v_iald hV (pc := 152) dX12_takeAll_152 k0_69 own_69 c18 ?_
      refine g_aload_n (pc := 153) dX12_takeAll_153 rfl ?_
      refine v_getR hV (pc := 154) dX12_takeAll_154 fo_12_25 rfl k0_53 r0_53_25 ?_
      refine g_iconst (v := 4) (pc := 157) dX12_takeAll_157 (by decide) ?_
      refine g_iload_n (pc := 158) dX12_takeAll_158 rfl ?_
      refine g_imul (pc := 159) dX12_takeAll_159 ?_
      refine g_iconst (v := 1) (pc := 160) dX12_takeAll_160 (by decide) ?_
      refine g_iadd (pc := 161) dX12_takeAll_161 ?_
      by_cases c19 : inb ((4 * q.1) + 1) 24
      · rw [if_pos c19] at h
        refine v_iald hV (pc := 162) dX12_takeAll_162 k0_69 own_69 c19 ?_
        refine g_aload_n (pc := 163) dX12_takeAll_163 rfl ?_
        refine v_getR hV (pc := 164) dX12_takeAll_164 fo_12_27 rfl k0_53 r0_53_27 ?_
        refine g_sipush (v := 137) (pc := 167) dX12_takeAll_167 (by decide) ?_
        refine v_ialdK hV (k := 137) (pc := 170) dX12_takeAll_170 k0_70 own_70 (by decide) (by decide) ?_
        refine g_aload_n (pc := 171) dX12_takeAll_171 rfl ?_
        refine v_getR hV (pc := 172) dX12_takeAll_172 fo_12_25 rfl k0_53 r0_53_25 ?_
        refine g_iconst (v := 4) (pc := 175) dX12_takeAll_175 (by decide) ?_
        refine g_iload_n (pc := 176) dX12_takeAll_176 rfl ?_
        refine g_imul (pc := 177) dX12_takeAll_177 ?_
        refine g_iconst (v := 2) (pc := 178) dX12_takeAll_178 (by decide) ?_
        refine g_iadd (pc := 179) dX12_takeAll_179 ?_
        by_cases c20 : inb ((4 * q.1) + 2) 24
        · rw [if_pos c20] at h
          refine v_iald hV (pc := 180) dX12_takeAll_180 k0_69 own_69 c20 ?_
          refine g_iadd (pc := 181) dX12_takeAll_181 ?_
          refine g_aload_n (pc := 182) dX12_takeAll_182 rfl ?_
          refine v_getR hV (pc := 183) dX12_takeAll_183 fo_12_25 rfl k0_53 r0_53_25 ?_
          refine g_iconst (v := 4) (pc := 186) dX12_takeAll_186 (by decide) ?_
          refine g_iload_n (pc := 187) dX12_takeAll_187 rfl ?_
          refine g_imul (pc := 188) dX12_takeAll_188 ?_
          refine g_iconst (v := 3) (pc := 189) dX12_takeAll_189 (by decide) ?_
          refine g_iadd (pc := 190) dX12_takeAll_190 ?_
          by_cases c21 : inb ((4 * q.1) + 3) 24
          · rw [if_pos c21] at h
            refine v_iald hV (pc := 191) dX12_takeAll_191 k0_69 own_69 c21 ?_
            obtain ⟨q22, hq22, h⟩ := bnd h
            refine v_callVv hV (Mc := mX12_begin) (S1 := q22) (As := [.int q.1, .int (gi q.2 69 (ix (4 * q.1))), .int (gi q.2 69 (ix ((4 * q.1) + 1))), .int ((gi q.2 70 137) + (gi q.2 69 (ix ((4 * q.1) + 2)))), .int (gi q.2 69 (ix ((4 * q.1) + 3)))]) (rest := []) (q := (RX12, TX12, 58)) (pc := 192) dX12_takeAll_192 mK_X12_297 mf_X12_begin rfl k0_53 rfl rfl rfl (Nat.le_of_ble_eq_true rfl) ⟨Nat.le_of_ble_eq_true rfl, Nat.le_of_ble_eq_true rfl⟩ (r_Md_begin hV hq22) ?_
            refine g_iinc (v := q.1 + 1) (ls1 := [some (.ref 53), some (.int (q.1 + 1))]) (pc := 195) dX12_takeAll_195 rfl rfl (by decide) rfl ?_
            refine g_goto (tgt := 135) (pc := 198) dX12_takeAll_198 (by decide) ?_
            cases h
            exact hK
          · rw [if_neg c21] at h; cases h
        · rw [if_neg c20] at h; cases h
      · rw [if_neg c19] at h; cases h
    · rw [if_neg c18] at h; cases h
set_option maxRecDepth 4000 in
theorem w_Md_takeAll_L135 {V : Sm → Wd} (hV : VwT V) {l : Launch} {Γ : Gm} {rF : Option Value} {wF : Wd}  {k : Nat} {q : Int32 × Sm} {o : Sm} (h : lpN (Md_takeAll_L135) k q = some o) (hP : ps_Md_takeAll_L135 V l Γ rF wF o) : hd_Md_takeAll_L135 V l Γ rF wF q := lpN_ind2 (hd_Md_takeAll_L135 V l Γ rF wF) (ps_Md_takeAll_L135 V l Γ rF wF) (fun s o h hK => t_Md_takeAll_L135 hV h hK) k q o h hP
def Md_takeAll (S : Sm) : Option (Int32 × Sm) := ((lpN (Md_takeAll_L2) FU (0, S)).bind fun q4 => ((lpN (Md_takeAll_L27) FU (0, q4)).bind fun q7 => ((Md_takeTunnels q7).bind fun q8 => ((lpN (Md_takeAll_L67) FU (0, si q8 70 137 (gi q8 68 2))).bind fun q13 => ((lpN (Md_takeAll_L109) FU (0, si q13 53 26 (gi q13 53 22))).bind fun q17 => ((lpN (Md_takeAll_L135) FU (0, q17)).bind fun q24 => (some ((gi (si (si (si (si q24 70 136 (gi q24 53 26)) 53 49 0) 53 34 0) 53 57 0) 68 0, si (si (si (si q24 70 136 (gi q24 53 26)) 53 49 0) 53 34 0) 53 57 0)))))))))
set_option maxRecDepth 4000 in
theorem r_Md_takeAll {V : Sm → Wd} (hV : VwT V)  {S : Sm} {q : Int32 × Sm} (h : Md_takeAll S = some q) : Runs 2 mX12_takeAll [.ref 53] (V S) (some (.int q.1)) (V q.2) 0 0 := by
  unfold Md_takeAll at h
  refine Runs.of2 [some (.ref 53), none] 1 rfl rfl (Nat.le_of_ble_eq_true rfl) (fun l Γ => ?_)
  refine g_iconst (v := 0) (pc := 0) dX12_takeAll_0 (by decide) ?_
  refine g_istore_n (ls1 := [some (.ref 53), some (.int 0)]) (pc := 1) dX12_takeAll_1 (by decide) rfl ?_
  obtain ⟨q4, hqq4, h⟩ := bnd h
  refine w_Md_takeAll_L2 hV hqq4 ?_
  unfold ps_Md_takeAll_L2
  show G _ _ _ _ _ _ _ _ _ _ _
  refine g_iconst (v := 0) (pc := 25) dX12_takeAll_25 (by decide) ?_
  refine g_istore_n (ls1 := [some (.ref 53), some (.int 0)]) (pc := 26) dX12_takeAll_26 (by decide) rfl ?_
  obtain ⟨q7, hqq7, h⟩ := bnd h
  refine w_Md_takeAll_L27 hV hqq7 ?_
  unfold ps_Md_takeAll_L27
  show G _ _ _ _ _ _ _ _ _ _ _
  refine g_aload_n (pc := 47) dX12_takeAll_47 rfl ?_
  obtain ⟨q8, hq8, h⟩ := bnd h
  refine v_callVv hV (Mc := mX12_takeTunnels) (S1 := q8) (As := []) (rest := []) (q := (RX12, TX12, 58)) (pc := 48) dX12_takeAll_48 mK_X12_291 mf_X12_takeTunnels rfl k0_53 rfl rfl rfl (Nat.le_of_ble_eq_true rfl) ⟨Nat.le_of_ble_eq_true rfl, Nat.le_of_ble_eq_true rfl⟩ (r_Md_takeTunnels hV hq8) ?_
  refine g_aload_n (pc := 51) dX12_takeAll_51 rfl ?_
  refine v_getR hV (pc := 52) dX12_takeAll_52 fo_12_27 rfl k0_53 r0_53_27 ?_
  refine g_sipush (v := 137) (pc := 55) dX12_takeAll_55 (by decide) ?_
  refine g_aload_n (pc := 58) dX12_takeAll_58 rfl ?_
  refine v_getR hV (pc := 59) dX12_takeAll_59 fo_12_24 rfl k0_53 r0_53_24 ?_
  refine g_iconst (v := 2) (pc := 62) dX12_takeAll_62 (by decide) ?_
  refine v_ialdK hV (k := 2) (pc := 63) dX12_takeAll_63 k0_68 own_68 (by decide) (by decide) ?_
  refine v_iastK hV (k := 137) (pc := 64) dX12_takeAll_64 k0_70 own_70 (by decide) (by decide) ?_
  refine g_iconst (v := 0) (pc := 65) dX12_takeAll_65 (by decide) ?_
  refine g_istore_n (ls1 := [some (.ref 53), some (.int 0)]) (pc := 66) dX12_takeAll_66 (by decide) rfl ?_
  obtain ⟨q13, hqq13, h⟩ := bnd h
  refine w_Md_takeAll_L67 hV hqq13 ?_
  unfold ps_Md_takeAll_L67
  show G _ _ _ _ _ _ _ _ _ _ _
  refine g_aload_n (pc := 99) dX12_takeAll_99 rfl ?_
  refine g_aload_n (pc := 100) dX12_takeAll_100 rfl ?_
  refine v_getI hV (pc := 101) dX12_takeAll_101 fo_12_22 rfl k0_53 own_53 ?_
  refine v_putI hV (pc := 104) dX12_takeAll_104 fo_12_26 rfl k0_53 own_53 rfl ?_
  refine g_iconst (v := 0) (pc := 107) dX12_takeAll_107 (by decide) ?_
  refine g_istore_n (ls1 := [some (.ref 53), some (.int 0)]) (pc := 108) dX12_takeAll_108 (by decide) rfl ?_
  obtain ⟨q17, hqq17, h⟩ := bnd h
  refine w_Md_takeAll_L109 hV hqq17 ?_
  unfold ps_Md_takeAll_L109
  show G _ _ _ _ _ _ _ _ _ _ _
  refine g_iconst (v := 0) (pc := 133) dX12_takeAll_133 (by decide) ?_
  refine g_istore_n (ls1 := [some (.ref 53), some (.int 0)]) (pc := 134) dX12_takeAll_134 (by decide) rfl ?_
  obtain ⟨q24, hqq24, h⟩ := bnd h
  refine w_Md_takeAll_L135 hV hqq24 ?_
  unfold ps_Md_takeAll_L135
  show G _ _ _ _ _ _ _ _ _ _ _
  refine g_aload_n (pc := 201) dX12_takeAll_201 rfl ?_
  refine v_getR hV (pc := 202) dX12_takeAll_202 fo_12_27 rfl k0_53 r0_53_27 ?_
  refine g_sipush (v := 136) (pc := 205) dX12_takeAll_205 (by decide) ?_
  refine g_aload_n (pc := 208) dX12_takeAll_208 rfl ?_
  refine v_getI hV (pc := 209) dX12_takeAll_209 fo_12_26 rfl k0_53 own_53 ?_
  refine v_iastK hV (k := 136) (pc := 212) dX12_takeAll_212 k0_70 own_70 (by decide) (by decide) ?_
  refine g_aload_n (pc := 213) dX12_takeAll_213 rfl ?_
  refine g_iconst (v := 0) (pc := 214) dX12_takeAll_214 (by decide) ?_
  refine v_putI hV (pc := 215) dX12_takeAll_215 fo_12_49 rfl k0_53 own_53 rfl ?_
  refine g_aload_n (pc := 218) dX12_takeAll_218 rfl ?_
  refine g_iconst (v := 0) (pc := 219) dX12_takeAll_219 (by decide) ?_
  refine v_putI hV (pc := 220) dX12_takeAll_220 fo_12_34 rfl k0_53 own_53 rfl ?_
  refine g_aload_n (pc := 223) dX12_takeAll_223 rfl ?_
  refine g_iconst (v := 0) (pc := 224) dX12_takeAll_224 (by decide) ?_
  refine v_putZ hV (pc := 225) dX12_takeAll_225 fo_12_57 rfl (by decide) k0_53 own_53 rfl ?_
  refine g_aload_n (pc := 228) dX12_takeAll_228 rfl ?_
  refine v_getR hV (pc := 229) dX12_takeAll_229 fo_12_24 rfl k0_53 r0_53_24 ?_
  refine g_iconst (v := 0) (pc := 232) dX12_takeAll_232 (by decide) ?_
  refine v_ialdK hV (k := 0) (pc := 233) dX12_takeAll_233 k0_68 own_68 (by decide) (by decide) ?_
  cases h
  exact g_iret (pc := 234) dX12_takeAll_234 rfl rfl (Nat.le_refl _) (Nat.le_refl _)
def Md_text_69 (S : Sm) : Option (Int32 × Sm) := (some (((-1), S)))
set_option maxRecDepth 4000 in
theorem t_Md_text_69 {V : Sm → Wd} (hV : VwT V) {l : Launch} {Γ : Gm}  {S : Sm} {q : Int32 × Sm} (h : Md_text_69 S = some q) : G mX12_text l Γ (rmD 86 0 0) (mQ Γ (some (.int q.1)) (V q.2) 0 0) 0 0 69 [none, none] [] (V S) := by
  unfold Md_text_69 at h
  refine g_iconst (v := (-1)) (pc := 69) dX12_text_69 (by decide) ?_
  cases h
  exact g_iret (pc := 70) dX12_text_70 rfl rfl (Nat.le_refl _) (Nat.le_refl _)
def Md_text_22 (v1 : Int32) (S : Sm) : Option (Int32 × Sm) := (if v1 = 1 then (if (4 : Int32) ≤ (gi S 53 13) then (Md_text_69 S) else ((Md_readLaw (gi S 53 13) S).bind fun q1 => (if q1.1 = ((-1)) then (some (((gi (si (si q1.2 53 2 0) 53 13 ((gi (si q1.2 53 2 0) 53 13) + 1)) 53 13) - 1, si (si q1.2 53 2 0) 53 13 ((gi (si q1.2 53 2 0) 53 13) + 1)))) else (Md_text_69 q1.2)))) else (Md_text_69 S))
set_option maxRecDepth 4000 in
theorem t_Md_text_22 {V : Sm → Wd} (hV : VwT V) {l : Launch} {Γ : Gm} {v1 : Int32} {S : Sm} {q : Int32 × Sm} (h : Md_text_22 v1 S = some q) : G mX12_text l Γ (rmD 86 0 0) (mQ Γ (some (.int q.1)) (V q.2) 0 0) 0 0 22 [some (.ref 53), some (.int v1)] [] (V S) := by
  unfold Md_text_22 at h
  refine g_iload_n (pc := 22) dX12_text_22 rfl ?_
  refine g_iconst (v := 1) (pc := 23) dX12_text_23 (by decide) ?_
  refine g_icmp_ne (tgt := 69) (pc := 24) dX12_text_24 (by decide) (fun c4 => ?_) (fun c4 => ?_)
  · rw [if_neg c4] at h
    refine g_wk [false, false] rfl ?_
    exact t_Md_text_69 hV h
  · rw [if_pos c4] at h
    refine g_aload_n (pc := 27) dX12_text_27 rfl ?_
    refine v_getI hV (pc := 28) dX12_text_28 fo_12_13 rfl k0_53 own_53 ?_
    refine g_iconst (v := 4) (pc := 31) dX12_text_31 (by decide) ?_
    refine g_icmp_ge (tgt := 69) (pc := 32) dX12_text_32 (by decide) (fun c3 => ?_) (fun c3 => ?_)
    · rw [if_pos c3] at h
      refine g_wk [false, false] rfl ?_
      exact t_Md_text_69 hV h
    · rw [if_neg c3] at h
      refine g_aload_n (pc := 35) dX12_text_35 rfl ?_
      refine g_aload_n (pc := 36) dX12_text_36 rfl ?_
      refine v_getI hV (pc := 37) dX12_text_37 fo_12_13 rfl k0_53 own_53 ?_
      obtain ⟨q1, hq1, h⟩ := bnd h
      refine v_callVi hV (Mc := mX12_readLaw) (v := q1.1) (S1 := q1.2) (As := [.int (gi S 53 13)]) (rest := []) (q := (RX12, TX12, 58)) (pc := 40) dX12_text_40 mK_X12_282 mf_X12_readLaw rfl k0_53 rfl rfl rfl (Nat.le_of_ble_eq_true rfl) ⟨Nat.le_of_ble_eq_true rfl, Nat.le_of_ble_eq_true rfl⟩ (r_Md_readLaw hV hq1) ?_
      refine g_iconst (v := (-1)) (pc := 43) dX12_text_43 (by decide) ?_
      refine g_icmp_ne (tgt := 69) (pc := 44) dX12_text_44 (by decide) (fun c2 => ?_) (fun c2 => ?_)
      · rw [if_neg c2] at h
        refine g_wk [false, false] rfl ?_
        exact t_Md_text_69 hV h
      · rw [if_pos c2] at h
        refine g_aload_n (pc := 47) dX12_text_47 rfl ?_
        refine g_iconst (v := 0) (pc := 48) dX12_text_48 (by decide) ?_
        refine v_putI hV (pc := 49) dX12_text_49 fo_12_2 rfl k0_53 own_53 rfl ?_
        refine g_aload_n (pc := 52) dX12_text_52 rfl ?_
        refine g_dup (pc := 53) dX12_text_53 rfl ?_
        refine v_getI hV (pc := 54) dX12_text_54 fo_12_13 rfl k0_53 own_53 ?_
        refine g_iconst (v := 1) (pc := 57) dX12_text_57 (by decide) ?_
        refine g_iadd (pc := 58) dX12_text_58 ?_
        refine v_putI hV (pc := 59) dX12_text_59 fo_12_13 rfl k0_53 own_53 rfl ?_
        refine g_aload_n (pc := 62) dX12_text_62 rfl ?_
        refine v_getI hV (pc := 63) dX12_text_63 fo_12_13 rfl k0_53 own_53 ?_
        refine g_iconst (v := 1) (pc := 66) dX12_text_66 (by decide) ?_
        refine g_isub (pc := 67) dX12_text_67 ?_
        cases h
        exact g_iret (pc := 68) dX12_text_68 rfl rfl (Nat.le_refl _) (Nat.le_refl _)
def Md_text (v1 : Int32) (S : Sm) : Option (Int32 × Sm) := (if v1 = 0 then ((Md_readAll S).bind fun q5 => (if q5.1 = ((-1)) then ((Md_takeAll (si q5.2 53 2 0)).bind fun q6 => (some ((q6.1, q6.2)))) else (Md_text_22 v1 q5.2))) else (Md_text_22 v1 S))
set_option maxRecDepth 4000 in
theorem r_Md_text {V : Sm → Wd} (hV : VwT V) {v1 : Int32} {S : Sm} {q : Int32 × Sm} (h : Md_text v1 S = some q) : Runs 86 mX12_text [.ref 53, .int v1] (V S) (some (.int q.1)) (V q.2) 0 0 := by
  unfold Md_text at h
  refine Runs.of2 [some (.ref 53), some (.int v1)] 0 rfl rfl (Nat.le_of_ble_eq_true rfl) (fun l Γ => ?_)
  refine g_iload_n (pc := 0) dX12_text_0 rfl ?_
  refine g_if_ne (tgt := 22) (pc := 1) dX12_text_1 (by decide) (fun c8 => ?_) (fun c8 => ?_)
  · rw [if_neg c8] at h
    exact t_Md_text_22 hV h
  · rw [if_pos c8] at h
    refine g_aload_n (pc := 4) dX12_text_4 rfl ?_
    obtain ⟨q5, hq5, h⟩ := bnd h
    refine v_callVi hV (Mc := mX12_readAll) (v := q5.1) (S1 := q5.2) (As := []) (rest := []) (q := (RX12, TX12, 58)) (pc := 5) dX12_text_5 mK_X12_279 mf_X12_readAll rfl k0_53 rfl rfl rfl (Nat.le_of_ble_eq_true rfl) ⟨Nat.le_of_ble_eq_true rfl, Nat.le_of_ble_eq_true rfl⟩ (r_Md_readAll hV hq5) ?_
    refine g_iconst (v := (-1)) (pc := 8) dX12_text_8 (by decide) ?_
    refine g_icmp_ne (tgt := 22) (pc := 9) dX12_text_9 (by decide) (fun c7 => ?_) (fun c7 => ?_)
    · rw [if_neg c7] at h
      exact t_Md_text_22 hV h
    · rw [if_pos c7] at h
      refine g_aload_n (pc := 12) dX12_text_12 rfl ?_
      refine g_iconst (v := 0) (pc := 13) dX12_text_13 (by decide) ?_
      refine v_putI hV (pc := 14) dX12_text_14 fo_12_2 rfl k0_53 own_53 rfl ?_
      refine g_aload_n (pc := 17) dX12_text_17 rfl ?_
      obtain ⟨q6, hq6, h⟩ := bnd h
      refine v_callVi hV (Mc := mX12_takeAll) (v := q6.1) (S1 := q6.2) (As := []) (rest := []) (q := (RX12, TX12, 58)) (pc := 18) dX12_text_18 mK_X12_311 mf_X12_takeAll rfl k0_53 rfl rfl rfl (Nat.le_of_ble_eq_true rfl) ⟨Nat.le_of_ble_eq_true rfl, Nat.le_of_ble_eq_true rfl⟩ (r_Md_takeAll hV hq6) ?_
      cases h
      exact g_iret (pc := 21) dX12_text_21 rfl rfl (Nat.le_refl _) (Nat.le_refl _)
def Md_of (v1 : Int32) (v2 : Int32) (S : Sm) : Option (Int32) := (if inb ((88 + (6 * v1)) + v2) 320 then (some (gi S 70 (ix ((88 + (6 * v1)) + v2)))) else none)
set_option maxRecDepth 4000 in
theorem r_Md_of {V : Sm → Wd} (hV : VwT V) {v1 : Int32} {v2 : Int32} {S : Sm} {q : Int32} (h : Md_of v1 v2 S = some q) : Runs 0 mX12_of [.ref 53, .int v1, .int v2] (V S) (some (.int q)) (V S) 0 0 := by
  unfold Md_of at h
  refine Runs.of2 [some (.ref 53), some (.int v1), some (.int v2)] 0 rfl rfl (Nat.le_of_ble_eq_true rfl) (fun l Γ => ?_)
  refine g_aload_n (pc := 0) dX12_of_0 rfl ?_
  refine v_getR hV (pc := 1) dX12_of_1 fo_12_27 rfl k0_53 r0_53_27 ?_
  refine g_bipush (v := 88) (pc := 4) dX12_of_4 (by decide) ?_
  refine g_bipush (v := 6) (pc := 6) dX12_of_6 (by decide) ?_
  refine g_iload_n (pc := 8) dX12_of_8 rfl ?_
  refine g_imul (pc := 9) dX12_of_9 ?_
  refine g_iadd (pc := 10) dX12_of_10 ?_
  refine g_iload_n (pc := 11) dX12_of_11 rfl ?_
  refine g_iadd (pc := 12) dX12_of_12 ?_
  by_cases c1 : inb ((88 + (6 * v1)) + v2) 320
  · rw [if_pos c1] at h
    refine v_iald hV (pc := 13) dX12_of_13 k0_70 own_70 c1 ?_
    cases h
    exact g_iret (pc := 14) dX12_of_14 rfl rfl (Nat.le_refl _) (Nat.le_refl _)
  · rw [if_neg c1] at h; cases h
def Md_isMouth (v1 : Int32) (S : Sm) : Int32 := ((Md_in v1 0 ((gi S 68 0) - 1)) &&& 1)
set_option maxRecDepth 4000 in
theorem r_Md_isMouth {V : Sm → Wd} (hV : VwT V) {v1 : Int32} {S : Sm} {q : Int32} (h : Md_isMouth v1 S = q) : Runs 1 mX12_isMouth [.ref 53, .int v1] (V S) (some (.int q)) (V S) 0 0 := by
  unfold Md_isMouth at h
  refine Runs.of2 [some (.ref 53), some (.int v1)] 0 rfl rfl (Nat.le_of_ble_eq_true rfl) (fun l Γ => ?_)
  refine g_iload_n (pc := 0) dX12_isMouth_0 rfl ?_
  refine g_iconst (v := 0) (pc := 1) dX12_isMouth_1 (by decide) ?_
  refine g_aload_n (pc := 2) dX12_isMouth_2 rfl ?_
  refine v_getR hV (pc := 3) dX12_isMouth_3 fo_12_24 rfl k0_53 r0_53_24 ?_
  refine g_iconst (v := 0) (pc := 6) dX12_isMouth_6 (by decide) ?_
  refine v_ialdK hV (k := 0) (pc := 7) dX12_isMouth_7 k0_68 own_68 (by decide) (by decide) ?_
  refine g_iconst (v := 1) (pc := 8) dX12_isMouth_8 (by decide) ?_
  refine g_isub (pc := 9) dX12_isMouth_9 ?_
  refine v_callSi (Mc := mX12_in) (v := Md_in v1 0 ((gi S 68 0) - 1)) (S1 := S) (As := [.int v1, .int 0, .int ((gi S 68 0) - 1)]) (rest := []) (pc := 10) dX12_isMouth_10 mK_X12_238 mf_X12_in rfl rfl (Nat.le_of_ble_eq_true rfl) ⟨Nat.le_of_ble_eq_true rfl, Nat.le_of_ble_eq_true rfl⟩ (r_Md_in hV rfl) ?_
  subst h
  exact g_iret (pc := 13) dX12_isMouth_13 rfl rfl (Nat.le_refl _) (Nat.le_refl _)
def Md_isColour (v1 : Int32) (S : Sm) : Int32 := ((Md_in v1 0 ((gi S 68 1) - 1)) &&& 1)
set_option maxRecDepth 4000 in
theorem r_Md_isColour {V : Sm → Wd} (hV : VwT V) {v1 : Int32} {S : Sm} {q : Int32} (h : Md_isColour v1 S = q) : Runs 1 mX12_isColour [.ref 53, .int v1] (V S) (some (.int q)) (V S) 0 0 := by
  unfold Md_isColour at h
  refine Runs.of2 [some (.ref 53), some (.int v1)] 0 rfl rfl (Nat.le_of_ble_eq_true rfl) (fun l Γ => ?_)
  refine g_iload_n (pc := 0) dX12_isColour_0 rfl ?_
  refine g_iconst (v := 0) (pc := 1) dX12_isColour_1 (by decide) ?_
  refine g_aload_n (pc := 2) dX12_isColour_2 rfl ?_
  refine v_getR hV (pc := 3) dX12_isColour_3 fo_12_24 rfl k0_53 r0_53_24 ?_
  refine g_iconst (v := 1) (pc := 6) dX12_isColour_6 (by decide) ?_
  refine v_ialdK hV (k := 1) (pc := 7) dX12_isColour_7 k0_68 own_68 (by decide) (by decide) ?_
  refine g_iconst (v := 1) (pc := 8) dX12_isColour_8 (by decide) ?_
  refine g_isub (pc := 9) dX12_isColour_9 ?_
  refine v_callSi (Mc := mX12_in) (v := Md_in v1 0 ((gi S 68 1) - 1)) (S1 := S) (As := [.int v1, .int 0, .int ((gi S 68 1) - 1)]) (rest := []) (pc := 10) dX12_isColour_10 mK_X12_238 mf_X12_in rfl rfl (Nat.le_of_ble_eq_true rfl) ⟨Nat.le_of_ble_eq_true rfl, Nat.le_of_ble_eq_true rfl⟩ (r_Md_in hV rfl) ?_
  subst h
  exact g_iret (pc := 13) dX12_isColour_13 rfl rfl (Nat.le_refl _) (Nat.le_refl _)
def Md_isLamp_27 (s0 : Int32) (S : Sm) : Int32 := (s0 &&& 1)
set_option maxRecDepth 4000 in
theorem t_Md_isLamp_27 {V : Sm → Wd} (hV : VwT V) {l : Launch} {Γ : Gm} {s0 : Int32} {S : Sm} {q : Int32} (h : Md_isLamp_27 s0 S = q) : G mX12_isLamp l Γ (rmD 2 0 0) (mQ Γ (some (.int q)) (V S) 0 0) 0 0 27 [none, none] [.int s0] (V S) := by
  unfold Md_isLamp_27 at h
  subst h
  exact g_iret (pc := 27) dX12_isLamp_27 rfl rfl (Nat.le_refl _) (Nat.le_refl _)
def Md_isLamp_26 (S : Sm) : Int32 := (Md_isLamp_27 0 S)
set_option maxRecDepth 4000 in
theorem t_Md_isLamp_26 {V : Sm → Wd} (hV : VwT V) {l : Launch} {Γ : Gm}  {S : Sm} {q : Int32} (h : Md_isLamp_26 S = q) : G mX12_isLamp l Γ (rmD 2 0 0) (mQ Γ (some (.int q)) (V S) 0 0) 0 0 26 [none, none] [] (V S) := by
  unfold Md_isLamp_26 at h
  refine g_iconst (v := 0) (pc := 26) dX12_isLamp_26 (by decide) ?_
  exact t_Md_isLamp_27 hV h
def Md_isLamp_22 (S : Sm) : Int32 := (Md_isLamp_27 1 S)
set_option maxRecDepth 4000 in
theorem t_Md_isLamp_22 {V : Sm → Wd} (hV : VwT V) {l : Launch} {Γ : Gm}  {S : Sm} {q : Int32} (h : Md_isLamp_22 S = q) : G mX12_isLamp l Γ (rmD 2 0 0) (mQ Γ (some (.int q)) (V S) 0 0) 0 0 22 [none, none] [] (V S) := by
  unfold Md_isLamp_22 at h
  refine g_iconst (v := 1) (pc := 22) dX12_isLamp_22 (by decide) ?_
  refine g_goto (tgt := 27) (pc := 23) dX12_isLamp_23 (by decide) ?_
  exact t_Md_isLamp_27 hV h
def Md_isLamp (v1 : Int32) (S : Sm) : Int32 := (if (gi S 68 0) ≤ 0 then (Md_isLamp_26 S) else (if (Md_isColour v1 S) = 0 then (if v1 = 5 then (Md_isLamp_22 S) else (Md_isLamp_26 S)) else (Md_isLamp_22 S)))
set_option maxRecDepth 4000 in
theorem r_Md_isLamp {V : Sm → Wd} (hV : VwT V) {v1 : Int32} {S : Sm} {q : Int32} (h : Md_isLamp v1 S = q) : Runs 2 mX12_isLamp [.ref 53, .int v1] (V S) (some (.int q)) (V S) 0 0 := by
  unfold Md_isLamp at h
  refine Runs.of2 [some (.ref 53), some (.int v1)] 0 rfl rfl (Nat.le_of_ble_eq_true rfl) (fun l Γ => ?_)
  refine g_aload_n (pc := 0) dX12_isLamp_0 rfl ?_
  refine v_getR hV (pc := 1) dX12_isLamp_1 fo_12_24 rfl k0_53 r0_53_24 ?_
  refine g_iconst (v := 0) (pc := 4) dX12_isLamp_4 (by decide) ?_
  refine v_ialdK hV (k := 0) (pc := 5) dX12_isLamp_5 k0_68 own_68 (by decide) (by decide) ?_
  refine g_if_le (tgt := 26) (pc := 6) dX12_isLamp_6 (by decide) (fun c3 => ?_) (fun c3 => ?_)
  · rw [if_pos c3] at h
    refine g_wk [false, false] rfl ?_
    exact t_Md_isLamp_26 hV h
  · rw [if_neg c3] at h
    refine g_aload_n (pc := 9) dX12_isLamp_9 rfl ?_
    refine g_iload_n (pc := 10) dX12_isLamp_10 rfl ?_
    refine v_callVi hV (Mc := mX12_isColour) (v := Md_isColour v1 S) (S1 := S) (As := [.int v1]) (rest := []) (q := (RX12, TX12, 58)) (pc := 11) dX12_isLamp_11 mK_X12_317 mf_X12_isColour rfl k0_53 rfl rfl rfl (Nat.le_of_ble_eq_true rfl) ⟨Nat.le_of_ble_eq_true rfl, Nat.le_of_ble_eq_true rfl⟩ (r_Md_isColour hV rfl) ?_
    refine g_if_ne (tgt := 22) (pc := 14) dX12_isLamp_14 (by decide) (fun c2 => ?_) (fun c2 => ?_)
    · rw [if_neg c2] at h
      refine g_wk [false, false] rfl ?_
      exact t_Md_isLamp_22 hV h
    · rw [if_pos c2] at h
      refine g_iload_n (pc := 17) dX12_isLamp_17 rfl ?_
      refine g_iconst (v := 5) (pc := 18) dX12_isLamp_18 (by decide) ?_
      refine g_icmp_ne (tgt := 26) (pc := 19) dX12_isLamp_19 (by decide) (fun c1 => ?_) (fun c1 => ?_)
      · rw [if_neg c1] at h
        refine g_wk [false, false] rfl ?_
        exact t_Md_isLamp_26 hV h
      · rw [if_pos c1] at h
        refine g_wk [false, false] rfl ?_
        exact t_Md_isLamp_22 hV h
def Md_isTrain (v1 : Int32) (S : Sm) : Int32 := ((Md_in v1 0 ((gi S 70 136) - 1)) &&& 1)
set_option maxRecDepth 4000 in
theorem r_Md_isTrain {V : Sm → Wd} (hV : VwT V) {v1 : Int32} {S : Sm} {q : Int32} (h : Md_isTrain v1 S = q) : Runs 1 mX12_isTrain [.ref 53, .int v1] (V S) (some (.int q)) (V S) 0 0 := by
  unfold Md_isTrain at h
  refine Runs.of2 [some (.ref 53), some (.int v1)] 0 rfl rfl (Nat.le_of_ble_eq_true rfl) (fun l Γ => ?_)
  refine g_iload_n (pc := 0) dX12_isTrain_0 rfl ?_
  refine g_iconst (v := 0) (pc := 1) dX12_isTrain_1 (by decide) ?_
  refine g_aload_n (pc := 2) dX12_isTrain_2 rfl ?_
  refine v_getR hV (pc := 3) dX12_isTrain_3 fo_12_27 rfl k0_53 r0_53_27 ?_
  refine g_sipush (v := 136) (pc := 6) dX12_isTrain_6 (by decide) ?_
  refine v_ialdK hV (k := 136) (pc := 9) dX12_isTrain_9 k0_70 own_70 (by decide) (by decide) ?_
  refine g_iconst (v := 1) (pc := 10) dX12_isTrain_10 (by decide) ?_
  refine g_isub (pc := 11) dX12_isTrain_11 ?_
  refine v_callSi (Mc := mX12_in) (v := Md_in v1 0 ((gi S 70 136) - 1)) (S1 := S) (As := [.int v1, .int 0, .int ((gi S 70 136) - 1)]) (rest := []) (pc := 12) dX12_isTrain_12 mK_X12_238 mf_X12_in rfl rfl (Nat.le_of_ble_eq_true rfl) ⟨Nat.le_of_ble_eq_true rfl, Nat.le_of_ble_eq_true rfl⟩ (r_Md_in hV rfl) ?_
  subst h
  exact g_iret (pc := 15) dX12_isTrain_15 rfl rfl (Nat.le_refl _) (Nat.le_refl _)
def Md_leads_31 (s0 : Int32) (S : Sm) : Option (Int32) := (some s0)
set_option maxRecDepth 4000 in
theorem t_Md_leads_31 {V : Sm → Wd} (hV : VwT V) {l : Launch} {Γ : Gm} {s0 : Int32} {S : Sm} {q : Int32} (h : Md_leads_31 s0 S = some q) : G mX12_leads l Γ (rmD 0 0 0) (mQ Γ (some (.int q)) (V S) 0 0) 0 0 31 [none, none, none, none] [.int s0] (V S) := by
  unfold Md_leads_31 at h
  cases h
  exact g_iret (pc := 31) dX12_leads_31 rfl rfl (Nat.le_refl _) (Nat.le_refl _)
def Md_leads_21 (v1 : Int32) (s0 : Int32) (S : Sm) : Option (Int32) := (if (0 : Int32) ≤ s0 then (Md_leads_31 s0 S) else (Md_leads_31 v1 S))
set_option maxRecDepth 4000 in
theorem t_Md_leads_21 {V : Sm → Wd} (hV : VwT V) {l : Launch} {Γ : Gm} {v1 : Int32} {s0 : Int32} {S : Sm} {q : Int32} (h : Md_leads_21 v1 s0 S = some q) : G mX12_leads l Γ (rmD 0 0 0) (mQ Γ (some (.int q)) (V S) 0 0) 0 0 21 [none, some (.int v1), none, none] [.int s0] (V S) := by
  unfold Md_leads_21 at h
  refine g_istore_n (ls1 := [none, some (.int v1), none, some (.int s0)]) (pc := 21) dX12_leads_21 (by decide) rfl ?_
  refine g_iload_n (pc := 22) dX12_leads_22 rfl ?_
  refine g_if_ge (tgt := 30) (pc := 23) dX12_leads_23 (by decide) (fun c2 => ?_) (fun c2 => ?_)
  · rw [if_pos c2] at h
    refine g_iload_n (pc := 30) dX12_leads_30 rfl ?_
    refine g_wk [false, false, false, false] rfl ?_
    exact t_Md_leads_31 hV h
  · rw [if_neg c2] at h
    refine g_iload_n (pc := 26) dX12_leads_26 rfl ?_
    refine g_goto (tgt := 31) (pc := 27) dX12_leads_27 (by decide) ?_
    refine g_wk [false, false, false, false] rfl ?_
    exact t_Md_leads_31 hV h
def Md_leads (v1 : Int32) (v2 : Int32) (S : Sm) : Option (Int32) := (if v2 = 5 then (Md_leads_21 v1 ((-1)) S) else (if inb ((0 + (5 * v1)) + v2) 320 then (Md_leads_21 v1 (gi S 70 (ix ((0 + (5 * v1)) + v2))) S) else none))
set_option maxRecDepth 4000 in
theorem r_Md_leads {V : Sm → Wd} (hV : VwT V) {v1 : Int32} {v2 : Int32} {S : Sm} {q : Int32} (h : Md_leads v1 v2 S = some q) : Runs 0 mX12_leads [.ref 53, .int v1, .int v2] (V S) (some (.int q)) (V S) 0 0 := by
  unfold Md_leads at h
  refine Runs.of2 [some (.ref 53), some (.int v1), some (.int v2), none] 1 rfl rfl (Nat.le_of_ble_eq_true rfl) (fun l Γ => ?_)
  refine g_iload_n (pc := 0) dX12_leads_0 rfl ?_
  refine g_iconst (v := 5) (pc := 1) dX12_leads_1 (by decide) ?_
  refine g_icmp_ne (tgt := 9) (pc := 2) dX12_leads_2 (by decide) (fun c3 => ?_) (fun c3 => ?_)
  · rw [if_neg c3] at h
    refine g_aload_n (pc := 9) dX12_leads_9 rfl ?_
    refine v_getR hV (pc := 10) dX12_leads_10 fo_12_27 rfl k0_53 r0_53_27 ?_
    refine g_iconst (v := 0) (pc := 13) dX12_leads_13 (by decide) ?_
    refine g_iconst (v := 5) (pc := 14) dX12_leads_14 (by decide) ?_
    refine g_iload_n (pc := 15) dX12_leads_15 rfl ?_
    refine g_imul (pc := 16) dX12_leads_16 ?_
    refine g_iadd (pc := 17) dX12_leads_17 ?_
    refine g_iload_n (pc := 18) dX12_leads_18 rfl ?_
    refine g_iadd (pc := 19) dX12_leads_19 ?_
    by_cases c1 : inb ((0 + (5 * v1)) + v2) 320
    · rw [if_pos c1] at h
      refine v_iald hV (pc := 20) dX12_leads_20 k0_70 own_70 c1 ?_
      refine g_wk [false, true, false, false] rfl ?_
      exact t_Md_leads_21 hV h
    · rw [if_neg c1] at h; cases h
  · rw [if_pos c3] at h
    refine g_iconst (v := (-1)) (pc := 5) dX12_leads_5 (by decide) ?_
    refine g_goto (tgt := 21) (pc := 6) dX12_leads_6 (by decide) ?_
    refine g_wk [false, true, false, false] rfl ?_
    exact t_Md_leads_21 hV h
def Md_lasts_37 (s0 : Int32) (S : Sm) : Option (Int32) := (some s0)
set_option maxRecDepth 4000 in
theorem t_Md_lasts_37 {V : Sm → Wd} (hV : VwT V) {l : Launch} {Γ : Gm} {s0 : Int32} {S : Sm} {q : Int32} (h : Md_lasts_37 s0 S = some q) : G mX12_lasts l Γ (rmD 0 0 0) (mQ Γ (some (.int q)) (V S) 0 0) 0 0 37 [none, none, none] [.int s0] (V S) := by
  unfold Md_lasts_37 at h
  cases h
  exact g_iret (pc := 37) dX12_lasts_37 rfl rfl (Nat.le_refl _) (Nat.le_refl _)
def Md_lasts_20 (S : Sm) : Option (Int32) := (Md_lasts_37 1 S)
set_option maxRecDepth 4000 in
theorem t_Md_lasts_20 {V : Sm → Wd} (hV : VwT V) {l : Launch} {Γ : Gm}  {S : Sm} {q : Int32} (h : Md_lasts_20 S = some q) : G mX12_lasts l Γ (rmD 0 0 0) (mQ Γ (some (.int q)) (V S) 0 0) 0 0 20 [none, none, none] [] (V S) := by
  unfold Md_lasts_20 at h
  refine g_iconst (v := 1) (pc := 20) dX12_lasts_20 (by decide) ?_
  refine g_goto (tgt := 37) (pc := 21) dX12_lasts_21 (by decide) ?_
  exact t_Md_lasts_37 hV h
def Md_lasts (v1 : Int32) (v2 : Int32) (S : Sm) : Option (Int32) := (if v2 = 5 then (Md_lasts_20 S) else (if inb ((0 + (5 * v1)) + v2) 320 then (if (0 : Int32) ≤ (gi S 70 (ix ((0 + (5 * v1)) + v2))) then (if inb ((40 + (5 * v1)) + v2) 320 then (Md_lasts_37 (gi S 70 (ix ((40 + (5 * v1)) + v2))) S) else none) else (Md_lasts_20 S)) else none))
set_option maxRecDepth 4000 in
theorem r_Md_lasts {V : Sm → Wd} (hV : VwT V) {v1 : Int32} {v2 : Int32} {S : Sm} {q : Int32} (h : Md_lasts v1 v2 S = some q) : Runs 0 mX12_lasts [.ref 53, .int v1, .int v2] (V S) (some (.int q)) (V S) 0 0 := by
  unfold Md_lasts at h
  refine Runs.of2 [some (.ref 53), some (.int v1), some (.int v2)] 0 rfl rfl (Nat.le_of_ble_eq_true rfl) (fun l Γ => ?_)
  refine g_iload_n (pc := 0) dX12_lasts_0 rfl ?_
  refine g_iconst (v := 5) (pc := 1) dX12_lasts_1 (by decide) ?_
  refine g_icmp_eq (tgt := 20) (pc := 2) dX12_lasts_2 (by decide) (fun c4 => ?_) (fun c4 => ?_)
  · rw [if_pos c4] at h
    refine g_wk [false, false, false] rfl ?_
    exact t_Md_lasts_20 hV h
  · rw [if_neg c4] at h
    refine g_aload_n (pc := 5) dX12_lasts_5 rfl ?_
    refine v_getR hV (pc := 6) dX12_lasts_6 fo_12_27 rfl k0_53 r0_53_27 ?_
    refine g_iconst (v := 0) (pc := 9) dX12_lasts_9 (by decide) ?_
    refine g_iconst (v := 5) (pc := 10) dX12_lasts_10 (by decide) ?_
    refine g_iload_n (pc := 11) dX12_lasts_11 rfl ?_
    refine g_imul (pc := 12) dX12_lasts_12 ?_
    refine g_iadd (pc := 13) dX12_lasts_13 ?_
    refine g_iload_n (pc := 14) dX12_lasts_14 rfl ?_
    refine g_iadd (pc := 15) dX12_lasts_15 ?_
    by_cases c1 : inb ((0 + (5 * v1)) + v2) 320
    · rw [if_pos c1] at h
      refine v_iald hV (pc := 16) dX12_lasts_16 k0_70 own_70 c1 ?_
      refine g_if_ge (tgt := 24) (pc := 17) dX12_lasts_17 (by decide) (fun c3 => ?_) (fun c3 => ?_)
      · rw [if_pos c3] at h
        refine g_aload_n (pc := 24) dX12_lasts_24 rfl ?_
        refine v_getR hV (pc := 25) dX12_lasts_25 fo_12_27 rfl k0_53 r0_53_27 ?_
        refine g_bipush (v := 40) (pc := 28) dX12_lasts_28 (by decide) ?_
        refine g_iconst (v := 5) (pc := 30) dX12_lasts_30 (by decide) ?_
        refine g_iload_n (pc := 31) dX12_lasts_31 rfl ?_
        refine g_imul (pc := 32) dX12_lasts_32 ?_
        refine g_iadd (pc := 33) dX12_lasts_33 ?_
        refine g_iload_n (pc := 34) dX12_lasts_34 rfl ?_
        refine g_iadd (pc := 35) dX12_lasts_35 ?_
        by_cases c2 : inb ((40 + (5 * v1)) + v2) 320
        · rw [if_pos c2] at h
          refine v_iald hV (pc := 36) dX12_lasts_36 k0_70 own_70 c2 ?_
          refine g_wk [false, false, false] rfl ?_
          exact t_Md_lasts_37 hV h
        · rw [if_neg c2] at h; cases h
      · rw [if_neg c3] at h
        refine g_wk [false, false, false] rfl ?_
        exact t_Md_lasts_20 hV h
    · rw [if_neg c1] at h; cases h
def Md_price_77 (v3 : Int32) (S : Sm) : Option (Int32 × Sm) := (some ((iMax 0 (iMin 99 v3), S)))
set_option maxRecDepth 4000 in
theorem t_Md_price_77 {V : Sm → Wd} (hV : VwT V) {l : Launch} {Γ : Gm} {v3 : Int32} {S : Sm} {q : Int32 × Sm} (h : Md_price_77 v3 S = some q) : G mX12_price l Γ (rmD 5 0 0) (mQ Γ (some (.int q.1)) (V q.2) 0 0) 0 0 77 [none, none, none, some (.int v3)] [] (V S) := by
  unfold Md_price_77 at h
  refine g_iconst (v := 0) (pc := 77) dX12_price_77 (by decide) ?_
  refine g_bipush (v := 99) (pc := 78) dX12_price_78 (by decide) ?_
  refine g_iload_n (pc := 80) dX12_price_80 rfl ?_
  refine g_iMin (pc := 81) dX12_price_81 mK_X12_329 ⟨Nat.le_of_ble_eq_true rfl, Nat.le_of_ble_eq_true rfl⟩ (Nat.zero_le _) (Nat.zero_le _) ?_
  refine g_iMax (pc := 84) dX12_price_84 mK_X12_331 ⟨Nat.le_of_ble_eq_true rfl, Nat.le_of_ble_eq_true rfl⟩ (Nat.zero_le _) (Nat.zero_le _) ?_
  cases h
  exact g_iret (pc := 87) dX12_price_87 rfl rfl (Nat.le_refl _) (Nat.le_refl _)
def Md_price (v1 : Int32) (v2 : Int32) (S : Sm) : Option (Int32 × Sm) := ((Md_lasts v1 v2 S).bind fun q1 => (if (gi S 53 31) = ((-1)) then (Md_price_77 q1 S) else ((Md_leads v1 v2 (si (si (si S 62 0 v2) 62 1 q1) 62 2 v1)).bind fun q2 => ((Md_leads v1 v2 (si (si (si (si S 62 0 v2) 62 1 q1) 62 2 v1) 62 3 q2)).bind fun q3 => (if inb (80 + q3) 320 then ((Md_worthOf (gi (si (si (si (si (si S 62 0 v2) 62 1 q1) 62 2 v1) 62 3 q2) 62 4 (gi (si (si (si (si S 62 0 v2) 62 1 q1) 62 2 v1) 62 3 q2) 70 (ix (80 + q3)))) 53 31) (si (si (si (si (si S 62 0 v2) 62 1 q1) 62 2 v1) 62 3 q2) 62 4 (gi (si (si (si (si S 62 0 v2) 62 1 q1) 62 2 v1) 62 3 q2) 70 (ix (80 + q3))))).bind fun q5 => (Md_price_77 q5.1 q5.2)) else none)))))
set_option maxRecDepth 4000 in
theorem r_Md_price {V : Sm → Wd} (hV : VwT V) {v1 : Int32} {v2 : Int32} {S : Sm} {q : Int32 × Sm} (h : Md_price v1 v2 S = some q) : Runs 5 mX12_price [.ref 53, .int v1, .int v2] (V S) (some (.int q.1)) (V q.2) 0 0 := by
  unfold Md_price at h
  refine Runs.of2 [some (.ref 53), some (.int v1), some (.int v2), none] 1 rfl rfl (Nat.le_of_ble_eq_true rfl) (fun l Γ => ?_)
  refine g_aload_n (pc := 0) dX12_price_0 rfl ?_
  refine g_iload_n (pc := 1) dX12_price_1 rfl ?_
  refine g_iload_n (pc := 2) dX12_price_2 rfl ?_
  obtain ⟨q1, hq1, h⟩ := bnd h
  refine v_callVi hV (Mc := mX12_lasts) (v := q1) (S1 := S) (As := [.int v1, .int v2]) (rest := []) (q := (RX12, TX12, 58)) (pc := 3) dX12_price_3 mK_X12_320 mf_X12_lasts rfl k0_53 rfl rfl rfl (Nat.le_of_ble_eq_true rfl) ⟨Nat.le_of_ble_eq_true rfl, Nat.le_of_ble_eq_true rfl⟩ (r_Md_lasts hV hq1) ?_
  refine g_istore_n (ls1 := [some (.ref 53), some (.int v1), some (.int v2), some (.int q1)]) (pc := 6) dX12_price_6 (by decide) rfl ?_
  refine g_aload_n (pc := 7) dX12_price_7 rfl ?_
  refine v_getI hV (pc := 8) dX12_price_8 fo_12_31 rfl k0_53 own_53 ?_
  refine g_iconst (v := (-1)) (pc := 11) dX12_price_11 (by decide) ?_
  refine g_icmp_eq (tgt := 77) (pc := 12) dX12_price_12 (by decide) (fun c6 => ?_) (fun c6 => ?_)
  · rw [if_pos c6] at h
    refine g_wk [false, false, false, true] rfl ?_
    exact t_Md_price_77 hV h
  · rw [if_neg c6] at h
    refine g_aload_n (pc := 15) dX12_price_15 rfl ?_
    refine v_getR hV (pc := 16) dX12_price_16 fo_12_15 rfl k0_53 r0_53_15 ?_
    refine g_iconst (v := 0) (pc := 19) dX12_price_19 (by decide) ?_
    refine g_iload_n (pc := 20) dX12_price_20 rfl ?_
    refine v_iastK hV (k := 0) (pc := 21) dX12_price_21 k0_62 own_62 (by decide) (by decide) ?_
    refine g_aload_n (pc := 22) dX12_price_22 rfl ?_
    refine v_getR hV (pc := 23) dX12_price_23 fo_12_15 rfl k0_53 r0_53_15 ?_
    refine g_iconst (v := 1) (pc := 26) dX12_price_26 (by decide) ?_
    refine g_iload_n (pc := 27) dX12_price_27 rfl ?_
    refine v_iastK hV (k := 1) (pc := 28) dX12_price_28 k0_62 own_62 (by decide) (by decide) ?_
    refine g_aload_n (pc := 29) dX12_price_29 rfl ?_
    refine v_getR hV (pc := 30) dX12_price_30 fo_12_15 rfl k0_53 r0_53_15 ?_
    refine g_iconst (v := 2) (pc := 33) dX12_price_33 (by decide) ?_
    refine g_iload_n (pc := 34) dX12_price_34 rfl ?_
    refine v_iastK hV (k := 2) (pc := 35) dX12_price_35 k0_62 own_62 (by decide) (by decide) ?_
    refine g_aload_n (pc := 36) dX12_price_36 rfl ?_
    refine v_getR hV (pc := 37) dX12_price_37 fo_12_15 rfl k0_53 r0_53_15 ?_
    refine g_iconst (v := 3) (pc := 40) dX12_price_40 (by decide) ?_
    refine g_aload_n (pc := 41) dX12_price_41 rfl ?_
    refine g_iload_n (pc := 42) dX12_price_42 rfl ?_
    refine g_iload_n (pc := 43) dX12_price_43 rfl ?_
    obtain ⟨q2, hq2, h⟩ := bnd h
    refine v_callVi hV (Mc := mX12_leads) (v := q2) (S1 := si (si (si S 62 0 v2) 62 1 q1) 62 2 v1) (As := [.int v1, .int v2]) (rest := [.int 3, .ref 62]) (q := (RX12, TX12, 58)) (pc := 44) dX12_price_44 mK_X12_323 mf_X12_leads rfl k0_53 rfl rfl rfl (Nat.le_of_ble_eq_true rfl) ⟨Nat.le_of_ble_eq_true rfl, Nat.le_of_ble_eq_true rfl⟩ (r_Md_leads hV hq2) ?_
    refine v_iastK hV (k := 3) (pc := 47) dX12_price_47 k0_62 own_62 (by decide) (by decide) ?_
    refine g_aload_n (pc := 48) dX12_price_48 rfl ?_
    refine v_getR hV (pc := 49) dX12_price_49 fo_12_15 rfl k0_53 r0_53_15 ?_
    refine g_iconst (v := 4) (pc := 52) dX12_price_52 (by decide) ?_
    refine g_aload_n (pc := 53) dX12_price_53 rfl ?_
    refine v_getR hV (pc := 54) dX12_price_54 fo_12_27 rfl k0_53 r0_53_27 ?_
    refine g_bipush (v := 80) (pc := 57) dX12_price_57 (by decide) ?_
    refine g_aload_n (pc := 59) dX12_price_59 rfl ?_
    refine g_iload_n (pc := 60) dX12_price_60 rfl ?_
    refine g_iload_n (pc := 61) dX12_price_61 rfl ?_
    obtain ⟨q3, hq3, h⟩ := bnd h
    refine v_callVi hV (Mc := mX12_leads) (v := q3) (S1 := si (si (si (si S 62 0 v2) 62 1 q1) 62 2 v1) 62 3 q2) (As := [.int v1, .int v2]) (rest := [.int 80, .ref 70, .int 4, .ref 62]) (q := (RX12, TX12, 58)) (pc := 62) dX12_price_62 mK_X12_323 mf_X12_leads rfl k0_53 rfl rfl rfl (Nat.le_of_ble_eq_true rfl) ⟨Nat.le_of_ble_eq_true rfl, Nat.le_of_ble_eq_true rfl⟩ (r_Md_leads hV hq3) ?_
    refine g_iadd (pc := 65) dX12_price_65 ?_
    by_cases c4 : inb (80 + q3) 320
    · rw [if_pos c4] at h
      refine v_iald hV (pc := 66) dX12_price_66 k0_70 own_70 c4 ?_
      refine v_iastK hV (k := 4) (pc := 67) dX12_price_67 k0_62 own_62 (by decide) (by decide) ?_
      refine g_aload_n (pc := 68) dX12_price_68 rfl ?_
      refine g_aload_n (pc := 69) dX12_price_69 rfl ?_
      refine v_getI hV (pc := 70) dX12_price_70 fo_12_31 rfl k0_53 own_53 ?_
      obtain ⟨q5, hq5, h⟩ := bnd h
      refine v_callVi hV (Mc := mX12_worthOf) (v := q5.1) (S1 := q5.2) (As := [.int (gi (si (si (si (si (si S 62 0 v2) 62 1 q1) 62 2 v1) 62 3 q2) 62 4 (gi (si (si (si (si S 62 0 v2) 62 1 q1) 62 2 v1) 62 3 q2) 70 (ix (80 + q3)))) 53 31)]) (rest := []) (q := (RX12, TX12, 58)) (pc := 73) dX12_price_73 mK_X12_326 mf_X12_worthOf rfl k0_53 rfl rfl rfl (Nat.le_of_ble_eq_true rfl) ⟨Nat.le_of_ble_eq_true rfl, Nat.le_of_ble_eq_true rfl⟩ (r_Md_worthOf hV hq5) ?_
      refine g_istore_n (ls1 := [some (.ref 53), some (.int v1), some (.int v2), some (.int q5.1)]) (pc := 76) dX12_price_76 (by decide) rfl ?_
      refine g_wk [false, false, false, true] rfl ?_
      exact t_Md_price_77 hV h
    · rw [if_neg c4] at h; cases h
def Md_dark_25 (S : Sm) : Option (Int32 × Sm) := (some (((-1), S)))
set_option maxRecDepth 4000 in
theorem t_Md_dark_25 {V : Sm → Wd} (hV : VwT V) {l : Launch} {Γ : Gm}  {S : Sm} {q : Int32 × Sm} (h : Md_dark_25 S = some q) : G mX12_dark l Γ (rmD 6 0 0) (mQ Γ (some (.int q.1)) (V q.2) 0 0) 0 0 25 [none, none, none, none, none] [] (V S) := by
  unfold Md_dark_25 at h
  refine g_iconst (v := (-1)) (pc := 25) dX12_dark_25 (by decide) ?_
  cases h
  exact g_iret (pc := 26) dX12_dark_26 rfl rfl (Nat.le_refl _) (Nat.le_refl _)
def Md_dark_104 (s0 : Int32) (S : Sm) : Option (Int32 × Sm) := (some ((s0, S)))
set_option maxRecDepth 4000 in
theorem t_Md_dark_104 {V : Sm → Wd} (hV : VwT V) {l : Launch} {Γ : Gm} {s0 : Int32} {S : Sm} {q : Int32 × Sm} (h : Md_dark_104 s0 S = some q) : G mX12_dark l Γ (rmD 6 0 0) (mQ Γ (some (.int q.1)) (V q.2) 0 0) 0 0 104 [none, none, none, none, none] [.int s0] (V S) := by
  unfold Md_dark_104 at h
  cases h
  exact g_iret (pc := 104) dX12_dark_104 rfl rfl (Nat.le_refl _) (Nat.le_refl _)
def Md_dark_58 (v1 : Int32) (v2 : Int32) (v3 : Int32) (s0 : Int32) (S : Sm) : Option (Int32 × Sm) := (if s0 = 0 then (if v3 = 0 then ((Md_leads v1 v2 S).bind fun q4 => (Md_dark_104 q4 S)) else (if v3 = 1 then ((Md_lasts v1 v2 S).bind fun q2 => (Md_dark_104 q2 S)) else ((Md_price v1 v2 S).bind fun q1 => (Md_dark_104 q1.1 q1.2)))) else (Md_dark_104 ((-1000000)) S))
set_option maxRecDepth 4000 in
theorem t_Md_dark_58 {V : Sm → Wd} (hV : VwT V) {l : Launch} {Γ : Gm} {v1 : Int32} {v2 : Int32} {v3 : Int32} {s0 : Int32} {S : Sm} {q : Int32 × Sm} (h : Md_dark_58 v1 v2 v3 s0 S = some q) : G mX12_dark l Γ (rmD 6 0 0) (mQ Γ (some (.int q.1)) (V q.2) 0 0) 0 0 58 [some (.ref 53), some (.int v1), some (.int v2), some (.int v3), none] [.int s0] (V S) := by
  unfold Md_dark_58 at h
  refine g_istore (ls1 := [some (.ref 53), some (.int v1), some (.int v2), some (.int v3), some (.int s0)]) (pc := 58) dX12_dark_58 (by decide) rfl ?_
  refine g_iload (pc := 60) dX12_dark_60 rfl ?_
  refine g_if_eq (tgt := 71) (pc := 62) dX12_dark_62 (by decide) (fun c6 => ?_) (fun c6 => ?_)
  · rw [if_pos c6] at h
    refine g_iload_n (pc := 71) dX12_dark_71 rfl ?_
    refine g_if_ne (tgt := 84) (pc := 72) dX12_dark_72 (by decide) (fun c5 => ?_) (fun c5 => ?_)
    · rw [if_neg c5] at h
      refine g_iload_n (pc := 84) dX12_dark_84 rfl ?_
      refine g_iconst (v := 1) (pc := 85) dX12_dark_85 (by decide) ?_
      refine g_icmp_ne (tgt := 98) (pc := 86) dX12_dark_86 (by decide) (fun c3 => ?_) (fun c3 => ?_)
      · rw [if_neg c3] at h
        refine g_aload_n (pc := 98) dX12_dark_98 rfl ?_
        refine g_iload_n (pc := 99) dX12_dark_99 rfl ?_
        refine g_iload_n (pc := 100) dX12_dark_100 rfl ?_
        obtain ⟨q1, hq1, h⟩ := bnd h
        refine v_callVi hV (Mc := mX12_price) (v := q1.1) (S1 := q1.2) (As := [.int v1, .int v2]) (rest := []) (q := (RX12, TX12, 58)) (pc := 101) dX12_dark_101 mK_X12_340 mf_X12_price rfl k0_53 rfl rfl rfl (Nat.le_of_ble_eq_true rfl) ⟨Nat.le_of_ble_eq_true rfl, Nat.le_of_ble_eq_true rfl⟩ (r_Md_price hV hq1) ?_
        refine g_wk [false, false, false, false, false] rfl ?_
        exact t_Md_dark_104 hV h
      · rw [if_pos c3] at h
        refine g_aload_n (pc := 89) dX12_dark_89 rfl ?_
        refine g_iload_n (pc := 90) dX12_dark_90 rfl ?_
        refine g_iload_n (pc := 91) dX12_dark_91 rfl ?_
        obtain ⟨q2, hq2, h⟩ := bnd h
        refine v_callVi hV (Mc := mX12_lasts) (v := q2) (S1 := S) (As := [.int v1, .int v2]) (rest := []) (q := (RX12, TX12, 58)) (pc := 92) dX12_dark_92 mK_X12_320 mf_X12_lasts rfl k0_53 rfl rfl rfl (Nat.le_of_ble_eq_true rfl) ⟨Nat.le_of_ble_eq_true rfl, Nat.le_of_ble_eq_true rfl⟩ (r_Md_lasts hV hq2) ?_
        refine g_goto (tgt := 104) (pc := 95) dX12_dark_95 (by decide) ?_
        refine g_wk [false, false, false, false, false] rfl ?_
        exact t_Md_dark_104 hV h
    · rw [if_pos c5] at h
      refine g_aload_n (pc := 75) dX12_dark_75 rfl ?_
      refine g_iload_n (pc := 76) dX12_dark_76 rfl ?_
      refine g_iload_n (pc := 77) dX12_dark_77 rfl ?_
      obtain ⟨q4, hq4, h⟩ := bnd h
      refine v_callVi hV (Mc := mX12_leads) (v := q4) (S1 := S) (As := [.int v1, .int v2]) (rest := []) (q := (RX12, TX12, 58)) (pc := 78) dX12_dark_78 mK_X12_323 mf_X12_leads rfl k0_53 rfl rfl rfl (Nat.le_of_ble_eq_true rfl) ⟨Nat.le_of_ble_eq_true rfl, Nat.le_of_ble_eq_true rfl⟩ (r_Md_leads hV hq4) ?_
      refine g_goto (tgt := 104) (pc := 81) dX12_dark_81 (by decide) ?_
      refine g_wk [false, false, false, false, false] rfl ?_
      exact t_Md_dark_104 hV h
  · rw [if_neg c6] at h
    refine g_ldcw (v := (-1000000)) (pc := 65) dX12_dark_65 kI_X12_339 ?_
    refine g_goto (tgt := 104) (pc := 68) dX12_dark_68 (by decide) ?_
    refine g_wk [false, false, false, false, false] rfl ?_
    exact t_Md_dark_104 hV h
def Md_dark_57 (v1 : Int32) (v2 : Int32) (v3 : Int32) (S : Sm) : Option (Int32 × Sm) := (Md_dark_58 v1 v2 v3 0 S)
set_option maxRecDepth 4000 in
theorem t_Md_dark_57 {V : Sm → Wd} (hV : VwT V) {l : Launch} {Γ : Gm} {v1 : Int32} {v2 : Int32} {v3 : Int32} {S : Sm} {q : Int32 × Sm} (h : Md_dark_57 v1 v2 v3 S = some q) : G mX12_dark l Γ (rmD 6 0 0) (mQ Γ (some (.int q.1)) (V q.2) 0 0) 0 0 57 [some (.ref 53), some (.int v1), some (.int v2), some (.int v3), none] [] (V S) := by
  unfold Md_dark_57 at h
  refine g_iconst (v := 0) (pc := 57) dX12_dark_57 (by decide) ?_
  exact t_Md_dark_58 hV h
def Md_dark (v1 : Int32) (v2 : Int32) (v3 : Int32) (S : Sm) : Option (Int32 × Sm) := (if (Md_isMouth v1 S) = 0 then (Md_dark_25 S) else (if (Md_isLamp v2 S) = 0 then (Md_dark_25 S) else (if (Md_in v3 0 2) = 0 then (Md_dark_25 S) else (if v3 = 0 then (if v2 = 5 then (Md_dark_57 v1 v2 v3 S) else (if inb ((0 + (5 * v1)) + v2) 320 then (if (gi S 70 (ix ((0 + (5 * v1)) + v2))) = ((-2)) then (Md_dark_58 v1 v2 v3 1 S) else (Md_dark_57 v1 v2 v3 S)) else none)) else (Md_dark_57 v1 v2 v3 S)))))
set_option maxRecDepth 4000 in
theorem r_Md_dark {V : Sm → Wd} (hV : VwT V) {v1 : Int32} {v2 : Int32} {v3 : Int32} {S : Sm} {q : Int32 × Sm} (h : Md_dark v1 v2 v3 S = some q) : Runs 6 mX12_dark [.ref 53, .int v1, .int v2, .int v3] (V S) (some (.int q.1)) (V q.2) 0 0 := by
  unfold Md_dark at h
  refine Runs.of2 [some (.ref 53), some (.int v1), some (.int v2), some (.int v3), none] 1 rfl rfl (Nat.le_of_ble_eq_true rfl) (fun l Γ => ?_)
  refine g_aload_n (pc := 0) dX12_dark_0 rfl ?_
  refine g_iload_n (pc := 1) dX12_dark_1 rfl ?_
  refine v_callVi hV (Mc := mX12_isMouth) (v := Md_isMouth v1 S) (S1 := S) (As := [.int v1]) (rest := []) (q := (RX12, TX12, 58)) (pc := 2) dX12_dark_2 mK_X12_333 mf_X12_isMouth rfl k0_53 rfl rfl rfl (Nat.le_of_ble_eq_true rfl) ⟨Nat.le_of_ble_eq_true rfl, Nat.le_of_ble_eq_true rfl⟩ (r_Md_isMouth hV rfl) ?_
  refine g_if_eq (tgt := 25) (pc := 5) dX12_dark_5 (by decide) (fun c13 => ?_) (fun c13 => ?_)
  · rw [if_pos c13] at h
    refine g_wk [false, false, false, false, false] rfl ?_
    exact t_Md_dark_25 hV h
  · rw [if_neg c13] at h
    refine g_aload_n (pc := 8) dX12_dark_8 rfl ?_
    refine g_iload_n (pc := 9) dX12_dark_9 rfl ?_
    refine v_callVi hV (Mc := mX12_isLamp) (v := Md_isLamp v2 S) (S1 := S) (As := [.int v2]) (rest := []) (q := (RX12, TX12, 58)) (pc := 10) dX12_dark_10 mK_X12_336 mf_X12_isLamp rfl k0_53 rfl rfl rfl (Nat.le_of_ble_eq_true rfl) ⟨Nat.le_of_ble_eq_true rfl, Nat.le_of_ble_eq_true rfl⟩ (r_Md_isLamp hV rfl) ?_
    refine g_if_eq (tgt := 25) (pc := 13) dX12_dark_13 (by decide) (fun c12 => ?_) (fun c12 => ?_)
    · rw [if_pos c12] at h
      refine g_wk [false, false, false, false, false] rfl ?_
      exact t_Md_dark_25 hV h
    · rw [if_neg c12] at h
      refine g_iload_n (pc := 16) dX12_dark_16 rfl ?_
      refine g_iconst (v := 0) (pc := 17) dX12_dark_17 (by decide) ?_
      refine g_iconst (v := 2) (pc := 18) dX12_dark_18 (by decide) ?_
      refine v_callSi (Mc := mX12_in) (v := Md_in v3 0 2) (S1 := S) (As := [.int v3, .int 0, .int 2]) (rest := []) (pc := 19) dX12_dark_19 mK_X12_238 mf_X12_in rfl rfl (Nat.le_of_ble_eq_true rfl) ⟨Nat.le_of_ble_eq_true rfl, Nat.le_of_ble_eq_true rfl⟩ (r_Md_in hV rfl) ?_
      refine g_if_ne (tgt := 27) (pc := 22) dX12_dark_22 (by decide) (fun c11 => ?_) (fun c11 => ?_)
      · rw [if_neg c11] at h
        refine g_iload_n (pc := 27) dX12_dark_27 rfl ?_
        refine g_if_ne (tgt := 57) (pc := 28) dX12_dark_28 (by decide) (fun c10 => ?_) (fun c10 => ?_)
        · rw [if_neg c10] at h
          exact t_Md_dark_57 hV h
        · rw [if_pos c10] at h
          refine g_iload_n (pc := 31) dX12_dark_31 rfl ?_
          refine g_iconst (v := 5) (pc := 32) dX12_dark_32 (by decide) ?_
          refine g_icmp_eq (tgt := 57) (pc := 33) dX12_dark_33 (by decide) (fun c9 => ?_) (fun c9 => ?_)
          · rw [if_pos c9] at h
            exact t_Md_dark_57 hV h
          · rw [if_neg c9] at h
            refine g_aload_n (pc := 36) dX12_dark_36 rfl ?_
            refine v_getR hV (pc := 37) dX12_dark_37 fo_12_27 rfl k0_53 r0_53_27 ?_
            refine g_iconst (v := 0) (pc := 40) dX12_dark_40 (by decide) ?_
            refine g_iconst (v := 5) (pc := 41) dX12_dark_41 (by decide) ?_
            refine g_iload_n (pc := 42) dX12_dark_42 rfl ?_
            refine g_imul (pc := 43) dX12_dark_43 ?_
            refine g_iadd (pc := 44) dX12_dark_44 ?_
            refine g_iload_n (pc := 45) dX12_dark_45 rfl ?_
            refine g_iadd (pc := 46) dX12_dark_46 ?_
            by_cases c7 : inb ((0 + (5 * v1)) + v2) 320
            · rw [if_pos c7] at h
              refine v_iald hV (pc := 47) dX12_dark_47 k0_70 own_70 c7 ?_
              refine g_bipush (v := (-2)) (pc := 48) dX12_dark_48 (by decide) ?_
              refine g_icmp_ne (tgt := 57) (pc := 50) dX12_dark_50 (by decide) (fun c8 => ?_) (fun c8 => ?_)
              · rw [if_neg c8] at h
                exact t_Md_dark_57 hV h
              · rw [if_pos c8] at h
                refine g_iconst (v := 1) (pc := 53) dX12_dark_53 (by decide) ?_
                refine g_goto (tgt := 58) (pc := 54) dX12_dark_54 (by decide) ?_
                exact t_Md_dark_58 hV h
            · rw [if_neg c7] at h; cases h
      · rw [if_pos c11] at h
        refine g_wk [false, false, false, false, false] rfl ?_
        exact t_Md_dark_25 hV h
def Md_faded_18 (v1 : Int32) (S : Sm) : Option (Int32) := (some v1)
set_option maxRecDepth 4000 in
theorem t_Md_faded_18 {V : Sm → Wd} (hV : VwT V) {l : Launch} {Γ : Gm} {v1 : Int32} {S : Sm} {q : Int32} (h : Md_faded_18 v1 S = some q) : G mX12_faded l Γ (rmD 0 0 0) (mQ Γ (some (.int q)) (V S) 0 0) 0 0 18 [none, some (.int v1), none, none] [] (V S) := by
  unfold Md_faded_18 at h
  refine g_iload_n (pc := 18) dX12_faded_18 rfl ?_
  cases h
  exact g_iret (pc := 19) dX12_faded_19 rfl rfl (Nat.le_refl _) (Nat.le_refl _)
def Md_faded_40 (s0 : Int32) (S : Sm) : Option (Int32) := (some s0)
set_option maxRecDepth 4000 in
theorem t_Md_faded_40 {V : Sm → Wd} (hV : VwT V) {l : Launch} {Γ : Gm} {s0 : Int32} {S : Sm} {q : Int32} (h : Md_faded_40 s0 S = some q) : G mX12_faded l Γ (rmD 0 0 0) (mQ Γ (some (.int q)) (V S) 0 0) 0 0 40 [none, none, none, none] [.int s0] (V S) := by
  unfold Md_faded_40 at h
  cases h
  exact g_iret (pc := 40) dX12_faded_40 rfl rfl (Nat.le_refl _) (Nat.le_refl _)
def Md_faded (v1 : Int32) (v2 : Int32) (S : Sm) : Option (Int32) := (if v1 = 5 then (Md_faded_18 v1 S) else (if (gi S 68 3) = 0 then (Md_faded_18 v1 S) else (if (0 : Int32) < v2 then (if (gi S 68 3) = (0 : Int32) then none else (if (0 : Int32) ≤ (v1 - (v2 / (gi S 68 3))) then (Md_faded_40 (v1 - (v2 / (gi S 68 3))) S) else (Md_faded_40 5 S))) else (Md_faded_18 v1 S))))
set_option maxRecDepth 4000 in
theorem r_Md_faded {V : Sm → Wd} (hV : VwT V) {v1 : Int32} {v2 : Int32} {S : Sm} {q : Int32} (h : Md_faded v1 v2 S = some q) : Runs 0 mX12_faded [.ref 53, .int v1, .int v2] (V S) (some (.int q)) (V S) 0 0 := by
  unfold Md_faded at h
  refine Runs.of2 [some (.ref 53), some (.int v1), some (.int v2), none] 1 rfl rfl (Nat.le_of_ble_eq_true rfl) (fun l Γ => ?_)
  refine g_iload_n (pc := 0) dX12_faded_0 rfl ?_
  refine g_iconst (v := 5) (pc := 1) dX12_faded_1 (by decide) ?_
  refine g_icmp_eq (tgt := 18) (pc := 2) dX12_faded_2 (by decide) (fun c5 => ?_) (fun c5 => ?_)
  · rw [if_pos c5] at h
    refine g_wk [false, true, false, false] rfl ?_
    exact t_Md_faded_18 hV h
  · rw [if_neg c5] at h
    refine g_aload_n (pc := 5) dX12_faded_5 rfl ?_
    refine v_getR hV (pc := 6) dX12_faded_6 fo_12_24 rfl k0_53 r0_53_24 ?_
    refine g_iconst (v := 3) (pc := 9) dX12_faded_9 (by decide) ?_
    refine v_ialdK hV (k := 3) (pc := 10) dX12_faded_10 k0_68 own_68 (by decide) (by decide) ?_
    refine g_if_eq (tgt := 18) (pc := 11) dX12_faded_11 (by decide) (fun c4 => ?_) (fun c4 => ?_)
    · rw [if_pos c4] at h
      refine g_wk [false, true, false, false] rfl ?_
      exact t_Md_faded_18 hV h
    · rw [if_neg c4] at h
      refine g_iload_n (pc := 14) dX12_faded_14 rfl ?_
      refine g_if_gt (tgt := 20) (pc := 15) dX12_faded_15 (by decide) (fun c3 => ?_) (fun c3 => ?_)
      · rw [if_pos c3] at h
        refine g_iload_n (pc := 20) dX12_faded_20 rfl ?_
        refine g_iload_n (pc := 21) dX12_faded_21 rfl ?_
        refine g_aload_n (pc := 22) dX12_faded_22 rfl ?_
        refine v_getR hV (pc := 23) dX12_faded_23 fo_12_24 rfl k0_53 r0_53_24 ?_
        refine g_iconst (v := 3) (pc := 26) dX12_faded_26 (by decide) ?_
        refine v_ialdK hV (k := 3) (pc := 27) dX12_faded_27 k0_68 own_68 (by decide) (by decide) ?_
        by_cases c2 : (gi S 68 3) = (0 : Int32)
        · rw [if_pos c2] at h; cases h
        · rw [if_neg c2] at h
          refine g_idiv (pc := 28) dX12_faded_28 c2 ?_
          refine g_isub (pc := 29) dX12_faded_29 ?_
          refine g_istore_n (ls1 := [some (.ref 53), some (.int v1), some (.int v2), some (.int (v1 - (v2 / (gi S 68 3))))]) (pc := 30) dX12_faded_30 (by decide) rfl ?_
          refine g_iload_n (pc := 31) dX12_faded_31 rfl ?_
          refine g_if_ge (tgt := 39) (pc := 32) dX12_faded_32 (by decide) (fun c1 => ?_) (fun c1 => ?_)
          · rw [if_pos c1] at h
            refine g_iload_n (pc := 39) dX12_faded_39 rfl ?_
            refine g_wk [false, false, false, false] rfl ?_
            exact t_Md_faded_40 hV h
          · rw [if_neg c1] at h
            refine g_iconst (v := 5) (pc := 35) dX12_faded_35 (by decide) ?_
            refine g_goto (tgt := 40) (pc := 36) dX12_faded_36 (by decide) ?_
            refine g_wk [false, false, false, false] rfl ?_
            exact t_Md_faded_40 hV h
      · rw [if_neg c3] at h
        refine g_wk [false, true, false, false] rfl ?_
        exact t_Md_faded_18 hV h
def Md_lampOf (v1 : Int32) (S : Sm) : Option (Int32) := ((Md_of v1 1 S).bind fun q1 => ((Md_of v1 2 S).bind fun q2 => ((Md_faded q1 ((gi S 70 137) - q2) S).bind fun q3 => (some q3))))
set_option maxRecDepth 4000 in
theorem r_Md_lampOf {V : Sm → Wd} (hV : VwT V) {v1 : Int32} {S : Sm} {q : Int32} (h : Md_lampOf v1 S = some q) : Runs 1 mX12_lampOf [.ref 53, .int v1] (V S) (some (.int q)) (V S) 0 0 := by
  unfold Md_lampOf at h
  refine Runs.of2 [some (.ref 53), some (.int v1)] 0 rfl rfl (Nat.le_of_ble_eq_true rfl) (fun l Γ => ?_)
  refine g_aload_n (pc := 0) dX12_lampOf_0 rfl ?_
  refine g_aload_n (pc := 1) dX12_lampOf_1 rfl ?_
  refine g_iload_n (pc := 2) dX12_lampOf_2 rfl ?_
  refine g_iconst (v := 1) (pc := 3) dX12_lampOf_3 (by decide) ?_
  obtain ⟨q1, hq1, h⟩ := bnd h
  refine v_callVi hV (Mc := mX12_of) (v := q1) (S1 := S) (As := [.int v1, .int 1]) (rest := [.ref 53]) (q := (RX12, TX12, 58)) (pc := 4) dX12_lampOf_4 mK_X12_343 mf_X12_of rfl k0_53 rfl rfl rfl (Nat.le_of_ble_eq_true rfl) ⟨Nat.le_of_ble_eq_true rfl, Nat.le_of_ble_eq_true rfl⟩ (r_Md_of hV hq1) ?_
  refine g_aload_n (pc := 7) dX12_lampOf_7 rfl ?_
  refine v_getR hV (pc := 8) dX12_lampOf_8 fo_12_27 rfl k0_53 r0_53_27 ?_
  refine g_sipush (v := 137) (pc := 11) dX12_lampOf_11 (by decide) ?_
  refine v_ialdK hV (k := 137) (pc := 14) dX12_lampOf_14 k0_70 own_70 (by decide) (by decide) ?_
  refine g_aload_n (pc := 15) dX12_lampOf_15 rfl ?_
  refine g_iload_n (pc := 16) dX12_lampOf_16 rfl ?_
  refine g_iconst (v := 2) (pc := 17) dX12_lampOf_17 (by decide) ?_
  obtain ⟨q2, hq2, h⟩ := bnd h
  refine v_callVi hV (Mc := mX12_of) (v := q2) (S1 := S) (As := [.int v1, .int 2]) (rest := [.int (gi S 70 137), .int q1, .ref 53]) (q := (RX12, TX12, 58)) (pc := 18) dX12_lampOf_18 mK_X12_343 mf_X12_of rfl k0_53 rfl rfl rfl (Nat.le_of_ble_eq_true rfl) ⟨Nat.le_of_ble_eq_true rfl, Nat.le_of_ble_eq_true rfl⟩ (r_Md_of hV hq2) ?_
  refine g_isub (pc := 21) dX12_lampOf_21 ?_
  obtain ⟨q3, hq3, h⟩ := bnd h
  refine v_callVi hV (Mc := mX12_faded) (v := q3) (S1 := S) (As := [.int q1, .int ((gi S 70 137) - q2)]) (rest := []) (q := (RX12, TX12, 58)) (pc := 22) dX12_lampOf_22 mK_X12_346 mf_X12_faded rfl k0_53 rfl rfl rfl (Nat.le_of_ble_eq_true rfl) ⟨Nat.le_of_ble_eq_true rfl, Nat.le_of_ble_eq_true rfl⟩ (r_Md_faded hV hq3) ?_
  cases h
  exact g_iret (pc := 25) dX12_lampOf_25 rfl rfl (Nat.le_refl _) (Nat.le_refl _)
def Md_train_91 (s0 : Int32) (S : Sm) : Option (Int32 × Sm) := (some ((s0, S)))
set_option maxRecDepth 4000 in
theorem t_Md_train_91 {V : Sm → Wd} (hV : VwT V) {l : Launch} {Γ : Gm} {s0 : Int32} {S : Sm} {q : Int32 × Sm} (h : Md_train_91 s0 S = some q) : G mX12_train l Γ (rmD 2 0 0) (mQ Γ (some (.int q.1)) (V q.2) 0 0) 0 0 91 [none, none, none] [.int s0] (V S) := by
  unfold Md_train_91 at h
  cases h
  exact g_iret (pc := 91) dX12_train_91 rfl rfl (Nat.le_refl _) (Nat.le_refl _)
def Md_train_23 (v1 : Int32) (v2 : Int32) (s1 : Int32) (S : Sm) : Option (Int32 × Sm) := (if (gi (si S 53 0 s1) 53 0) = 1 then (some ((0, si S 53 0 s1))) else (if v2 = 0 then ((Md_of v1 0 (si S 53 0 s1)).bind fun q7 => (Md_train_91 q7 (si S 53 0 s1))) else (if v2 = 1 then ((Md_lampOf v1 (si S 53 0 s1)).bind fun q5 => (Md_train_91 q5 (si S 53 0 s1))) else (if v2 = 2 then ((Md_of v1 4 (si S 53 0 s1)).bind fun q3 => (Md_train_91 q3 (si S 53 0 s1))) else ((Md_of v1 5 (si S 53 0 s1)).bind fun q1 => (if q1 = ((-1)) then (Md_train_91 0 (si S 53 0 s1)) else (Md_train_91 1 (si S 53 0 s1))))))))
set_option maxRecDepth 4000 in
theorem t_Md_train_23 {V : Sm → Wd} (hV : VwT V) {l : Launch} {Γ : Gm} {v1 : Int32} {v2 : Int32} {s1 : Int32} {S : Sm} {q : Int32 × Sm} (h : Md_train_23 v1 v2 s1 S = some q) : G mX12_train l Γ (rmD 2 0 0) (mQ Γ (some (.int q.1)) (V q.2) 0 0) 0 0 23 [some (.ref 53), some (.int v1), some (.int v2)] [.int s1, .ref 53] (V S) := by
  unfold Md_train_23 at h
  refine v_putI hV (pc := 23) dX12_train_23 fo_12_0 rfl k0_53 own_53 rfl ?_
  refine g_aload_n (pc := 26) dX12_train_26 rfl ?_
  refine v_getI hV (pc := 27) dX12_train_27 fo_12_0 rfl k0_53 own_53 ?_
  refine g_iconst (v := 1) (pc := 30) dX12_train_30 (by decide) ?_
  refine g_icmp_ne (tgt := 36) (pc := 31) dX12_train_31 (by decide) (fun c9 => ?_) (fun c9 => ?_)
  · rw [if_neg c9] at h
    refine g_iload_n (pc := 36) dX12_train_36 rfl ?_
    refine g_if_ne (tgt := 49) (pc := 37) dX12_train_37 (by decide) (fun c8 => ?_) (fun c8 => ?_)
    · rw [if_neg c8] at h
      refine g_iload_n (pc := 49) dX12_train_49 rfl ?_
      refine g_iconst (v := 1) (pc := 50) dX12_train_50 (by decide) ?_
      refine g_icmp_ne (tgt := 62) (pc := 51) dX12_train_51 (by decide) (fun c6 => ?_) (fun c6 => ?_)
      · rw [if_neg c6] at h
        refine g_iload_n (pc := 62) dX12_train_62 rfl ?_
        refine g_iconst (v := 2) (pc := 63) dX12_train_63 (by decide) ?_
        refine g_icmp_ne (tgt := 76) (pc := 64) dX12_train_64 (by decide) (fun c4 => ?_) (fun c4 => ?_)
        · rw [if_neg c4] at h
          refine g_aload_n (pc := 76) dX12_train_76 rfl ?_
          refine g_iload_n (pc := 77) dX12_train_77 rfl ?_
          refine g_iconst (v := 5) (pc := 78) dX12_train_78 (by decide) ?_
          obtain ⟨q1, hq1, h⟩ := bnd h
          refine v_callVi hV (Mc := mX12_of) (v := q1) (S1 := si S 53 0 s1) (As := [.int v1, .int 5]) (rest := []) (q := (RX12, TX12, 58)) (pc := 79) dX12_train_79 mK_X12_343 mf_X12_of rfl k0_53 rfl rfl rfl (Nat.le_of_ble_eq_true rfl) ⟨Nat.le_of_ble_eq_true rfl, Nat.le_of_ble_eq_true rfl⟩ (r_Md_of hV hq1) ?_
          refine g_iconst (v := (-1)) (pc := 82) dX12_train_82 (by decide) ?_
          refine g_icmp_ne (tgt := 90) (pc := 83) dX12_train_83 (by decide) (fun c2 => ?_) (fun c2 => ?_)
          · rw [if_neg c2] at h
            refine g_iconst (v := 1) (pc := 90) dX12_train_90 (by decide) ?_
            refine g_wk [false, false, false] rfl ?_
            exact t_Md_train_91 hV h
          · rw [if_pos c2] at h
            refine g_iconst (v := 0) (pc := 86) dX12_train_86 (by decide) ?_
            refine g_goto (tgt := 91) (pc := 87) dX12_train_87 (by decide) ?_
            refine g_wk [false, false, false] rfl ?_
            exact t_Md_train_91 hV h
        · rw [if_pos c4] at h
          refine g_aload_n (pc := 67) dX12_train_67 rfl ?_
          refine g_iload_n (pc := 68) dX12_train_68 rfl ?_
          refine g_iconst (v := 4) (pc := 69) dX12_train_69 (by decide) ?_
          obtain ⟨q3, hq3, h⟩ := bnd h
          refine v_callVi hV (Mc := mX12_of) (v := q3) (S1 := si S 53 0 s1) (As := [.int v1, .int 4]) (rest := []) (q := (RX12, TX12, 58)) (pc := 70) dX12_train_70 mK_X12_343 mf_X12_of rfl k0_53 rfl rfl rfl (Nat.le_of_ble_eq_true rfl) ⟨Nat.le_of_ble_eq_true rfl, Nat.le_of_ble_eq_true rfl⟩ (r_Md_of hV hq3) ?_
          refine g_goto (tgt := 91) (pc := 73) dX12_train_73 (by decide) ?_
          refine g_wk [false, false, false] rfl ?_
          exact t_Md_train_91 hV h
      · rw [if_pos c6] at h
        refine g_aload_n (pc := 54) dX12_train_54 rfl ?_
        refine g_iload_n (pc := 55) dX12_train_55 rfl ?_
        obtain ⟨q5, hq5, h⟩ := bnd h
        refine v_callVi hV (Mc := mX12_lampOf) (v := q5) (S1 := si S 53 0 s1) (As := [.int v1]) (rest := []) (q := (RX12, TX12, 58)) (pc := 56) dX12_train_56 mK_X12_352 mf_X12_lampOf rfl k0_53 rfl rfl rfl (Nat.le_of_ble_eq_true rfl) ⟨Nat.le_of_ble_eq_true rfl, Nat.le_of_ble_eq_true rfl⟩ (r_Md_lampOf hV hq5) ?_
        refine g_goto (tgt := 91) (pc := 59) dX12_train_59 (by decide) ?_
        refine g_wk [false, false, false] rfl ?_
        exact t_Md_train_91 hV h
    · rw [if_pos c8] at h
      refine g_aload_n (pc := 40) dX12_train_40 rfl ?_
      refine g_iload_n (pc := 41) dX12_train_41 rfl ?_
      refine g_iconst (v := 0) (pc := 42) dX12_train_42 (by decide) ?_
      obtain ⟨q7, hq7, h⟩ := bnd h
      refine v_callVi hV (Mc := mX12_of) (v := q7) (S1 := si S 53 0 s1) (As := [.int v1, .int 0]) (rest := []) (q := (RX12, TX12, 58)) (pc := 43) dX12_train_43 mK_X12_343 mf_X12_of rfl k0_53 rfl rfl rfl (Nat.le_of_ble_eq_true rfl) ⟨Nat.le_of_ble_eq_true rfl, Nat.le_of_ble_eq_true rfl⟩ (r_Md_of hV hq7) ?_
      refine g_goto (tgt := 91) (pc := 46) dX12_train_46 (by decide) ?_
      refine g_wk [false, false, false] rfl ?_
      exact t_Md_train_91 hV h
  · rw [if_pos c9] at h
    refine g_iconst (v := 0) (pc := 34) dX12_train_34 (by decide) ?_
    cases h
    exact g_iret (pc := 35) dX12_train_35 rfl rfl (Nat.le_refl _) (Nat.le_refl _)
def Md_train_22 (v1 : Int32) (v2 : Int32) (S : Sm) : Option (Int32 × Sm) := (Md_train_23 v1 v2 1 S)
set_option maxRecDepth 4000 in
theorem t_Md_train_22 {V : Sm → Wd} (hV : VwT V) {l : Launch} {Γ : Gm} {v1 : Int32} {v2 : Int32} {S : Sm} {q : Int32 × Sm} (h : Md_train_22 v1 v2 S = some q) : G mX12_train l Γ (rmD 2 0 0) (mQ Γ (some (.int q.1)) (V q.2) 0 0) 0 0 22 [some (.ref 53), some (.int v1), some (.int v2)] [.ref 53] (V S) := by
  unfold Md_train_22 at h
  refine g_iconst (v := 1) (pc := 22) dX12_train_22 (by decide) ?_
  exact t_Md_train_23 hV h
def Md_train (v1 : Int32) (v2 : Int32) (S : Sm) : Option (Int32 × Sm) := (if (Md_isTrain v1 S) = 0 then (Md_train_22 v1 v2 S) else (if (Md_in v2 0 3) = 0 then (Md_train_22 v1 v2 S) else (Md_train_23 v1 v2 0 S)))
set_option maxRecDepth 4000 in
theorem r_Md_train {V : Sm → Wd} (hV : VwT V) {v1 : Int32} {v2 : Int32} {S : Sm} {q : Int32 × Sm} (h : Md_train v1 v2 S = some q) : Runs 2 mX12_train [.ref 53, .int v1, .int v2] (V S) (some (.int q.1)) (V q.2) 0 0 := by
  unfold Md_train at h
  refine Runs.of2 [some (.ref 53), some (.int v1), some (.int v2)] 0 rfl rfl (Nat.le_of_ble_eq_true rfl) (fun l Γ => ?_)
  refine g_aload_n (pc := 0) dX12_train_0 rfl ?_
  refine g_aload_n (pc := 1) dX12_train_1 rfl ?_
  refine g_iload_n (pc := 2) dX12_train_2 rfl ?_
  refine v_callVi hV (Mc := mX12_isTrain) (v := Md_isTrain v1 S) (S1 := S) (As := [.int v1]) (rest := [.ref 53]) (q := (RX12, TX12, 58)) (pc := 3) dX12_train_3 mK_X12_349 mf_X12_isTrain rfl k0_53 rfl rfl rfl (Nat.le_of_ble_eq_true rfl) ⟨Nat.le_of_ble_eq_true rfl, Nat.le_of_ble_eq_true rfl⟩ (r_Md_isTrain hV rfl) ?_
  refine g_if_eq (tgt := 22) (pc := 6) dX12_train_6 (by decide) (fun c11 => ?_) (fun c11 => ?_)
  · rw [if_pos c11] at h
    exact t_Md_train_22 hV h
  · rw [if_neg c11] at h
    refine g_iload_n (pc := 9) dX12_train_9 rfl ?_
    refine g_iconst (v := 0) (pc := 10) dX12_train_10 (by decide) ?_
    refine g_iconst (v := 3) (pc := 11) dX12_train_11 (by decide) ?_
    refine v_callSi (Mc := mX12_in) (v := Md_in v2 0 3) (S1 := S) (As := [.int v2, .int 0, .int 3]) (rest := [.ref 53]) (pc := 12) dX12_train_12 mK_X12_238 mf_X12_in rfl rfl (Nat.le_of_ble_eq_true rfl) ⟨Nat.le_of_ble_eq_true rfl, Nat.le_of_ble_eq_true rfl⟩ (r_Md_in hV rfl) ?_
    refine g_if_eq (tgt := 22) (pc := 15) dX12_train_15 (by decide) (fun c10 => ?_) (fun c10 => ?_)
    · rw [if_pos c10] at h
      exact t_Md_train_22 hV h
    · rw [if_neg c10] at h
      refine g_iconst (v := 0) (pc := 18) dX12_train_18 (by decide) ?_
      refine g_goto (tgt := 23) (pc := 19) dX12_train_19 (by decide) ?_
      exact t_Md_train_23 hV h
def Md_guards_21 (s0 : Int32) (S : Sm) : Option (Int32) := (some s0)
set_option maxRecDepth 4000 in
theorem t_Md_guards_21 {V : Sm → Wd} (hV : VwT V) {l : Launch} {Γ : Gm} {s0 : Int32} {S : Sm} {q : Int32} (h : Md_guards_21 s0 S = some q) : G mX12_guards l Γ (rmD 2 0 0) (mQ Γ (some (.int q)) (V S) 0 0) 0 0 21 [none, none] [.int s0] (V S) := by
  unfold Md_guards_21 at h
  cases h
  exact g_iret (pc := 21) dX12_guards_21 rfl rfl (Nat.le_refl _) (Nat.le_refl _)
def Md_guards (v1 : Int32) (S : Sm) : Option (Int32) := (if (Md_isMouth v1 S) = 0 then (Md_guards_21 ((-1)) S) else (if inb (80 + v1) 320 then (Md_guards_21 (gi S 70 (ix (80 + v1))) S) else none))
set_option maxRecDepth 4000 in
theorem r_Md_guards {V : Sm → Wd} (hV : VwT V) {v1 : Int32} {S : Sm} {q : Int32} (h : Md_guards v1 S = some q) : Runs 2 mX12_guards [.ref 53, .int v1] (V S) (some (.int q)) (V S) 0 0 := by
  unfold Md_guards at h
  refine Runs.of2 [some (.ref 53), some (.int v1)] 0 rfl rfl (Nat.le_of_ble_eq_true rfl) (fun l Γ => ?_)
  refine g_aload_n (pc := 0) dX12_guards_0 rfl ?_
  refine g_iload_n (pc := 1) dX12_guards_1 rfl ?_
  refine v_callVi hV (Mc := mX12_isMouth) (v := Md_isMouth v1 S) (S1 := S) (As := [.int v1]) (rest := []) (q := (RX12, TX12, 58)) (pc := 2) dX12_guards_2 mK_X12_333 mf_X12_isMouth rfl k0_53 rfl rfl rfl (Nat.le_of_ble_eq_true rfl) ⟨Nat.le_of_ble_eq_true rfl, Nat.le_of_ble_eq_true rfl⟩ (r_Md_isMouth hV rfl) ?_
  refine g_if_eq (tgt := 20) (pc := 5) dX12_guards_5 (by decide) (fun c2 => ?_) (fun c2 => ?_)
  · rw [if_pos c2] at h
    refine g_iconst (v := (-1)) (pc := 20) dX12_guards_20 (by decide) ?_
    refine g_wk [false, false] rfl ?_
    exact t_Md_guards_21 hV h
  · rw [if_neg c2] at h
    refine g_aload_n (pc := 8) dX12_guards_8 rfl ?_
    refine v_getR hV (pc := 9) dX12_guards_9 fo_12_27 rfl k0_53 r0_53_27 ?_
    refine g_bipush (v := 80) (pc := 12) dX12_guards_12 (by decide) ?_
    refine g_iload_n (pc := 14) dX12_guards_14 rfl ?_
    refine g_iadd (pc := 15) dX12_guards_15 ?_
    by_cases c1 : inb (80 + v1) 320
    · rw [if_pos c1] at h
      refine v_iald hV (pc := 16) dX12_guards_16 k0_70 own_70 c1 ?_
      refine g_goto (tgt := 21) (pc := 17) dX12_guards_17 (by decide) ?_
      refine g_wk [false, false] rfl ?_
      exact t_Md_guards_21 hV h
    · rw [if_neg c1] at h; cases h
def Md_law (v1 : Int32) (S : Sm) : Int32 × Sm := (if (Md_in v1 ((-1)) ((gi S 53 13) - 1)) = 0 then ((0, S)) else ((1, si S 53 31 v1)))
set_option maxRecDepth 4000 in
theorem r_Md_law {V : Sm → Wd} (hV : VwT V) {v1 : Int32} {S : Sm} {q : Int32 × Sm} (h : Md_law v1 S = q) : Runs 1 mX12_law [.ref 53, .int v1] (V S) (some (.int q.1)) (V q.2) 0 0 := by
  unfold Md_law at h
  refine Runs.of2 [some (.ref 53), some (.int v1)] 0 rfl rfl (Nat.le_of_ble_eq_true rfl) (fun l Γ => ?_)
  refine g_iload_n (pc := 0) dX12_law_0 rfl ?_
  refine g_iconst (v := (-1)) (pc := 1) dX12_law_1 (by decide) ?_
  refine g_aload_n (pc := 2) dX12_law_2 rfl ?_
  refine v_getI hV (pc := 3) dX12_law_3 fo_12_13 rfl k0_53 own_53 ?_
  refine g_iconst (v := 1) (pc := 6) dX12_law_6 (by decide) ?_
  refine g_isub (pc := 7) dX12_law_7 ?_
  refine v_callSi (Mc := mX12_in) (v := Md_in v1 ((-1)) ((gi S 53 13) - 1)) (S1 := S) (As := [.int v1, .int ((-1)), .int ((gi S 53 13) - 1)]) (rest := []) (pc := 8) dX12_law_8 mK_X12_238 mf_X12_in rfl rfl (Nat.le_of_ble_eq_true rfl) ⟨Nat.le_of_ble_eq_true rfl, Nat.le_of_ble_eq_true rfl⟩ (r_Md_in hV rfl) ?_
  refine g_if_ne (tgt := 16) (pc := 11) dX12_law_11 (by decide) (fun c1 => ?_) (fun c1 => ?_)
  · rw [if_neg c1] at h
    refine g_aload_n (pc := 16) dX12_law_16 rfl ?_
    refine g_iload_n (pc := 17) dX12_law_17 rfl ?_
    refine v_putI hV (pc := 18) dX12_law_18 fo_12_31 rfl k0_53 own_53 rfl ?_
    refine g_iconst (v := 1) (pc := 21) dX12_law_21 (by decide) ?_
    subst h
    exact g_iret (u := 1) (pc := 22) dX12_law_22 rfl (by decide) (Nat.le_refl _) (Nat.le_refl _)
  · rw [if_pos c1] at h
    refine g_iconst (v := 0) (pc := 14) dX12_law_14 (by decide) ?_
    subst h
    exact g_iret (u := 0) (pc := 15) dX12_law_15 rfl (by decide) (Nat.le_refl _) (Nat.le_refl _)
def hd_Md_keep_L54 (V : Sm → Wd) (l : Launch) (Γ : Gm) (rF : Option Value) (wF : Wd)  (q : Int32 × Sm) : Prop := G mX12_keep l Γ (rmD 0 0 0) (mQ Γ rF wF 0 0) 0 0 54 [some (.ref 53), some (.int q.1)] [] (V q.2)
def ps_Md_keep_L54 (V : Sm → Wd) (l : Launch) (Γ : Gm) (rF : Option Value) (wF : Wd)  (x : Sm) : Prop := (fun (a : Sm) => G mX12_keep l Γ (rmD 0 0 0) (mQ Γ rF wF 0 0) 0 0 88 [some (.ref 53), none] [] (V a)) x
def Md_keep_L54 (q : Int32 × Sm) : Option ((Int32 × Sm) ⊕ (Sm)) := (if (320 : Int32) ≤ q.1 then (some (.inr q.2)) else (if inb q.1 320 then (if inb ((320 * (gi q.2 53 34)) + q.1) 12800 then (some (.inl (q.1 + 1, si q.2 73 (ix ((320 * (gi q.2 53 34)) + q.1)) (gi q.2 70 (ix q.1))))) else none) else none))
set_option maxRecDepth 4000 in
theorem t_Md_keep_L54 {V : Sm → Wd} (hV : VwT V) {l : Launch} {Γ : Gm} {rF : Option Value} {wF : Wd}  {q : Int32 × Sm} {o : (Int32 × Sm) ⊕ (Sm)} (h : Md_keep_L54 q = some o) (hK : Sum.elim (hd_Md_keep_L54 V l Γ rF wF) (ps_Md_keep_L54 V l Γ rF wF) o) : hd_Md_keep_L54 V l Γ rF wF q := by
  unfold Md_keep_L54 at h
  unfold hd_Md_keep_L54
  refine g_iload_n (pc := 54) dX12_keep_54 rfl ?_
  refine g_sipush (v := 320) (pc := 55) dX12_keep_55 (by decide) ?_
  refine g_icmp_ge (tgt := 88) (pc := 58) dX12_keep_58 (by decide) (fun c3 => ?_) (fun c3 => ?_)
  · rw [if_pos c3] at h
    refine g_wk [true, false] rfl ?_
    cases h
    exact hK
  · rw [if_neg c3] at h
    refine g_aload_n (pc := 61) dX12_keep_61 rfl ?_
    refine v_getR hV (pc := 62) dX12_keep_62 fo_12_33 rfl k0_53 r0_53_33 ?_
    refine g_sipush (v := 320) (pc := 65) dX12_keep_65 (by decide) ?_
    refine g_aload_n (pc := 68) dX12_keep_68 rfl ?_
    refine v_getI hV (pc := 69) dX12_keep_69 fo_12_34 rfl k0_53 own_53 ?_
    refine g_imul (pc := 72) dX12_keep_72 ?_
    refine g_iload_n (pc := 73) dX12_keep_73 rfl ?_
    refine g_iadd (pc := 74) dX12_keep_74 ?_
    refine g_aload_n (pc := 75) dX12_keep_75 rfl ?_
    refine v_getR hV (pc := 76) dX12_keep_76 fo_12_27 rfl k0_53 r0_53_27 ?_
    refine g_iload_n (pc := 79) dX12_keep_79 rfl ?_
    by_cases c1 : inb q.1 320
    · rw [if_pos c1] at h
      refine v_iald hV (pc := 80) dX12_keep_80 k0_70 own_70 c1 ?_
      by_cases c2 : inb ((320 * (gi q.2 53 34)) + q.1) 12800
      · rw [if_pos c2] at h
        refine v_iast hV (pc := 81) dX12_keep_81 k0_73 own_73 c2 ?_
        refine g_iinc (v := q.1 + 1) (ls1 := [some (.ref 53), some (.int (q.1 + 1))]) (pc := 82) dX12_keep_82 rfl rfl (by decide) rfl ?_
        refine g_goto (tgt := 54) (pc := 85) dX12_keep_85 (by decide) ?_
        cases h
        exact hK
      · rw [if_neg c2] at h; cases h
    · rw [if_neg c1] at h; cases h
set_option maxRecDepth 4000 in
theorem w_Md_keep_L54 {V : Sm → Wd} (hV : VwT V) {l : Launch} {Γ : Gm} {rF : Option Value} {wF : Wd}  {k : Nat} {q : Int32 × Sm} {o : Sm} (h : lpN (Md_keep_L54) k q = some o) (hP : ps_Md_keep_L54 V l Γ rF wF o) : hd_Md_keep_L54 V l Γ rF wF q := lpN_ind2 (hd_Md_keep_L54 V l Γ rF wF) (ps_Md_keep_L54 V l Γ rF wF) (fun s o h hK => t_Md_keep_L54 hV h hK) k q o h hP
def Md_keep_52 (S : Sm) : Option (Sm) := ((lpN (Md_keep_L54) FU (0, S)).bind fun q4 => (some (si q4 53 34 ((gi q4 53 34) + 1))))
set_option maxRecDepth 4000 in
theorem t_Md_keep_52 {V : Sm → Wd} (hV : VwT V) {l : Launch} {Γ : Gm}  {S : Sm} {q : Sm} (h : Md_keep_52 S = some q) : G mX12_keep l Γ (rmD 0 0 0) (mQ Γ none (V q) 0 0) 0 0 52 [some (.ref 53), none] [] (V S) := by
  unfold Md_keep_52 at h
  refine g_iconst (v := 0) (pc := 52) dX12_keep_52 (by decide) ?_
  refine g_istore_n (ls1 := [some (.ref 53), some (.int 0)]) (pc := 53) dX12_keep_53 (by decide) rfl ?_
  obtain ⟨q4, hqq4, h⟩ := bnd h
  refine w_Md_keep_L54 hV hqq4 ?_
  unfold ps_Md_keep_L54
  show G _ _ _ _ _ _ _ _ _ _ _
  refine g_aload_n (pc := 88) dX12_keep_88 rfl ?_
  refine g_dup (pc := 89) dX12_keep_89 rfl ?_
  refine v_getI hV (pc := 90) dX12_keep_90 fo_12_34 rfl k0_53 own_53 ?_
  refine g_iconst (v := 1) (pc := 93) dX12_keep_93 (by decide) ?_
  refine g_iadd (pc := 94) dX12_keep_94 ?_
  refine v_putI hV (pc := 95) dX12_keep_95 fo_12_34 rfl k0_53 own_53 rfl ?_
  cases h
  exact g_vret (pc := 98) dX12_keep_98 rfl (Nat.le_refl _) (Nat.le_refl _)
def hd_Md_keep_L13 (V : Sm → Wd) (l : Launch) (Γ : Gm) (rF : Option Value) (wF : Wd)  (q : Int32 × Sm) : Prop := G mX12_keep l Γ (rmD 0 0 0) (mQ Γ rF wF 0 0) 0 0 13 [some (.ref 53), some (.int q.1)] [] (V q.2)
def ps_Md_keep_L13 (V : Sm → Wd) (l : Launch) (Γ : Gm) (rF : Option Value) (wF : Wd)  (x : Sm) : Prop := (fun (a : Sm) => G mX12_keep l Γ (rmD 0 0 0) (mQ Γ rF wF 0 0) 0 0 42 [some (.ref 53), none] [] (V a)) x
def Md_keep_L13 (q : Int32 × Sm) : Option ((Int32 × Sm) ⊕ (Sm)) := (if (12800 : Int32) ≤ q.1 then (some (.inr q.2)) else (if inb q.1 12800 then (if inb (q.1 - 320) 12800 then (some (.inl (q.1 + 1, si q.2 73 (ix (q.1 - 320)) (gi q.2 73 (ix q.1))))) else none) else none))
set_option maxRecDepth 4000 in
theorem t_Md_keep_L13 {V : Sm → Wd} (hV : VwT V) {l : Launch} {Γ : Gm} {rF : Option Value} {wF : Wd}  {q : Int32 × Sm} {o : (Int32 × Sm) ⊕ (Sm)} (h : Md_keep_L13 q = some o) (hK : Sum.elim (hd_Md_keep_L13 V l Γ rF wF) (ps_Md_keep_L13 V l Γ rF wF) o) : hd_Md_keep_L13 V l Γ rF wF q := by
  unfold Md_keep_L13 at h
  unfold hd_Md_keep_L13
  refine g_iload_n (pc := 13) dX12_keep_13 rfl ?_
  refine g_sipush (v := 12800) (pc := 14) dX12_keep_14 (by decide) ?_
  refine g_icmp_ge (tgt := 42) (pc := 17) dX12_keep_17 (by decide) (fun c7 => ?_) (fun c7 => ?_)
  · rw [if_pos c7] at h
    refine g_wk [true, false] rfl ?_
    cases h
    exact hK
  · rw [if_neg c7] at h
    refine g_aload_n (pc := 20) dX12_keep_20 rfl ?_
    refine v_getR hV (pc := 21) dX12_keep_21 fo_12_33 rfl k0_53 r0_53_33 ?_
    refine g_iload_n (pc := 24) dX12_keep_24 rfl ?_
    refine g_sipush (v := 320) (pc := 25) dX12_keep_25 (by decide) ?_
    refine g_isub (pc := 28) dX12_keep_28 ?_
    refine g_aload_n (pc := 29) dX12_keep_29 rfl ?_
    refine v_getR hV (pc := 30) dX12_keep_30 fo_12_33 rfl k0_53 r0_53_33 ?_
    refine g_iload_n (pc := 33) dX12_keep_33 rfl ?_
    by_cases c5 : inb q.1 12800
    · rw [if_pos c5] at h
      refine v_iald hV (pc := 34) dX12_keep_34 k0_73 own_73 c5 ?_
      by_cases c6 : inb (q.1 - 320) 12800
      · rw [if_pos c6] at h
        refine v_iast hV (pc := 35) dX12_keep_35 k0_73 own_73 c6 ?_
        refine g_iinc (v := q.1 + 1) (ls1 := [some (.ref 53), some (.int (q.1 + 1))]) (pc := 36) dX12_keep_36 rfl rfl (by decide) rfl ?_
        refine g_goto (tgt := 13) (pc := 39) dX12_keep_39 (by decide) ?_
        cases h
        exact hK
      · rw [if_neg c6] at h; cases h
    · rw [if_neg c5] at h; cases h
set_option maxRecDepth 4000 in
theorem w_Md_keep_L13 {V : Sm → Wd} (hV : VwT V) {l : Launch} {Γ : Gm} {rF : Option Value} {wF : Wd}  {k : Nat} {q : Int32 × Sm} {o : Sm} (h : lpN (Md_keep_L13) k q = some o) (hP : ps_Md_keep_L13 V l Γ rF wF o) : hd_Md_keep_L13 V l Γ rF wF q := lpN_ind2 (hd_Md_keep_L13 V l Γ rF wF) (ps_Md_keep_L13 V l Γ rF wF) (fun s o h hK => t_Md_keep_L13 hV h hK) k q o h hP
def Md_keep (S : Sm) : Option (Sm) := (if (gi S 53 34) = 40 then ((lpN (Md_keep_L13) FU (320, S)).bind fun q8 => (Md_keep_52 (si q8 53 34 ((gi q8 53 34) - 1)))) else (Md_keep_52 S))
set_option maxRecDepth 4000 in
theorem r_Md_keep {V : Sm → Wd} (hV : VwT V)  {S : Sm} {q : Sm} (h : Md_keep S = some q) : Runs 0 mX12_keep [.ref 53] (V S) none (V q) 0 0 := by
  unfold Md_keep at h
  refine Runs.of2 [some (.ref 53), none] 1 rfl rfl (Nat.le_of_ble_eq_true rfl) (fun l Γ => ?_)
  refine g_aload_n (pc := 0) dX12_keep_0 rfl ?_
  refine v_getI hV (pc := 1) dX12_keep_1 fo_12_34 rfl k0_53 own_53 ?_
  refine g_bipush (v := 40) (pc := 4) dX12_keep_4 (by decide) ?_
  refine g_icmp_ne (tgt := 52) (pc := 6) dX12_keep_6 (by decide) (fun c9 => ?_) (fun c9 => ?_)
  · rw [if_neg c9] at h
    exact t_Md_keep_52 hV h
  · rw [if_pos c9] at h
    refine g_sipush (v := 320) (pc := 9) dX12_keep_9 (by decide) ?_
    refine g_istore_n (ls1 := [some (.ref 53), some (.int 320)]) (pc := 12) dX12_keep_12 (by decide) rfl ?_
    obtain ⟨q8, hqq8, h⟩ := bnd h
    refine w_Md_keep_L13 hV hqq8 ?_
    unfold ps_Md_keep_L13
    show G _ _ _ _ _ _ _ _ _ _ _
    refine g_aload_n (pc := 42) dX12_keep_42 rfl ?_
    refine g_dup (pc := 43) dX12_keep_43 rfl ?_
    refine v_getI hV (pc := 44) dX12_keep_44 fo_12_34 rfl k0_53 own_53 ?_
    refine g_iconst (v := 1) (pc := 47) dX12_keep_47 (by decide) ?_
    refine g_isub (pc := 48) dX12_keep_48 ?_
    refine v_putI hV (pc := 49) dX12_keep_49 fo_12_34 rfl k0_53 own_53 rfl ?_
    exact t_Md_keep_52 hV h
def Md_sent_39 (S : Sm) : Option (Int32 × Sm) := (some (((-1), S)))
set_option maxRecDepth 4000 in
theorem t_Md_sent_39 {V : Sm → Wd} (hV : VwT V) {l : Launch} {Γ : Gm}  {S : Sm} {q : Int32 × Sm} (h : Md_sent_39 S = some q) : G mX12_sent l Γ (rmD 3 0 0) (mQ Γ (some (.int q.1)) (V q.2) 0 0) 0 0 39 [none, none, none, none] [] (V S) := by
  unfold Md_sent_39 at h
  refine g_iconst (v := (-1)) (pc := 39) dX12_sent_39 (by decide) ?_
  cases h
  exact g_iret (pc := 40) dX12_sent_40 rfl rfl (Nat.le_refl _) (Nat.le_refl _)
def Md_sent (v1 : Int32) (v2 : Int32) (v3 : Int32) (S : Sm) : Option (Int32 × Sm) := (if (Md_isMouth v1 S) = 0 then (Md_sent_39 S) else (if (Md_isLamp v2 S) = 0 then (Md_sent_39 S) else (if (Md_in v3 0 9) = 0 then (Md_sent_39 S) else (if (gi S 70 136) = 8 then (Md_sent_39 S) else ((Md_keep S).bind fun q1 => ((Md_begin (gi q1 70 136) v1 v2 (gi q1 70 137) v3 q1).bind fun q2 => (some (((gi (si q2 70 136 ((gi q2 70 136) + 1)) 70 136) - 1, si q2 70 136 ((gi q2 70 136) + 1))))))))))
set_option maxRecDepth 4000 in
theorem r_Md_sent {V : Sm → Wd} (hV : VwT V) {v1 : Int32} {v2 : Int32} {v3 : Int32} {S : Sm} {q : Int32 × Sm} (h : Md_sent v1 v2 v3 S = some q) : Runs 3 mX12_sent [.ref 53, .int v1, .int v2, .int v3] (V S) (some (.int q.1)) (V q.2) 0 0 := by
  unfold Md_sent at h
  refine Runs.of2 [some (.ref 53), some (.int v1), some (.int v2), some (.int v3)] 0 rfl rfl (Nat.le_of_ble_eq_true rfl) (fun l Γ => ?_)
  refine g_aload_n (pc := 0) dX12_sent_0 rfl ?_
  refine g_iload_n (pc := 1) dX12_sent_1 rfl ?_
  refine v_callVi hV (Mc := mX12_isMouth) (v := Md_isMouth v1 S) (S1 := S) (As := [.int v1]) (rest := []) (q := (RX12, TX12, 58)) (pc := 2) dX12_sent_2 mK_X12_333 mf_X12_isMouth rfl k0_53 rfl rfl rfl (Nat.le_of_ble_eq_true rfl) ⟨Nat.le_of_ble_eq_true rfl, Nat.le_of_ble_eq_true rfl⟩ (r_Md_isMouth hV rfl) ?_
  refine g_if_eq (tgt := 39) (pc := 5) dX12_sent_5 (by decide) (fun c6 => ?_) (fun c6 => ?_)
  · rw [if_pos c6] at h
    refine g_wk [false, false, false, false] rfl ?_
    exact t_Md_sent_39 hV h
  · rw [if_neg c6] at h
    refine g_aload_n (pc := 8) dX12_sent_8 rfl ?_
    refine g_iload_n (pc := 9) dX12_sent_9 rfl ?_
    refine v_callVi hV (Mc := mX12_isLamp) (v := Md_isLamp v2 S) (S1 := S) (As := [.int v2]) (rest := []) (q := (RX12, TX12, 58)) (pc := 10) dX12_sent_10 mK_X12_336 mf_X12_isLamp rfl k0_53 rfl rfl rfl (Nat.le_of_ble_eq_true rfl) ⟨Nat.le_of_ble_eq_true rfl, Nat.le_of_ble_eq_true rfl⟩ (r_Md_isLamp hV rfl) ?_
    refine g_if_eq (tgt := 39) (pc := 13) dX12_sent_13 (by decide) (fun c5 => ?_) (fun c5 => ?_)
    · rw [if_pos c5] at h
      refine g_wk [false, false, false, false] rfl ?_
      exact t_Md_sent_39 hV h
    · rw [if_neg c5] at h
      refine g_iload_n (pc := 16) dX12_sent_16 rfl ?_
      refine g_iconst (v := 0) (pc := 17) dX12_sent_17 (by decide) ?_
      refine g_bipush (v := 9) (pc := 18) dX12_sent_18 (by decide) ?_
      refine v_callSi (Mc := mX12_in) (v := Md_in v3 0 9) (S1 := S) (As := [.int v3, .int 0, .int 9]) (rest := []) (pc := 20) dX12_sent_20 mK_X12_238 mf_X12_in rfl rfl (Nat.le_of_ble_eq_true rfl) ⟨Nat.le_of_ble_eq_true rfl, Nat.le_of_ble_eq_true rfl⟩ (r_Md_in hV rfl) ?_
      refine g_if_eq (tgt := 39) (pc := 23) dX12_sent_23 (by decide) (fun c4 => ?_) (fun c4 => ?_)
      · rw [if_pos c4] at h
        refine g_wk [false, false, false, false] rfl ?_
        exact t_Md_sent_39 hV h
      · rw [if_neg c4] at h
        refine g_aload_n (pc := 26) dX12_sent_26 rfl ?_
        refine v_getR hV (pc := 27) dX12_sent_27 fo_12_27 rfl k0_53 r0_53_27 ?_
        refine g_sipush (v := 136) (pc := 30) dX12_sent_30 (by decide) ?_
        refine v_ialdK hV (k := 136) (pc := 33) dX12_sent_33 k0_70 own_70 (by decide) (by decide) ?_
        refine g_bipush (v := 8) (pc := 34) dX12_sent_34 (by decide) ?_
        refine g_icmp_ne (tgt := 41) (pc := 36) dX12_sent_36 (by decide) (fun c3 => ?_) (fun c3 => ?_)
        · rw [if_neg c3] at h
          refine g_aload_n (pc := 41) dX12_sent_41 rfl ?_
          obtain ⟨q1, hq1, h⟩ := bnd h
          refine v_callVv hV (Mc := mX12_keep) (S1 := q1) (As := []) (rest := []) (q := (RX12, TX12, 58)) (pc := 42) dX12_sent_42 mK_X12_355 mf_X12_keep rfl k0_53 rfl rfl rfl (Nat.le_of_ble_eq_true rfl) ⟨Nat.le_of_ble_eq_true rfl, Nat.le_of_ble_eq_true rfl⟩ (r_Md_keep hV hq1) ?_
          refine g_aload_n (pc := 45) dX12_sent_45 rfl ?_
          refine g_aload_n (pc := 46) dX12_sent_46 rfl ?_
          refine v_getR hV (pc := 47) dX12_sent_47 fo_12_27 rfl k0_53 r0_53_27 ?_
          refine g_sipush (v := 136) (pc := 50) dX12_sent_50 (by decide) ?_
          refine v_ialdK hV (k := 136) (pc := 53) dX12_sent_53 k0_70 own_70 (by decide) (by decide) ?_
          refine g_iload_n (pc := 54) dX12_sent_54 rfl ?_
          refine g_iload_n (pc := 55) dX12_sent_55 rfl ?_
          refine g_aload_n (pc := 56) dX12_sent_56 rfl ?_
          refine v_getR hV (pc := 57) dX12_sent_57 fo_12_27 rfl k0_53 r0_53_27 ?_
          refine g_sipush (v := 137) (pc := 60) dX12_sent_60 (by decide) ?_
          refine v_ialdK hV (k := 137) (pc := 63) dX12_sent_63 k0_70 own_70 (by decide) (by decide) ?_
          refine g_iload_n (pc := 64) dX12_sent_64 rfl ?_
          obtain ⟨q2, hq2, h⟩ := bnd h
          refine v_callVv hV (Mc := mX12_begin) (S1 := q2) (As := [.int (gi q1 70 136), .int v1, .int v2, .int (gi q1 70 137), .int v3]) (rest := []) (q := (RX12, TX12, 58)) (pc := 65) dX12_sent_65 mK_X12_297 mf_X12_begin rfl k0_53 rfl rfl rfl (Nat.le_of_ble_eq_true rfl) ⟨Nat.le_of_ble_eq_true rfl, Nat.le_of_ble_eq_true rfl⟩ (r_Md_begin hV hq2) ?_
          refine g_aload_n (pc := 68) dX12_sent_68 rfl ?_
          refine v_getR hV (pc := 69) dX12_sent_69 fo_12_27 rfl k0_53 r0_53_27 ?_
          refine g_sipush (v := 136) (pc := 72) dX12_sent_72 (by decide) ?_
          refine g_dup2 (pc := 75) dX12_sent_75 rfl rfl ?_
          refine v_ialdK hV (k := 136) (pc := 76) dX12_sent_76 k0_70 own_70 (by decide) (by decide) ?_
          refine g_iconst (v := 1) (pc := 77) dX12_sent_77 (by decide) ?_
          refine g_iadd (pc := 78) dX12_sent_78 ?_
          refine v_iastK hV (k := 136) (pc := 79) dX12_sent_79 k0_70 own_70 (by decide) (by decide) ?_
          refine g_aload_n (pc := 80) dX12_sent_80 rfl ?_
          refine v_getR hV (pc := 81) dX12_sent_81 fo_12_27 rfl k0_53 r0_53_27 ?_
          refine g_sipush (v := 136) (pc := 84) dX12_sent_84 (by decide) ?_
          refine v_ialdK hV (k := 136) (pc := 87) dX12_sent_87 k0_70 own_70 (by decide) (by decide) ?_
          refine g_iconst (v := 1) (pc := 88) dX12_sent_88 (by decide) ?_
          refine g_isub (pc := 89) dX12_sent_89 ?_
          cases h
          exact g_iret (pc := 90) dX12_sent_90 rfl rfl (Nat.le_refl _) (Nat.le_refl _)
        · rw [if_pos c3] at h
          refine g_wk [false, false, false, false] rfl ?_
          exact t_Md_sent_39 hV h
def Md_lamp_26 (S : Sm) : Option (Int32 × Sm) := (some (((-1), S)))
set_option maxRecDepth 4000 in
theorem t_Md_lamp_26 {V : Sm → Wd} (hV : VwT V) {l : Launch} {Γ : Gm}  {S : Sm} {q : Int32 × Sm} (h : Md_lamp_26 S = some q) : G mX12_lamp l Γ (rmD 3 0 0) (mQ Γ (some (.int q.1)) (V q.2) 0 0) 0 0 26 [none, none, none, none] [] (V S) := by
  unfold Md_lamp_26 at h
  refine g_iconst (v := (-1)) (pc := 26) dX12_lamp_26 (by decide) ?_
  cases h
  exact g_iret (pc := 27) dX12_lamp_27 rfl rfl (Nat.le_refl _) (Nat.le_refl _)
def Md_lamp (v1 : Int32) (v2 : Int32) (S : Sm) : Option (Int32 × Sm) := (if (Md_isTrain v1 S) = 0 then (Md_lamp_26 S) else (if (Md_isLamp v2 S) = 0 then (Md_lamp_26 S) else ((Md_of v1 5 S).bind fun q1 => (if q1 = ((-1)) then ((Md_keep S).bind fun q2 => ((Md_lampOf v1 q2).bind fun q3 => ((Md_put_ v1 1 v2 q2).bind fun q4 => ((Md_put_ v1 2 (gi q4 70 137) q4).bind fun q5 => (some ((q3, q5))))))) else (Md_lamp_26 S)))))
set_option maxRecDepth 4000 in
theorem r_Md_lamp {V : Sm → Wd} (hV : VwT V) {v1 : Int32} {v2 : Int32} {S : Sm} {q : Int32 × Sm} (h : Md_lamp v1 v2 S = some q) : Runs 3 mX12_lamp [.ref 53, .int v1, .int v2] (V S) (some (.int q.1)) (V q.2) 0 0 := by
  unfold Md_lamp at h
  refine Runs.of2 [some (.ref 53), some (.int v1), some (.int v2), none] 1 rfl rfl (Nat.le_of_ble_eq_true rfl) (fun l Γ => ?_)
  refine g_aload_n (pc := 0) dX12_lamp_0 rfl ?_
  refine g_iload_n (pc := 1) dX12_lamp_1 rfl ?_
  refine v_callVi hV (Mc := mX12_isTrain) (v := Md_isTrain v1 S) (S1 := S) (As := [.int v1]) (rest := []) (q := (RX12, TX12, 58)) (pc := 2) dX12_lamp_2 mK_X12_349 mf_X12_isTrain rfl k0_53 rfl rfl rfl (Nat.le_of_ble_eq_true rfl) ⟨Nat.le_of_ble_eq_true rfl, Nat.le_of_ble_eq_true rfl⟩ (r_Md_isTrain hV rfl) ?_
  refine g_if_eq (tgt := 26) (pc := 5) dX12_lamp_5 (by decide) (fun c8 => ?_) (fun c8 => ?_)
  · rw [if_pos c8] at h
    refine g_wk [false, false, false, false] rfl ?_
    exact t_Md_lamp_26 hV h
  · rw [if_neg c8] at h
    refine g_aload_n (pc := 8) dX12_lamp_8 rfl ?_
    refine g_iload_n (pc := 9) dX12_lamp_9 rfl ?_
    refine v_callVi hV (Mc := mX12_isLamp) (v := Md_isLamp v2 S) (S1 := S) (As := [.int v2]) (rest := []) (q := (RX12, TX12, 58)) (pc := 10) dX12_lamp_10 mK_X12_336 mf_X12_isLamp rfl k0_53 rfl rfl rfl (Nat.le_of_ble_eq_true rfl) ⟨Nat.le_of_ble_eq_true rfl, Nat.le_of_ble_eq_true rfl⟩ (r_Md_isLamp hV rfl) ?_
    refine g_if_eq (tgt := 26) (pc := 13) dX12_lamp_13 (by decide) (fun c7 => ?_) (fun c7 => ?_)
    · rw [if_pos c7] at h
      refine g_wk [false, false, false, false] rfl ?_
      exact t_Md_lamp_26 hV h
    · rw [if_neg c7] at h
      refine g_aload_n (pc := 16) dX12_lamp_16 rfl ?_
      refine g_iload_n (pc := 17) dX12_lamp_17 rfl ?_
      refine g_iconst (v := 5) (pc := 18) dX12_lamp_18 (by decide) ?_
      obtain ⟨q1, hq1, h⟩ := bnd h
      refine v_callVi hV (Mc := mX12_of) (v := q1) (S1 := S) (As := [.int v1, .int 5]) (rest := []) (q := (RX12, TX12, 58)) (pc := 19) dX12_lamp_19 mK_X12_343 mf_X12_of rfl k0_53 rfl rfl rfl (Nat.le_of_ble_eq_true rfl) ⟨Nat.le_of_ble_eq_true rfl, Nat.le_of_ble_eq_true rfl⟩ (r_Md_of hV hq1) ?_
      refine g_iconst (v := (-1)) (pc := 22) dX12_lamp_22 (by decide) ?_
      refine g_icmp_eq (tgt := 28) (pc := 23) dX12_lamp_23 (by decide) (fun c6 => ?_) (fun c6 => ?_)
      · rw [if_pos c6] at h
        refine g_aload_n (pc := 28) dX12_lamp_28 rfl ?_
        obtain ⟨q2, hq2, h⟩ := bnd h
        refine v_callVv hV (Mc := mX12_keep) (S1 := q2) (As := []) (rest := []) (q := (RX12, TX12, 58)) (pc := 29) dX12_lamp_29 mK_X12_355 mf_X12_keep rfl k0_53 rfl rfl rfl (Nat.le_of_ble_eq_true rfl) ⟨Nat.le_of_ble_eq_true rfl, Nat.le_of_ble_eq_true rfl⟩ (r_Md_keep hV hq2) ?_
        refine g_aload_n (pc := 32) dX12_lamp_32 rfl ?_
        refine g_iload_n (pc := 33) dX12_lamp_33 rfl ?_
        obtain ⟨q3, hq3, h⟩ := bnd h
        refine v_callVi hV (Mc := mX12_lampOf) (v := q3) (S1 := q2) (As := [.int v1]) (rest := []) (q := (RX12, TX12, 58)) (pc := 34) dX12_lamp_34 mK_X12_352 mf_X12_lampOf rfl k0_53 rfl rfl rfl (Nat.le_of_ble_eq_true rfl) ⟨Nat.le_of_ble_eq_true rfl, Nat.le_of_ble_eq_true rfl⟩ (r_Md_lampOf hV hq3) ?_
        refine g_istore_n (ls1 := [some (.ref 53), some (.int v1), some (.int v2), some (.int q3)]) (pc := 37) dX12_lamp_37 (by decide) rfl ?_
        refine g_aload_n (pc := 38) dX12_lamp_38 rfl ?_
        refine g_iload_n (pc := 39) dX12_lamp_39 rfl ?_
        refine g_iconst (v := 1) (pc := 40) dX12_lamp_40 (by decide) ?_
        refine g_iload_n (pc := 41) dX12_lamp_41 rfl ?_
        obtain ⟨q4, hq4, h⟩ := bnd h
        refine v_callVv hV (Mc := mX12_put_) (S1 := q4) (As := [.int v1, .int 1, .int v2]) (rest := []) (q := (RX12, TX12, 58)) (pc := 42) dX12_lamp_42 mK_X12_288 mf_X12_put_ rfl k0_53 rfl rfl rfl (Nat.le_of_ble_eq_true rfl) ⟨Nat.le_of_ble_eq_true rfl, Nat.le_of_ble_eq_true rfl⟩ (r_Md_put_ hV hq4) ?_
        refine g_aload_n (pc := 45) dX12_lamp_45 rfl ?_
        refine g_iload_n (pc := 46) dX12_lamp_46 rfl ?_
        refine g_iconst (v := 2) (pc := 47) dX12_lamp_47 (by decide) ?_
        refine g_aload_n (pc := 48) dX12_lamp_48 rfl ?_
        refine v_getR hV (pc := 49) dX12_lamp_49 fo_12_27 rfl k0_53 r0_53_27 ?_
        refine g_sipush (v := 137) (pc := 52) dX12_lamp_52 (by decide) ?_
        refine v_ialdK hV (k := 137) (pc := 55) dX12_lamp_55 k0_70 own_70 (by decide) (by decide) ?_
        obtain ⟨q5, hq5, h⟩ := bnd h
        refine v_callVv hV (Mc := mX12_put_) (S1 := q5) (As := [.int v1, .int 2, .int (gi q4 70 137)]) (rest := []) (q := (RX12, TX12, 58)) (pc := 56) dX12_lamp_56 mK_X12_288 mf_X12_put_ rfl k0_53 rfl rfl rfl (Nat.le_of_ble_eq_true rfl) ⟨Nat.le_of_ble_eq_true rfl, Nat.le_of_ble_eq_true rfl⟩ (r_Md_put_ hV hq5) ?_
        refine g_iload_n (pc := 59) dX12_lamp_59 rfl ?_
        cases h
        exact g_iret (pc := 60) dX12_lamp_60 rfl rfl (Nat.le_refl _) (Nat.le_refl _)
      · rw [if_neg c6] at h
        refine g_wk [false, false, false, false] rfl ?_
        exact t_Md_lamp_26 hV h
def Md_show_24 (S : Sm) : Option (Int32 × Sm) := (some (((-1), S)))
set_option maxRecDepth 4000 in
theorem t_Md_show_24 {V : Sm → Wd} (hV : VwT V) {l : Launch} {Γ : Gm}  {S : Sm} {q : Int32 × Sm} (h : Md_show_24 S = some q) : G mX12_show l Γ (rmD 2 0 0) (mQ Γ (some (.int q.1)) (V q.2) 0 0) 0 0 24 [none, none, none, none, none, none, none] [] (V S) := by
  unfold Md_show_24 at h
  refine g_iconst (v := (-1)) (pc := 24) dX12_show_24 (by decide) ?_
  cases h
  exact g_iret (pc := 25) dX12_show_25 rfl rfl (Nat.le_refl _) (Nat.le_refl _)
def Md_show_71 (v3 : Int32) (v4 : Int32) (s0 : Int32) (S : Sm) : Option (Int32 × Sm) := (if s0 = v3 then (some (((-1), S))) else ((Md_keep S).bind fun q3 => (if inb (0 + v4) 320 then (some ((s0, si q3 70 (ix (0 + v4)) v3))) else none)))
set_option maxRecDepth 4000 in
theorem t_Md_show_71 {V : Sm → Wd} (hV : VwT V) {l : Launch} {Γ : Gm} {v3 : Int32} {v4 : Int32} {s0 : Int32} {S : Sm} {q : Int32 × Sm} (h : Md_show_71 v3 v4 s0 S = some q) : G mX12_show l Γ (rmD 2 0 0) (mQ Γ (some (.int q.1)) (V q.2) 0 0) 0 0 71 [some (.ref 53), none, none, some (.int v3), some (.int v4), none, none] [.int s0] (V S) := by
  unfold Md_show_71 at h
  refine g_istore (ls1 := [some (.ref 53), none, none, some (.int v3), some (.int v4), none, some (.int s0)]) (pc := 71) dX12_show_71 (by decide) rfl ?_
  refine g_iload (pc := 73) dX12_show_73 rfl ?_
  refine g_iload_n (pc := 75) dX12_show_75 rfl ?_
  refine g_icmp_ne (tgt := 81) (pc := 76) dX12_show_76 (by decide) (fun c5 => ?_) (fun c5 => ?_)
  · rw [if_neg c5] at h
    refine g_aload_n (pc := 81) dX12_show_81 rfl ?_
    obtain ⟨q3, hq3, h⟩ := bnd h
    refine v_callVv hV (Mc := mX12_keep) (S1 := q3) (As := []) (rest := []) (q := (RX12, TX12, 58)) (pc := 82) dX12_show_82 mK_X12_355 mf_X12_keep rfl k0_53 rfl rfl rfl (Nat.le_of_ble_eq_true rfl) ⟨Nat.le_of_ble_eq_true rfl, Nat.le_of_ble_eq_true rfl⟩ (r_Md_keep hV hq3) ?_
    refine g_aload_n (pc := 85) dX12_show_85 rfl ?_
    refine v_getR hV (pc := 86) dX12_show_86 fo_12_27 rfl k0_53 r0_53_27 ?_
    refine g_iconst (v := 0) (pc := 89) dX12_show_89 (by decide) ?_
    refine g_iload (pc := 90) dX12_show_90 rfl ?_
    refine g_iadd (pc := 92) dX12_show_92 ?_
    refine g_iload_n (pc := 93) dX12_show_93 rfl ?_
    by_cases c4 : inb (0 + v4) 320
    · rw [if_pos c4] at h
      refine v_iast hV (pc := 94) dX12_show_94 k0_70 own_70 c4 ?_
      refine g_iload (pc := 95) dX12_show_95 rfl ?_
      cases h
      exact g_iret (pc := 97) dX12_show_97 rfl rfl (Nat.le_refl _) (Nat.le_refl _)
    · rw [if_neg c4] at h; cases h
  · rw [if_pos c5] at h
    refine g_iconst (v := (-1)) (pc := 79) dX12_show_79 (by decide) ?_
    cases h
    exact g_iret (pc := 80) dX12_show_80 rfl rfl (Nat.le_refl _) (Nat.le_refl _)
def Md_show_52 (v1 : Int32) (v2 : Int32) (v3 : Int32) (v4 : Int32) (s0 : Int32) (S : Sm) : Option (Int32 × Sm) := (if s0 = 0 then ((Md_leads v1 v2 S).bind fun q2 => (Md_show_71 v3 v4 q2 S)) else (Md_show_71 v3 v4 ((-1000000)) S))
set_option maxRecDepth 4000 in
theorem t_Md_show_52 {V : Sm → Wd} (hV : VwT V) {l : Launch} {Γ : Gm} {v1 : Int32} {v2 : Int32} {v3 : Int32} {v4 : Int32} {s0 : Int32} {S : Sm} {q : Int32 × Sm} (h : Md_show_52 v1 v2 v3 v4 s0 S = some q) : G mX12_show l Γ (rmD 2 0 0) (mQ Γ (some (.int q.1)) (V q.2) 0 0) 0 0 52 [some (.ref 53), some (.int v1), some (.int v2), some (.int v3), some (.int v4), none, none] [.int s0] (V S) := by
  unfold Md_show_52 at h
  refine g_istore (ls1 := [some (.ref 53), some (.int v1), some (.int v2), some (.int v3), some (.int v4), some (.int s0), none]) (pc := 52) dX12_show_52 (by decide) rfl ?_
  refine g_iload (pc := 54) dX12_show_54 rfl ?_
  refine g_if_eq (tgt := 65) (pc := 56) dX12_show_56 (by decide) (fun c6 => ?_) (fun c6 => ?_)
  · rw [if_pos c6] at h
    refine g_aload_n (pc := 65) dX12_show_65 rfl ?_
    refine g_iload_n (pc := 66) dX12_show_66 rfl ?_
    refine g_iload_n (pc := 67) dX12_show_67 rfl ?_
    obtain ⟨q2, hq2, h⟩ := bnd h
    refine v_callVi hV (Mc := mX12_leads) (v := q2) (S1 := S) (As := [.int v1, .int v2]) (rest := []) (q := (RX12, TX12, 58)) (pc := 68) dX12_show_68 mK_X12_323 mf_X12_leads rfl k0_53 rfl rfl rfl (Nat.le_of_ble_eq_true rfl) ⟨Nat.le_of_ble_eq_true rfl, Nat.le_of_ble_eq_true rfl⟩ (r_Md_leads hV hq2) ?_
    refine g_wk [true, false, false, true, true, false, false] rfl ?_
    exact t_Md_show_71 hV h
  · rw [if_neg c6] at h
    refine g_ldcw (v := (-1000000)) (pc := 59) dX12_show_59 kI_X12_339 ?_
    refine g_goto (tgt := 71) (pc := 62) dX12_show_62 (by decide) ?_
    refine g_wk [true, false, false, true, true, false, false] rfl ?_
    exact t_Md_show_71 hV h
def Md_show (v1 : Int32) (v2 : Int32) (v3 : Int32) (S : Sm) : Option (Int32 × Sm) := (if (Md_isMouth v1 S) = 0 then (Md_show_24 S) else (if (Md_isColour v2 S) = 0 then (Md_show_24 S) else (if (Md_isMouth v3 S) = 0 then (Md_show_24 S) else (if inb (0 + ((5 * v1) + v2)) 320 then (if (gi S 70 (ix (0 + ((5 * v1) + v2)))) = ((-2)) then (Md_show_52 v1 v2 v3 ((5 * v1) + v2) 1 S) else (Md_show_52 v1 v2 v3 ((5 * v1) + v2) 0 S)) else none))))
set_option maxRecDepth 4000 in
theorem r_Md_show {V : Sm → Wd} (hV : VwT V) {v1 : Int32} {v2 : Int32} {v3 : Int32} {S : Sm} {q : Int32 × Sm} (h : Md_show v1 v2 v3 S = some q) : Runs 2 mX12_show [.ref 53, .int v1, .int v2, .int v3] (V S) (some (.int q.1)) (V q.2) 0 0 := by
  unfold Md_show at h
  refine Runs.of2 [some (.ref 53), some (.int v1), some (.int v2), some (.int v3), none, none, none] 3 rfl rfl (Nat.le_of_ble_eq_true rfl) (fun l Γ => ?_)
  refine g_aload_n (pc := 0) dX12_show_0 rfl ?_
  refine g_iload_n (pc := 1) dX12_show_1 rfl ?_
  refine v_callVi hV (Mc := mX12_isMouth) (v := Md_isMouth v1 S) (S1 := S) (As := [.int v1]) (rest := []) (q := (RX12, TX12, 58)) (pc := 2) dX12_show_2 mK_X12_333 mf_X12_isMouth rfl k0_53 rfl rfl rfl (Nat.le_of_ble_eq_true rfl) ⟨Nat.le_of_ble_eq_true rfl, Nat.le_of_ble_eq_true rfl⟩ (r_Md_isMouth hV rfl) ?_
  refine g_if_eq (tgt := 24) (pc := 5) dX12_show_5 (by decide) (fun c10 => ?_) (fun c10 => ?_)
  · rw [if_pos c10] at h
    refine g_wk [false, false, false, false, false, false, false] rfl ?_
    exact t_Md_show_24 hV h
  · rw [if_neg c10] at h
    refine g_aload_n (pc := 8) dX12_show_8 rfl ?_
    refine g_iload_n (pc := 9) dX12_show_9 rfl ?_
    refine v_callVi hV (Mc := mX12_isColour) (v := Md_isColour v2 S) (S1 := S) (As := [.int v2]) (rest := []) (q := (RX12, TX12, 58)) (pc := 10) dX12_show_10 mK_X12_317 mf_X12_isColour rfl k0_53 rfl rfl rfl (Nat.le_of_ble_eq_true rfl) ⟨Nat.le_of_ble_eq_true rfl, Nat.le_of_ble_eq_true rfl⟩ (r_Md_isColour hV rfl) ?_
    refine g_if_eq (tgt := 24) (pc := 13) dX12_show_13 (by decide) (fun c9 => ?_) (fun c9 => ?_)
    · rw [if_pos c9] at h
      refine g_wk [false, false, false, false, false, false, false] rfl ?_
      exact t_Md_show_24 hV h
    · rw [if_neg c9] at h
      refine g_aload_n (pc := 16) dX12_show_16 rfl ?_
      refine g_iload_n (pc := 17) dX12_show_17 rfl ?_
      refine v_callVi hV (Mc := mX12_isMouth) (v := Md_isMouth v3 S) (S1 := S) (As := [.int v3]) (rest := []) (q := (RX12, TX12, 58)) (pc := 18) dX12_show_18 mK_X12_333 mf_X12_isMouth rfl k0_53 rfl rfl rfl (Nat.le_of_ble_eq_true rfl) ⟨Nat.le_of_ble_eq_true rfl, Nat.le_of_ble_eq_true rfl⟩ (r_Md_isMouth hV rfl) ?_
      refine g_if_ne (tgt := 26) (pc := 21) dX12_show_21 (by decide) (fun c8 => ?_) (fun c8 => ?_)
      · rw [if_neg c8] at h
        refine g_iconst (v := 5) (pc := 26) dX12_show_26 (by decide) ?_
        refine g_iload_n (pc := 27) dX12_show_27 rfl ?_
        refine g_imul (pc := 28) dX12_show_28 ?_
        refine g_iload_n (pc := 29) dX12_show_29 rfl ?_
        refine g_iadd (pc := 30) dX12_show_30 ?_
        refine g_istore (ls1 := [some (.ref 53), some (.int v1), some (.int v2), some (.int v3), some (.int ((5 * v1) + v2)), none, none]) (pc := 31) dX12_show_31 (by decide) rfl ?_
        refine g_aload_n (pc := 33) dX12_show_33 rfl ?_
        refine v_getR hV (pc := 34) dX12_show_34 fo_12_27 rfl k0_53 r0_53_27 ?_
        refine g_iconst (v := 0) (pc := 37) dX12_show_37 (by decide) ?_
        refine g_iload (pc := 38) dX12_show_38 rfl ?_
        refine g_iadd (pc := 40) dX12_show_40 ?_
        by_cases c1 : inb (0 + ((5 * v1) + v2)) 320
        · rw [if_pos c1] at h
          refine v_iald hV (pc := 41) dX12_show_41 k0_70 own_70 c1 ?_
          refine g_bipush (v := (-2)) (pc := 42) dX12_show_42 (by decide) ?_
          refine g_icmp_ne (tgt := 51) (pc := 44) dX12_show_44 (by decide) (fun c7 => ?_) (fun c7 => ?_)
          · rw [if_neg c7] at h
            refine g_iconst (v := 0) (pc := 51) dX12_show_51 (by decide) ?_
            exact t_Md_show_52 hV h
          · rw [if_pos c7] at h
            refine g_iconst (v := 1) (pc := 47) dX12_show_47 (by decide) ?_
            refine g_goto (tgt := 52) (pc := 48) dX12_show_48 (by decide) ?_
            exact t_Md_show_52 hV h
        · rw [if_neg c1] at h; cases h
      · rw [if_pos c8] at h
        refine g_wk [false, false, false, false, false, false, false] rfl ?_
        exact t_Md_show_24 hV h
def Md_guard_30 (S : Sm) : Option (Int32 × Sm) := (some (((-1), S)))
set_option maxRecDepth 4000 in
theorem t_Md_guard_30 {V : Sm → Wd} (hV : VwT V) {l : Launch} {Γ : Gm}  {S : Sm} {q : Int32 × Sm} (h : Md_guard_30 S = some q) : G mX12_guard l Γ (rmD 2 0 0) (mQ Γ (some (.int q.1)) (V q.2) 0 0) 0 0 30 [none, none, none] [] (V S) := by
  unfold Md_guard_30 at h
  refine g_iconst (v := (-1)) (pc := 30) dX12_guard_30 (by decide) ?_
  cases h
  exact g_iret (pc := 31) dX12_guard_31 rfl rfl (Nat.le_refl _) (Nat.le_refl _)
def Md_guard_55 (v1 : Int32) (s1 : Int32) (s2 : Int32) (s3 : Int32) (S : Sm) : Option (Int32 × Sm) := (if inb s1 320 then (if inb (80 + v1) 320 then (some ((gi (si S 70 (ix s1) (s2 + s3)) 70 (ix (80 + v1)), si S 70 (ix s1) (s2 + s3)))) else none) else none)
set_option maxRecDepth 4000 in
theorem t_Md_guard_55 {V : Sm → Wd} (hV : VwT V) {l : Launch} {Γ : Gm} {v1 : Int32} {s1 : Int32} {s2 : Int32} {s3 : Int32} {S : Sm} {q : Int32 × Sm} (h : Md_guard_55 v1 s1 s2 s3 S = some q) : G mX12_guard l Γ (rmD 2 0 0) (mQ Γ (some (.int q.1)) (V q.2) 0 0) 0 0 55 [some (.ref 53), some (.int v1), none] [.int s3, .int s2, .int s1, .ref 70] (V S) := by
  unfold Md_guard_55 at h
  refine g_iadd (pc := 55) dX12_guard_55 ?_
  by_cases c4 : inb s1 320
  · rw [if_pos c4] at h
    refine v_iast hV (pc := 56) dX12_guard_56 k0_70 own_70 c4 ?_
    refine g_aload_n (pc := 57) dX12_guard_57 rfl ?_
    refine v_getR hV (pc := 58) dX12_guard_58 fo_12_27 rfl k0_53 r0_53_27 ?_
    refine g_bipush (v := 80) (pc := 61) dX12_guard_61 (by decide) ?_
    refine g_iload_n (pc := 63) dX12_guard_63 rfl ?_
    refine g_iadd (pc := 64) dX12_guard_64 ?_
    by_cases c5 : inb (80 + v1) 320
    · rw [if_pos c5] at h
      refine v_iald hV (pc := 65) dX12_guard_65 k0_70 own_70 c5 ?_
      cases h
      exact g_iret (pc := 66) dX12_guard_66 rfl rfl (Nat.le_refl _) (Nat.le_refl _)
    · rw [if_neg c5] at h; cases h
  · rw [if_neg c4] at h; cases h
def Md_guard_27 (v1 : Int32) (v2 : Int32) (s0 : Int32) (s1 : Int32) (S : Sm) : Option (Int32 × Sm) := (if s0 = s1 then (Md_guard_30 S) else ((Md_keep S).bind fun q2 => (if inb (80 + v1) 320 then (if v2 = 0 then (Md_guard_55 v1 (80 + v1) (gi q2 70 (ix (80 + v1))) ((-1)) q2) else (Md_guard_55 v1 (80 + v1) (gi q2 70 (ix (80 + v1))) 1 q2)) else none)))
set_option maxRecDepth 4000 in
theorem t_Md_guard_27 {V : Sm → Wd} (hV : VwT V) {l : Launch} {Γ : Gm} {v1 : Int32} {v2 : Int32} {s0 : Int32} {s1 : Int32} {S : Sm} {q : Int32 × Sm} (h : Md_guard_27 v1 v2 s0 s1 S = some q) : G mX12_guard l Γ (rmD 2 0 0) (mQ Γ (some (.int q.1)) (V q.2) 0 0) 0 0 27 [some (.ref 53), some (.int v1), some (.int v2)] [.int s1, .int s0] (V S) := by
  unfold Md_guard_27 at h
  refine g_icmp_ne (tgt := 32) (pc := 27) dX12_guard_27 (by decide) (fun c7 => ?_) (fun c7 => ?_)
  · rw [if_neg c7] at h
    refine g_aload_n (pc := 32) dX12_guard_32 rfl ?_
    obtain ⟨q2, hq2, h⟩ := bnd h
    refine v_callVv hV (Mc := mX12_keep) (S1 := q2) (As := []) (rest := []) (q := (RX12, TX12, 58)) (pc := 33) dX12_guard_33 mK_X12_355 mf_X12_keep rfl k0_53 rfl rfl rfl (Nat.le_of_ble_eq_true rfl) ⟨Nat.le_of_ble_eq_true rfl, Nat.le_of_ble_eq_true rfl⟩ (r_Md_keep hV hq2) ?_
    refine g_aload_n (pc := 36) dX12_guard_36 rfl ?_
    refine v_getR hV (pc := 37) dX12_guard_37 fo_12_27 rfl k0_53 r0_53_27 ?_
    refine g_bipush (v := 80) (pc := 40) dX12_guard_40 (by decide) ?_
    refine g_iload_n (pc := 42) dX12_guard_42 rfl ?_
    refine g_iadd (pc := 43) dX12_guard_43 ?_
    refine g_dup2 (pc := 44) dX12_guard_44 rfl rfl ?_
    by_cases c3 : inb (80 + v1) 320
    · rw [if_pos c3] at h
      refine v_iald hV (pc := 45) dX12_guard_45 k0_70 own_70 c3 ?_
      refine g_iload_n (pc := 46) dX12_guard_46 rfl ?_
      refine g_if_eq (tgt := 54) (pc := 47) dX12_guard_47 (by decide) (fun c6 => ?_) (fun c6 => ?_)
      · rw [if_pos c6] at h
        refine g_iconst (v := (-1)) (pc := 54) dX12_guard_54 (by decide) ?_
        refine g_wk [true, true, false] rfl ?_
        exact t_Md_guard_55 hV h
      · rw [if_neg c6] at h
        refine g_iconst (v := 1) (pc := 50) dX12_guard_50 (by decide) ?_
        refine g_goto (tgt := 55) (pc := 51) dX12_guard_51 (by decide) ?_
        refine g_wk [true, true, false] rfl ?_
        exact t_Md_guard_55 hV h
    · rw [if_neg c3] at h; cases h
  · rw [if_pos c7] at h
    refine g_wk [false, false, false] rfl ?_
    exact t_Md_guard_30 hV h
def Md_guard (v1 : Int32) (v2 : Int32) (S : Sm) : Option (Int32 × Sm) := (if (Md_isMouth v1 S) = 0 then (Md_guard_30 S) else (if inb (80 + v1) 320 then (if v2 = 0 then (Md_guard_27 v1 v2 (gi S 70 (ix (80 + v1))) 0 S) else (Md_guard_27 v1 v2 (gi S 70 (ix (80 + v1))) 9 S)) else none))
set_option maxRecDepth 4000 in
theorem r_Md_guard {V : Sm → Wd} (hV : VwT V) {v1 : Int32} {v2 : Int32} {S : Sm} {q : Int32 × Sm} (h : Md_guard v1 v2 S = some q) : Runs 2 mX12_guard [.ref 53, .int v1, .int v2] (V S) (some (.int q.1)) (V q.2) 0 0 := by
  unfold Md_guard at h
  refine Runs.of2 [some (.ref 53), some (.int v1), some (.int v2)] 0 rfl rfl (Nat.le_of_ble_eq_true rfl) (fun l Γ => ?_)
  refine g_aload_n (pc := 0) dX12_guard_0 rfl ?_
  refine g_iload_n (pc := 1) dX12_guard_1 rfl ?_
  refine v_callVi hV (Mc := mX12_isMouth) (v := Md_isMouth v1 S) (S1 := S) (As := [.int v1]) (rest := []) (q := (RX12, TX12, 58)) (pc := 2) dX12_guard_2 mK_X12_333 mf_X12_isMouth rfl k0_53 rfl rfl rfl (Nat.le_of_ble_eq_true rfl) ⟨Nat.le_of_ble_eq_true rfl, Nat.le_of_ble_eq_true rfl⟩ (r_Md_isMouth hV rfl) ?_
  refine g_if_eq (tgt := 30) (pc := 5) dX12_guard_5 (by decide) (fun c9 => ?_) (fun c9 => ?_)
  · rw [if_pos c9] at h
    refine g_wk [false, false, false] rfl ?_
    exact t_Md_guard_30 hV h
  · rw [if_neg c9] at h
    refine g_aload_n (pc := 8) dX12_guard_8 rfl ?_
    refine v_getR hV (pc := 9) dX12_guard_9 fo_12_27 rfl k0_53 r0_53_27 ?_
    refine g_bipush (v := 80) (pc := 12) dX12_guard_12 (by decide) ?_
    refine g_iload_n (pc := 14) dX12_guard_14 rfl ?_
    refine g_iadd (pc := 15) dX12_guard_15 ?_
    by_cases c1 : inb (80 + v1) 320
    · rw [if_pos c1] at h
      refine v_iald hV (pc := 16) dX12_guard_16 k0_70 own_70 c1 ?_
      refine g_iload_n (pc := 17) dX12_guard_17 rfl ?_
      refine g_if_eq (tgt := 26) (pc := 18) dX12_guard_18 (by decide) (fun c8 => ?_) (fun c8 => ?_)
      · rw [if_pos c8] at h
        refine g_iconst (v := 0) (pc := 26) dX12_guard_26 (by decide) ?_
        exact t_Md_guard_27 hV h
      · rw [if_neg c8] at h
        refine g_bipush (v := 9) (pc := 21) dX12_guard_21 (by decide) ?_
        refine g_goto (tgt := 27) (pc := 23) dX12_guard_23 (by decide) ?_
        exact t_Md_guard_27 hV h
    · rw [if_neg c1] at h; cases h
def Md_draw (v1 : Int32) (S : Sm) : Option (Int32 × Sm) := (if (Int32.toInt64 v1) = (0 : Int64) then none else (some ((Int64.toInt32 (lRem (lUsh (gl (sl S 53 35 (((gl S 53 35) * 6364136223846793005) + 1442695040888963407)) 53 35) 33) (Int32.toInt64 v1)), sl S 53 35 (((gl S 53 35) * 6364136223846793005) + 1442695040888963407)))))
set_option maxRecDepth 4000 in
theorem r_Md_draw {V : Sm → Wd} (hV : VwT V) {v1 : Int32} {S : Sm} {q : Int32 × Sm} (h : Md_draw v1 S = some q) : Runs 0 mX12_draw [.ref 53, .int v1] (V S) (some (.int q.1)) (V q.2) 0 0 := by
  unfold Md_draw at h
  refine Runs.of2 [some (.ref 53), some (.int v1)] 0 rfl rfl (Nat.le_of_ble_eq_true rfl) (fun l Γ => ?_)
  refine g_aload_n (pc := 0) dX12_draw_0 rfl ?_
  refine g_aload_n (pc := 1) dX12_draw_1 rfl ?_
  refine v_getL hV (pc := 2) dX12_draw_2 fo_12_35 rfl k0_53 own_53 ?_
  refine g_ldc2 (v := 6364136223846793005) (pc := 5) dX12_draw_5 kL_X12_362 ?_
  refine g_lmul (pc := 8) dX12_draw_8 ?_
  refine g_ldc2 (v := 1442695040888963407) (pc := 9) dX12_draw_9 kL_X12_364 ?_
  refine g_ladd (pc := 12) dX12_draw_12 ?_
  refine v_putL hV (pc := 13) dX12_draw_13 fo_12_35 rfl k0_53 own_53 rfl ?_
  refine g_aload_n (pc := 16) dX12_draw_16 rfl ?_
  refine v_getL hV (pc := 17) dX12_draw_17 fo_12_35 rfl k0_53 own_53 ?_
  refine g_bipush (v := 33) (pc := 20) dX12_draw_20 (by decide) ?_
  refine g_lushr (pc := 22) dX12_draw_22 ?_
  refine g_iload_n (pc := 23) dX12_draw_23 rfl ?_
  refine g_i2l (pc := 24) dX12_draw_24 ?_
  by_cases c1 : (Int32.toInt64 v1) = (0 : Int64)
  · rw [if_pos c1] at h; cases h
  · rw [if_neg c1] at h
    refine g_lrem (pc := 25) dX12_draw_25 c1 ?_
    refine g_l2i (pc := 26) dX12_draw_26 ?_
    cases h
    exact g_iret (pc := 27) dX12_draw_27 rfl rfl (Nat.le_refl _) (Nat.le_refl _)
def Md_note_62 (v1 : Int32) (S : Sm) : Option (Sm) := (if inb (140 + (3 * (gi S 70 139))) 320 then ((Md_of v1 0 (si S 70 (ix (140 + (3 * (gi S 70 139)))) v1)).bind fun q2 => (if inb ((140 + (3 * (gi S 70 139))) + 1) 320 then (if inb ((140 + (3 * (gi S 70 139))) + 2) 320 then (some (si (si (si (si S 70 (ix (140 + (3 * (gi S 70 139)))) v1) 70 (ix ((140 + (3 * (gi S 70 139))) + 1)) q2) 70 (ix ((140 + (3 * (gi S 70 139))) + 2)) (gi (si (si S 70 (ix (140 + (3 * (gi S 70 139)))) v1) 70 (ix ((140 + (3 * (gi S 70 139))) + 1)) q2) 70 137)) 70 139 ((gi (si (si (si S 70 (ix (140 + (3 * (gi S 70 139)))) v1) 70 (ix ((140 + (3 * (gi S 70 139))) + 1)) q2) 70 (ix ((140 + (3 * (gi S 70 139))) + 2)) (gi (si (si S 70 (ix (140 + (3 * (gi S 70 139)))) v1) 70 (ix ((140 + (3 * (gi S 70 139))) + 1)) q2) 70 137)) 70 139) + 1))) else none) else none)) else none)
set_option maxRecDepth 4000 in
theorem t_Md_note_62 {V : Sm → Wd} (hV : VwT V) {l : Launch} {Γ : Gm} {v1 : Int32} {S : Sm} {q : Sm} (h : Md_note_62 v1 S = some q) : G mX12_note l Γ (rmD 1 0 0) (mQ Γ none (V q) 0 0) 0 0 62 [some (.ref 53), some (.int v1), none] [] (V S) := by
  unfold Md_note_62 at h
  refine g_sipush (v := 140) (pc := 62) dX12_note_62 (by decide) ?_
  refine g_iconst (v := 3) (pc := 65) dX12_note_65 (by decide) ?_
  refine g_aload_n (pc := 66) dX12_note_66 rfl ?_
  refine v_getR hV (pc := 67) dX12_note_67 fo_12_27 rfl k0_53 r0_53_27 ?_
  refine g_sipush (v := 139) (pc := 70) dX12_note_70 (by decide) ?_
  refine v_ialdK hV (k := 139) (pc := 73) dX12_note_73 k0_70 own_70 (by decide) (by decide) ?_
  refine g_imul (pc := 74) dX12_note_74 ?_
  refine g_iadd (pc := 75) dX12_note_75 ?_
  refine g_istore_n (ls1 := [some (.ref 53), some (.int v1), some (.int (140 + (3 * (gi S 70 139))))]) (pc := 76) dX12_note_76 (by decide) rfl ?_
  refine g_aload_n (pc := 77) dX12_note_77 rfl ?_
  refine v_getR hV (pc := 78) dX12_note_78 fo_12_27 rfl k0_53 r0_53_27 ?_
  refine g_iload_n (pc := 81) dX12_note_81 rfl ?_
  refine g_iload_n (pc := 82) dX12_note_82 rfl ?_
  by_cases c1 : inb (140 + (3 * (gi S 70 139))) 320
  · rw [if_pos c1] at h
    refine v_iast hV (pc := 83) dX12_note_83 k0_70 own_70 c1 ?_
    refine g_aload_n (pc := 84) dX12_note_84 rfl ?_
    refine v_getR hV (pc := 85) dX12_note_85 fo_12_27 rfl k0_53 r0_53_27 ?_
    refine g_iload_n (pc := 88) dX12_note_88 rfl ?_
    refine g_iconst (v := 1) (pc := 89) dX12_note_89 (by decide) ?_
    refine g_iadd (pc := 90) dX12_note_90 ?_
    refine g_aload_n (pc := 91) dX12_note_91 rfl ?_
    refine g_iload_n (pc := 92) dX12_note_92 rfl ?_
    refine g_iconst (v := 0) (pc := 93) dX12_note_93 (by decide) ?_
    obtain ⟨q2, hq2, h⟩ := bnd h
    refine v_callVi hV (Mc := mX12_of) (v := q2) (S1 := si S 70 (ix (140 + (3 * (gi S 70 139)))) v1) (As := [.int v1, .int 0]) (rest := [.int ((140 + (3 * (gi S 70 139))) + 1), .ref 70]) (q := (RX12, TX12, 58)) (pc := 94) dX12_note_94 mK_X12_343 mf_X12_of rfl k0_53 rfl rfl rfl (Nat.le_of_ble_eq_true rfl) ⟨Nat.le_of_ble_eq_true rfl, Nat.le_of_ble_eq_true rfl⟩ (r_Md_of hV hq2) ?_
    by_cases c3 : inb ((140 + (3 * (gi S 70 139))) + 1) 320
    · rw [if_pos c3] at h
      refine v_iast hV (pc := 97) dX12_note_97 k0_70 own_70 c3 ?_
      refine g_aload_n (pc := 98) dX12_note_98 rfl ?_
      refine v_getR hV (pc := 99) dX12_note_99 fo_12_27 rfl k0_53 r0_53_27 ?_
      refine g_iload_n (pc := 102) dX12_note_102 rfl ?_
      refine g_iconst (v := 2) (pc := 103) dX12_note_103 (by decide) ?_
      refine g_iadd (pc := 104) dX12_note_104 ?_
      refine g_aload_n (pc := 105) dX12_note_105 rfl ?_
      refine v_getR hV (pc := 106) dX12_note_106 fo_12_27 rfl k0_53 r0_53_27 ?_
      refine g_sipush (v := 137) (pc := 109) dX12_note_109 (by decide) ?_
      refine v_ialdK hV (k := 137) (pc := 112) dX12_note_112 k0_70 own_70 (by decide) (by decide) ?_
      by_cases c4 : inb ((140 + (3 * (gi S 70 139))) + 2) 320
      · rw [if_pos c4] at h
        refine v_iast hV (pc := 113) dX12_note_113 k0_70 own_70 c4 ?_
        refine g_aload_n (pc := 114) dX12_note_114 rfl ?_
        refine v_getR hV (pc := 115) dX12_note_115 fo_12_27 rfl k0_53 r0_53_27 ?_
        refine g_sipush (v := 139) (pc := 118) dX12_note_118 (by decide) ?_
        refine g_dup2 (pc := 121) dX12_note_121 rfl rfl ?_
        refine v_ialdK hV (k := 139) (pc := 122) dX12_note_122 k0_70 own_70 (by decide) (by decide) ?_
        refine g_iconst (v := 1) (pc := 123) dX12_note_123 (by decide) ?_
        refine g_iadd (pc := 124) dX12_note_124 ?_
        refine v_iastK hV (k := 139) (pc := 125) dX12_note_125 k0_70 own_70 (by decide) (by decide) ?_
        cases h
        exact g_vret (pc := 126) dX12_note_126 rfl (Nat.le_refl _) (Nat.le_refl _)
      · rw [if_neg c4] at h; cases h
    · rw [if_neg c3] at h; cases h
  · rw [if_neg c1] at h; cases h
def hd_Md_note_L15 (V : Sm → Wd) (l : Launch) (Γ : Gm) (rF : Option Value) (wF : Wd) (v1 : Int32) (q : Int32 × Sm) : Prop := G mX12_note l Γ (rmD 1 0 0) (mQ Γ rF wF 0 0) 0 0 15 [some (.ref 53), some (.int v1), some (.int q.1)] [] (V q.2)
def ps_Md_note_L15 (V : Sm → Wd) (l : Launch) (Γ : Gm) (rF : Option Value) (wF : Wd) (v1 : Int32) (x : Sm) : Prop := (fun (a : Sm) => G mX12_note l Γ (rmD 1 0 0) (mQ Γ rF wF 0 0) 0 0 50 [some (.ref 53), some (.int v1), none] [] (V a)) x
def Md_note_L15 (v1 : Int32) (q : Int32 × Sm) : Option ((Int32 × Sm) ⊕ (Sm)) := (if (180 : Int32) ≤ q.1 then (some (.inr q.2)) else (if inb (140 + q.1) 320 then (if inb ((140 + q.1) - 3) 320 then (some (.inl (q.1 + 1, si q.2 70 (ix ((140 + q.1) - 3)) (gi q.2 70 (ix (140 + q.1)))))) else none) else none))
set_option maxRecDepth 4000 in
theorem t_Md_note_L15 {V : Sm → Wd} (hV : VwT V) {l : Launch} {Γ : Gm} {rF : Option Value} {wF : Wd} {v1 : Int32} {q : Int32 × Sm} {o : (Int32 × Sm) ⊕ (Sm)} (h : Md_note_L15 v1 q = some o) (hK : Sum.elim (hd_Md_note_L15 V l Γ rF wF v1) (ps_Md_note_L15 V l Γ rF wF v1) o) : hd_Md_note_L15 V l Γ rF wF v1 q := by
  unfold Md_note_L15 at h
  unfold hd_Md_note_L15
  refine g_iload_n (pc := 15) dX12_note_15 rfl ?_
  refine g_sipush (v := 180) (pc := 16) dX12_note_16 (by decide) ?_
  refine g_icmp_ge (tgt := 50) (pc := 19) dX12_note_19 (by decide) (fun c7 => ?_) (fun c7 => ?_)
  · rw [if_pos c7] at h
    refine g_wk [true, true, false] rfl ?_
    cases h
    exact hK
  · rw [if_neg c7] at h
    refine g_aload_n (pc := 22) dX12_note_22 rfl ?_
    refine v_getR hV (pc := 23) dX12_note_23 fo_12_27 rfl k0_53 r0_53_27 ?_
    refine g_sipush (v := 140) (pc := 26) dX12_note_26 (by decide) ?_
    refine g_iload_n (pc := 29) dX12_note_29 rfl ?_
    refine g_iadd (pc := 30) dX12_note_30 ?_
    refine g_iconst (v := 3) (pc := 31) dX12_note_31 (by decide) ?_
    refine g_isub (pc := 32) dX12_note_32 ?_
    refine g_aload_n (pc := 33) dX12_note_33 rfl ?_
    refine v_getR hV (pc := 34) dX12_note_34 fo_12_27 rfl k0_53 r0_53_27 ?_
    refine g_sipush (v := 140) (pc := 37) dX12_note_37 (by decide) ?_
    refine g_iload_n (pc := 40) dX12_note_40 rfl ?_
    refine g_iadd (pc := 41) dX12_note_41 ?_
    by_cases c5 : inb (140 + q.1) 320
    · rw [if_pos c5] at h
      refine v_iald hV (pc := 42) dX12_note_42 k0_70 own_70 c5 ?_
      by_cases c6 : inb ((140 + q.1) - 3) 320
      · rw [if_pos c6] at h
        refine v_iast hV (pc := 43) dX12_note_43 k0_70 own_70 c6 ?_
        refine g_iinc (v := q.1 + 1) (ls1 := [some (.ref 53), some (.int v1), some (.int (q.1 + 1))]) (pc := 44) dX12_note_44 rfl rfl (by decide) rfl ?_
        refine g_goto (tgt := 15) (pc := 47) dX12_note_47 (by decide) ?_
        cases h
        exact hK
      · rw [if_neg c6] at h; cases h
    · rw [if_neg c5] at h; cases h
set_option maxRecDepth 4000 in
theorem w_Md_note_L15 {V : Sm → Wd} (hV : VwT V) {l : Launch} {Γ : Gm} {rF : Option Value} {wF : Wd} {v1 : Int32} {k : Nat} {q : Int32 × Sm} {o : Sm} (h : lpN (Md_note_L15 v1) k q = some o) (hP : ps_Md_note_L15 V l Γ rF wF v1 o) : hd_Md_note_L15 V l Γ rF wF v1 q := lpN_ind2 (hd_Md_note_L15 V l Γ rF wF v1) (ps_Md_note_L15 V l Γ rF wF v1) (fun s o h hK => t_Md_note_L15 hV h hK) k q o h hP
def Md_note (v1 : Int32) (S : Sm) : Option (Sm) := (if (gi S 70 139) = 60 then ((lpN (Md_note_L15 v1) FU (3, S)).bind fun q8 => (Md_note_62 v1 (si q8 70 139 ((gi q8 70 139) - 1)))) else (Md_note_62 v1 S))
set_option maxRecDepth 4000 in
theorem r_Md_note {V : Sm → Wd} (hV : VwT V) {v1 : Int32} {S : Sm} {q : Sm} (h : Md_note v1 S = some q) : Runs 1 mX12_note [.ref 53, .int v1] (V S) none (V q) 0 0 := by
  unfold Md_note at h
  refine Runs.of2 [some (.ref 53), some (.int v1), none] 1 rfl rfl (Nat.le_of_ble_eq_true rfl) (fun l Γ => ?_)
  refine g_aload_n (pc := 0) dX12_note_0 rfl ?_
  refine v_getR hV (pc := 1) dX12_note_1 fo_12_27 rfl k0_53 r0_53_27 ?_
  refine g_sipush (v := 139) (pc := 4) dX12_note_4 (by decide) ?_
  refine v_ialdK hV (k := 139) (pc := 7) dX12_note_7 k0_70 own_70 (by decide) (by decide) ?_
  refine g_bipush (v := 60) (pc := 8) dX12_note_8 (by decide) ?_
  refine g_icmp_ne (tgt := 62) (pc := 10) dX12_note_10 (by decide) (fun c9 => ?_) (fun c9 => ?_)
  · rw [if_neg c9] at h
    exact t_Md_note_62 hV h
  · rw [if_pos c9] at h
    refine g_iconst (v := 3) (pc := 13) dX12_note_13 (by decide) ?_
    refine g_istore_n (ls1 := [some (.ref 53), some (.int v1), some (.int 3)]) (pc := 14) dX12_note_14 (by decide) rfl ?_
    obtain ⟨q8, hqq8, h⟩ := bnd h
    refine w_Md_note_L15 hV hqq8 ?_
    unfold ps_Md_note_L15
    show G _ _ _ _ _ _ _ _ _ _ _
    refine g_aload_n (pc := 50) dX12_note_50 rfl ?_
    refine v_getR hV (pc := 51) dX12_note_51 fo_12_27 rfl k0_53 r0_53_27 ?_
    refine g_sipush (v := 139) (pc := 54) dX12_note_54 (by decide) ?_
    refine g_dup2 (pc := 57) dX12_note_57 rfl rfl ?_
    refine v_ialdK hV (k := 139) (pc := 58) dX12_note_58 k0_70 own_70 (by decide) (by decide) ?_
    refine g_iconst (v := 1) (pc := 59) dX12_note_59 (by decide) ?_
    refine g_isub (pc := 60) dX12_note_60 ?_
    refine v_iastK hV (k := 139) (pc := 61) dX12_note_61 k0_70 own_70 (by decide) (by decide) ?_
    exact t_Md_note_62 hV h
def hd_Md_pass_L2 (V : Sm → Wd) (l : Launch) (Γ : Gm) (rF : Option Value) (wF : Wd) (v1 : Int32) (v2 : Int32) (q : Int32 × Sm) : Prop := G mX12_pass l Γ (rmD 2 0 0) (mQ Γ rF wF 0 0) 0 0 2 [some (.ref 53), some (.int v1), some (.int v2), some (.int q.1), none, none] [] (V q.2)
def ps_Md_pass_L2 (V : Sm → Wd) (l : Launch) (Γ : Gm) (rF : Option Value) (wF : Wd) (v1 : Int32) (v2 : Int32) (x : Sm) : Prop := (fun (a : Sm) => G mX12_pass l Γ (rmD 2 0 0) (mQ Γ rF wF 0 0) 0 0 21 [some (.ref 53), some (.int v1), some (.int v2), none, none, none] [] (V a)) x
def Md_pass_L2 (v1 : Int32) (v2 : Int32) (q : Int32 × Sm) : Option ((Int32 × Sm) ⊕ (Sm)) := (if (8 : Int32) ≤ q.1 then (some (.inr q.2)) else (if inb q.1 8 then (some (.inl (q.1 + 1, si q.2 74 (ix q.1) 0))) else none))
set_option maxRecDepth 4000 in
theorem t_Md_pass_L2 {V : Sm → Wd} (hV : VwT V) {l : Launch} {Γ : Gm} {rF : Option Value} {wF : Wd} {v1 : Int32} {v2 : Int32} {q : Int32 × Sm} {o : (Int32 × Sm) ⊕ (Sm)} (h : Md_pass_L2 v1 v2 q = some o) (hK : Sum.elim (hd_Md_pass_L2 V l Γ rF wF v1 v2) (ps_Md_pass_L2 V l Γ rF wF v1 v2) o) : hd_Md_pass_L2 V l Γ rF wF v1 v2 q := by
  unfold Md_pass_L2 at h
  unfold hd_Md_pass_L2
  refine g_iload_n (pc := 2) dX12_pass_2 rfl ?_
  refine g_bipush (v := 8) (pc := 3) dX12_pass_3 (by decide) ?_
  refine g_icmp_ge (tgt := 21) (pc := 5) dX12_pass_5 (by decide) (fun c2 => ?_) (fun c2 => ?_)
  · rw [if_pos c2] at h
    refine g_wk [true, true, true, false, false, false] rfl ?_
    cases h
    exact hK
  · rw [if_neg c2] at h
    refine g_aload_n (pc := 8) dX12_pass_8 rfl ?_
    refine v_getR hV (pc := 9) dX12_pass_9 fo_12_36 rfl k0_53 r0_53_36 ?_
    refine g_iload_n (pc := 12) dX12_pass_12 rfl ?_
    refine g_iconst (v := 0) (pc := 13) dX12_pass_13 (by decide) ?_
    by_cases c1 : inb q.1 8
    · rw [if_pos c1] at h
      refine v_iast hV (pc := 14) dX12_pass_14 k0_74 own_74 c1 ?_
      refine g_iinc (v := q.1 + 1) (ls1 := [some (.ref 53), some (.int v1), some (.int v2), some (.int (q.1 + 1)), none, none]) (pc := 15) dX12_pass_15 rfl rfl (by decide) rfl ?_
      refine g_goto (tgt := 2) (pc := 18) dX12_pass_18 (by decide) ?_
      cases h
      exact hK
    · rw [if_neg c1] at h; cases h
set_option maxRecDepth 4000 in
theorem w_Md_pass_L2 {V : Sm → Wd} (hV : VwT V) {l : Launch} {Γ : Gm} {rF : Option Value} {wF : Wd} {v1 : Int32} {v2 : Int32} {k : Nat} {q : Int32 × Sm} {o : Sm} (h : lpN (Md_pass_L2 v1 v2) k q = some o) (hP : ps_Md_pass_L2 V l Γ rF wF v1 v2 o) : hd_Md_pass_L2 V l Γ rF wF v1 v2 q := lpN_ind2 (hd_Md_pass_L2 V l Γ rF wF v1 v2) (ps_Md_pass_L2 V l Γ rF wF v1 v2) (fun s o h hK => t_Md_pass_L2 hV h hK) k q o h hP
def hd_Md_pass_L23 (V : Sm → Wd) (l : Launch) (Γ : Gm) (rF : Option Value) (wF : Wd) (v1 : Int32) (v2 : Int32) (q : Int32 × Sm) : Prop := G mX12_pass l Γ (rmD 2 0 0) (mQ Γ rF wF 0 0) 0 0 23 [some (.ref 53), some (.int v1), some (.int v2), some (.int q.1), none, none] [] (V q.2)
def ps_Md_pass_L23 (V : Sm → Wd) (l : Launch) (Γ : Gm) (rF : Option Value) (wF : Wd) (v1 : Int32) (v2 : Int32) (x : Sm) : Prop := (fun (a : Sm) => G mX12_pass l Γ (rmD 2 0 0) (mQ Γ rF wF 0 0) 0 0 114 [some (.ref 53), some (.int v1), none, none, none, none] [] (V a)) x
def Md_pass_108_L23 (v1 : Int32) (v2 : Int32) (v3 : Int32) (S : Sm) : Option ((Int32 × Sm) ⊕ (Sm)) := (some (.inl (v3 + 1, S)))
set_option maxRecDepth 4000 in
theorem t_Md_pass_108_L23 {V : Sm → Wd} (hV : VwT V) {l : Launch} {Γ : Gm} {v1 : Int32} {v2 : Int32} {v3 : Int32} {rF : Option Value} {wF : Wd} {S : Sm} {o : (Int32 × Sm) ⊕ (Sm)} (h : Md_pass_108_L23 v1 v2 v3 S = some o) (hK : Sum.elim (hd_Md_pass_L23 V l Γ rF wF v1 v2) (ps_Md_pass_L23 V l Γ rF wF v1 v2) o) : G mX12_pass l Γ (rmD 2 0 0) (mQ Γ rF wF 0 0) 0 0 108 [some (.ref 53), some (.int v1), some (.int v2), some (.int v3), none, none] [] (V S) := by
  unfold Md_pass_108_L23 at h
  refine g_iinc (v := v3 + 1) (ls1 := [some (.ref 53), some (.int v1), some (.int v2), some (.int (v3 + 1)), none, none]) (pc := 108) dX12_pass_108 rfl rfl (by decide) rfl ?_
  refine g_goto (tgt := 23) (pc := 111) dX12_pass_111 (by decide) ?_
  cases h
  exact hK
def Md_pass_78_L23 (v1 : Int32) (v2 : Int32) (v3 : Int32) (s1 : Int32) (s2 : Int32) (s3 : Int32) (S : Sm) : Option ((Int32 × Sm) ⊕ (Sm)) := ((Md_put_ s1 s2 s3 S).bind fun q6 => ((Md_put_ v3 5 ((-1)) q6).bind fun q7 => ((Md_of v3 0 q7).bind fun q8 => (if inb q8 8 then (if inb q8 8 then ((Md_note v3 (si q7 74 (ix q8) ((gi q7 74 (ix q8)) + 1))).bind fun q11 => (Md_pass_108_L23 v1 v2 v3 q11)) else none) else none))))
set_option maxRecDepth 4000 in
theorem t_Md_pass_78_L23 {V : Sm → Wd} (hV : VwT V) {l : Launch} {Γ : Gm} {v1 : Int32} {v2 : Int32} {v3 : Int32} {s1 : Int32} {s2 : Int32} {s3 : Int32} {rF : Option Value} {wF : Wd} {S : Sm} {o : (Int32 × Sm) ⊕ (Sm)} (h : Md_pass_78_L23 v1 v2 v3 s1 s2 s3 S = some o) (hK : Sum.elim (hd_Md_pass_L23 V l Γ rF wF v1 v2) (ps_Md_pass_L23 V l Γ rF wF v1 v2) o) : G mX12_pass l Γ (rmD 2 0 0) (mQ Γ rF wF 0 0) 0 0 78 [some (.ref 53), some (.int v1), some (.int v2), some (.int v3), none, none] [.int s3, .int s2, .int s1, .ref 53] (V S) := by
  unfold Md_pass_78_L23 at h
  obtain ⟨q6, hq6, h⟩ := bnd h
  refine v_callVv hV (Mc := mX12_put_) (S1 := q6) (As := [.int s1, .int s2, .int s3]) (rest := []) (q := (RX12, TX12, 58)) (pc := 78) dX12_pass_78 mK_X12_288 mf_X12_put_ rfl k0_53 rfl rfl rfl (Nat.le_of_ble_eq_true rfl) ⟨Nat.le_of_ble_eq_true rfl, Nat.le_of_ble_eq_true rfl⟩ (r_Md_put_ hV hq6) ?_
  refine g_aload_n (pc := 81) dX12_pass_81 rfl ?_
  refine g_iload_n (pc := 82) dX12_pass_82 rfl ?_
  refine g_iconst (v := 5) (pc := 83) dX12_pass_83 (by decide) ?_
  refine g_iconst (v := (-1)) (pc := 84) dX12_pass_84 (by decide) ?_
  obtain ⟨q7, hq7, h⟩ := bnd h
  refine v_callVv hV (Mc := mX12_put_) (S1 := q7) (As := [.int v3, .int 5, .int ((-1))]) (rest := []) (q := (RX12, TX12, 58)) (pc := 85) dX12_pass_85 mK_X12_288 mf_X12_put_ rfl k0_53 rfl rfl rfl (Nat.le_of_ble_eq_true rfl) ⟨Nat.le_of_ble_eq_true rfl, Nat.le_of_ble_eq_true rfl⟩ (r_Md_put_ hV hq7) ?_
  refine g_aload_n (pc := 88) dX12_pass_88 rfl ?_
  refine v_getR hV (pc := 89) dX12_pass_89 fo_12_36 rfl k0_53 r0_53_36 ?_
  refine g_aload_n (pc := 92) dX12_pass_92 rfl ?_
  refine g_iload_n (pc := 93) dX12_pass_93 rfl ?_
  refine g_iconst (v := 0) (pc := 94) dX12_pass_94 (by decide) ?_
  obtain ⟨q8, hq8, h⟩ := bnd h
  refine v_callVi hV (Mc := mX12_of) (v := q8) (S1 := q7) (As := [.int v3, .int 0]) (rest := [.ref 74]) (q := (RX12, TX12, 58)) (pc := 95) dX12_pass_95 mK_X12_343 mf_X12_of rfl k0_53 rfl rfl rfl (Nat.le_of_ble_eq_true rfl) ⟨Nat.le_of_ble_eq_true rfl, Nat.le_of_ble_eq_true rfl⟩ (r_Md_of hV hq8) ?_
  refine g_dup2 (pc := 98) dX12_pass_98 rfl rfl ?_
  by_cases c9 : inb q8 8
  · rw [if_pos c9] at h
    refine v_iald hV (pc := 99) dX12_pass_99 k0_74 own_74 c9 ?_
    refine g_iconst (v := 1) (pc := 100) dX12_pass_100 (by decide) ?_
    refine g_iadd (pc := 101) dX12_pass_101 ?_
    by_cases c10 : inb q8 8
    · rw [if_pos c10] at h
      refine v_iast hV (pc := 102) dX12_pass_102 k0_74 own_74 c10 ?_
      refine g_aload_n (pc := 103) dX12_pass_103 rfl ?_
      refine g_iload_n (pc := 104) dX12_pass_104 rfl ?_
      obtain ⟨q11, hq11, h⟩ := bnd h
      refine v_callVv hV (Mc := mX12_note) (S1 := q11) (As := [.int v3]) (rest := []) (q := (RX12, TX12, 58)) (pc := 105) dX12_pass_105 mK_X12_369 mf_X12_note rfl k0_53 rfl rfl rfl (Nat.le_of_ble_eq_true rfl) ⟨Nat.le_of_ble_eq_true rfl, Nat.le_of_ble_eq_true rfl⟩ (r_Md_note hV hq11) ?_
      exact t_Md_pass_108_L23 hV h hK
    · rw [if_neg c10] at h; cases h
  · rw [if_neg c9] at h; cases h
def Md_pass_L23 (v1 : Int32) (v2 : Int32) (q : Int32 × Sm) : Option ((Int32 × Sm) ⊕ (Sm)) := (if (gi q.2 70 136) ≤ q.1 then (some (.inr q.2)) else ((Md_of q.1 5 q.2).bind fun q4 => (if q4 = (gi q.2 70 137) then (if v2 = 0 then ((Md_of q.1 0 q.2).bind fun q5 => (Md_pass_78_L23 v1 v2 q.1 q.1 0 q5 q.2)) else ((Md_draw (gi q.2 68 0) q.2).bind fun q12 => (Md_pass_78_L23 v1 v2 q.1 q.1 0 q12.1 q12.2))) else (Md_pass_108_L23 v1 v2 q.1 q.2))))
set_option maxRecDepth 4000 in
theorem t_Md_pass_L23 {V : Sm → Wd} (hV : VwT V) {l : Launch} {Γ : Gm} {rF : Option Value} {wF : Wd} {v1 : Int32} {v2 : Int32} {q : Int32 × Sm} {o : (Int32 × Sm) ⊕ (Sm)} (h : Md_pass_L23 v1 v2 q = some o) (hK : Sum.elim (hd_Md_pass_L23 V l Γ rF wF v1 v2) (ps_Md_pass_L23 V l Γ rF wF v1 v2) o) : hd_Md_pass_L23 V l Γ rF wF v1 v2 q := by
  unfold Md_pass_L23 at h
  unfold hd_Md_pass_L23
  refine g_iload_n (pc := 23) dX12_pass_23 rfl ?_
  refine g_aload_n (pc := 24) dX12_pass_24 rfl ?_
  refine v_getR hV (pc := 25) dX12_pass_25 fo_12_27 rfl k0_53 r0_53_27 ?_
  refine g_sipush (v := 136) (pc := 28) dX12_pass_28 (by decide) ?_
  refine v_ialdK hV (k := 136) (pc := 31) dX12_pass_31 k0_70 own_70 (by decide) (by decide) ?_
  refine g_icmp_ge (tgt := 114) (pc := 32) dX12_pass_32 (by decide) (fun c15 => ?_) (fun c15 => ?_)
  · rw [if_pos c15] at h
    refine g_wk [true, true, false, false, false, false] rfl ?_
    cases h
    exact hK
  · rw [if_neg c15] at h
    refine g_aload_n (pc := 35) dX12_pass_35 rfl ?_
    refine g_iload_n (pc := 36) dX12_pass_36 rfl ?_
    refine g_iconst (v := 5) (pc := 37) dX12_pass_37 (by decide) ?_
    obtain ⟨q4, hq4, h⟩ := bnd h
    refine v_callVi hV (Mc := mX12_of) (v := q4) (S1 := q.2) (As := [.int q.1, .int 5]) (rest := []) (q := (RX12, TX12, 58)) (pc := 38) dX12_pass_38 mK_X12_343 mf_X12_of rfl k0_53 rfl rfl rfl (Nat.le_of_ble_eq_true rfl) ⟨Nat.le_of_ble_eq_true rfl, Nat.le_of_ble_eq_true rfl⟩ (r_Md_of hV hq4) ?_
    refine g_aload_n (pc := 41) dX12_pass_41 rfl ?_
    refine v_getR hV (pc := 42) dX12_pass_42 fo_12_27 rfl k0_53 r0_53_27 ?_
    refine g_sipush (v := 137) (pc := 45) dX12_pass_45 (by decide) ?_
    refine v_ialdK hV (k := 137) (pc := 48) dX12_pass_48 k0_70 own_70 (by decide) (by decide) ?_
    refine g_icmp_ne (tgt := 108) (pc := 49) dX12_pass_49 (by decide) (fun c14 => ?_) (fun c14 => ?_)
    · rw [if_neg c14] at h
      exact t_Md_pass_108_L23 hV h hK
    · rw [if_pos c14] at h
      refine g_aload_n (pc := 52) dX12_pass_52 rfl ?_
      refine g_iload_n (pc := 53) dX12_pass_53 rfl ?_
      refine g_iconst (v := 0) (pc := 54) dX12_pass_54 (by decide) ?_
      refine g_iload_n (pc := 55) dX12_pass_55 rfl ?_
      refine g_if_eq (tgt := 72) (pc := 56) dX12_pass_56 (by decide) (fun c13 => ?_) (fun c13 => ?_)
      · rw [if_pos c13] at h
        refine g_aload_n (pc := 72) dX12_pass_72 rfl ?_
        refine g_iload_n (pc := 73) dX12_pass_73 rfl ?_
        refine g_iconst (v := 0) (pc := 74) dX12_pass_74 (by decide) ?_
        obtain ⟨q5, hq5, h⟩ := bnd h
        refine v_callVi hV (Mc := mX12_of) (v := q5) (S1 := q.2) (As := [.int q.1, .int 0]) (rest := [.int 0, .int q.1, .ref 53]) (q := (RX12, TX12, 58)) (pc := 75) dX12_pass_75 mK_X12_343 mf_X12_of rfl k0_53 rfl rfl rfl (Nat.le_of_ble_eq_true rfl) ⟨Nat.le_of_ble_eq_true rfl, Nat.le_of_ble_eq_true rfl⟩ (r_Md_of hV hq5) ?_
        exact t_Md_pass_78_L23 hV h hK
      · rw [if_neg c13] at h
        refine g_aload_n (pc := 59) dX12_pass_59 rfl ?_
        refine g_aload_n (pc := 60) dX12_pass_60 rfl ?_
        refine v_getR hV (pc := 61) dX12_pass_61 fo_12_24 rfl k0_53 r0_53_24 ?_
        refine g_iconst (v := 0) (pc := 64) dX12_pass_64 (by decide) ?_
        refine v_ialdK hV (k := 0) (pc := 65) dX12_pass_65 k0_68 own_68 (by decide) (by decide) ?_
        obtain ⟨q12, hq12, h⟩ := bnd h
        refine v_callVi hV (Mc := mX12_draw) (v := q12.1) (S1 := q12.2) (As := [.int (gi q.2 68 0)]) (rest := [.int 0, .int q.1, .ref 53]) (q := (RX12, TX12, 58)) (pc := 66) dX12_pass_66 mK_X12_366 mf_X12_draw rfl k0_53 rfl rfl rfl (Nat.le_of_ble_eq_true rfl) ⟨Nat.le_of_ble_eq_true rfl, Nat.le_of_ble_eq_true rfl⟩ (r_Md_draw hV hq12) ?_
        refine g_goto (tgt := 78) (pc := 69) dX12_pass_69 (by decide) ?_
        exact t_Md_pass_78_L23 hV h hK
set_option maxRecDepth 4000 in
theorem w_Md_pass_L23 {V : Sm → Wd} (hV : VwT V) {l : Launch} {Γ : Gm} {rF : Option Value} {wF : Wd} {v1 : Int32} {v2 : Int32} {k : Nat} {q : Int32 × Sm} {o : Sm} (h : lpN (Md_pass_L23 v1 v2) k q = some o) (hP : ps_Md_pass_L23 V l Γ rF wF v1 v2 o) : hd_Md_pass_L23 V l Γ rF wF v1 v2 q := lpN_ind2 (hd_Md_pass_L23 V l Γ rF wF v1 v2) (ps_Md_pass_L23 V l Γ rF wF v1 v2) (fun s o h hK => t_Md_pass_L23 hV h hK) k q o h hP
def hd_Md_pass_L116 (V : Sm → Wd) (l : Launch) (Γ : Gm) (rF : Option Value) (wF : Wd) (v1 : Int32) (q : Int32 × Sm) : Prop := G mX12_pass l Γ (rmD 2 0 0) (mQ Γ rF wF 0 0) 0 0 116 [some (.ref 53), some (.int v1), none, some (.int q.1), none, none] [] (V q.2)
def ps_Md_pass_L116 (V : Sm → Wd) (l : Launch) (Γ : Gm) (rF : Option Value) (wF : Wd) (v1 : Int32) (x : Sm) : Prop := (fun (a : Sm) => G mX12_pass l Γ (rmD 2 0 0) (mQ Γ rF wF 0 0) 0 0 252 [some (.ref 53), none, none, none, none, none] [] (V a)) x
def Md_pass_246_L116 (v1 : Int32) (v3 : Int32) (S : Sm) : Option ((Int32 × Sm) ⊕ (Sm)) := (some (.inl (v3 + 1, S)))
set_option maxRecDepth 4000 in
theorem t_Md_pass_246_L116 {V : Sm → Wd} (hV : VwT V) {l : Launch} {Γ : Gm} {v1 : Int32} {v3 : Int32} {rF : Option Value} {wF : Wd} {S : Sm} {o : (Int32 × Sm) ⊕ (Sm)} (h : Md_pass_246_L116 v1 v3 S = some o) (hK : Sum.elim (hd_Md_pass_L116 V l Γ rF wF v1) (ps_Md_pass_L116 V l Γ rF wF v1) o) : G mX12_pass l Γ (rmD 2 0 0) (mQ Γ rF wF 0 0) 0 0 246 [some (.ref 53), some (.int v1), none, some (.int v3), none, none] [] (V S) := by
  unfold Md_pass_246_L116 at h
  refine g_iinc (v := v3 + 1) (ls1 := [some (.ref 53), some (.int v1), none, some (.int (v3 + 1)), none, none]) (pc := 246) dX12_pass_246 rfl rfl (by decide) rfl ?_
  refine g_goto (tgt := 116) (pc := 249) dX12_pass_249 (by decide) ?_
  cases h
  exact hK
def Md_pass_173_L116 (v1 : Int32) (v3 : Int32) (s0 : Int32) (S : Sm) : Option ((Int32 × Sm) ⊕ (Sm)) := (if s0 = 0 then (Md_pass_246_L116 v1 v3 S) else ((Md_lampOf v3 S).bind fun q17 => ((Md_of v3 0 S).bind fun q18 => ((Md_lasts q18 q17 S).bind fun q19 => ((Md_put_ v3 5 ((gi S 70 137) + q19) S).bind fun q20 => ((Md_of v3 0 q20).bind fun q21 => ((Md_leads q21 q17 q20).bind fun q22 => ((Md_put_ v3 0 q22 q20).bind fun q23 => ((Md_of v3 4 q23).bind fun q24 => ((Md_put_ v3 4 (q24 - 1) q23).bind fun q25 => (Md_pass_246_L116 v1 v3 q25)))))))))))
set_option maxRecDepth 4000 in
theorem t_Md_pass_173_L116 {V : Sm → Wd} (hV : VwT V) {l : Launch} {Γ : Gm} {v1 : Int32} {v3 : Int32} {s0 : Int32} {rF : Option Value} {wF : Wd} {S : Sm} {o : (Int32 × Sm) ⊕ (Sm)} (h : Md_pass_173_L116 v1 v3 s0 S = some o) (hK : Sum.elim (hd_Md_pass_L116 V l Γ rF wF v1) (ps_Md_pass_L116 V l Γ rF wF v1) o) : G mX12_pass l Γ (rmD 2 0 0) (mQ Γ rF wF 0 0) 0 0 173 [some (.ref 53), some (.int v1), none, some (.int v3), none, none] [.int s0] (V S) := by
  unfold Md_pass_173_L116 at h
  refine g_istore (ls1 := [some (.ref 53), some (.int v1), none, some (.int v3), some (.int s0), none]) (pc := 173) dX12_pass_173 (by decide) rfl ?_
  refine g_iload (pc := 175) dX12_pass_175 rfl ?_
  refine g_if_eq (tgt := 246) (pc := 177) dX12_pass_177 (by decide) (fun c26 => ?_) (fun c26 => ?_)
  · rw [if_pos c26] at h
    refine g_wk [true, true, false, true, false, false] rfl ?_
    exact t_Md_pass_246_L116 hV h hK
  · rw [if_neg c26] at h
    refine g_aload_n (pc := 180) dX12_pass_180 rfl ?_
    refine g_iload_n (pc := 181) dX12_pass_181 rfl ?_
    obtain ⟨q17, hq17, h⟩ := bnd h
    refine v_callVi hV (Mc := mX12_lampOf) (v := q17) (S1 := S) (As := [.int v3]) (rest := []) (q := (RX12, TX12, 58)) (pc := 182) dX12_pass_182 mK_X12_352 mf_X12_lampOf rfl k0_53 rfl rfl rfl (Nat.le_of_ble_eq_true rfl) ⟨Nat.le_of_ble_eq_true rfl, Nat.le_of_ble_eq_true rfl⟩ (r_Md_lampOf hV hq17) ?_
    refine g_istore (ls1 := [some (.ref 53), some (.int v1), none, some (.int v3), some (.int s0), some (.int q17)]) (pc := 185) dX12_pass_185 (by decide) rfl ?_
    refine g_aload_n (pc := 187) dX12_pass_187 rfl ?_
    refine g_iload_n (pc := 188) dX12_pass_188 rfl ?_
    refine g_iconst (v := 5) (pc := 189) dX12_pass_189 (by decide) ?_
    refine g_aload_n (pc := 190) dX12_pass_190 rfl ?_
    refine v_getR hV (pc := 191) dX12_pass_191 fo_12_27 rfl k0_53 r0_53_27 ?_
    refine g_sipush (v := 137) (pc := 194) dX12_pass_194 (by decide) ?_
    refine v_ialdK hV (k := 137) (pc := 197) dX12_pass_197 k0_70 own_70 (by decide) (by decide) ?_
    refine g_aload_n (pc := 198) dX12_pass_198 rfl ?_
    refine g_aload_n (pc := 199) dX12_pass_199 rfl ?_
    refine g_iload_n (pc := 200) dX12_pass_200 rfl ?_
    refine g_iconst (v := 0) (pc := 201) dX12_pass_201 (by decide) ?_
    obtain ⟨q18, hq18, h⟩ := bnd h
    refine v_callVi hV (Mc := mX12_of) (v := q18) (S1 := S) (As := [.int v3, .int 0]) (rest := [.ref 53, .int (gi S 70 137), .int 5, .int v3, .ref 53]) (q := (RX12, TX12, 58)) (pc := 202) dX12_pass_202 mK_X12_343 mf_X12_of rfl k0_53 rfl rfl rfl (Nat.le_of_ble_eq_true rfl) ⟨Nat.le_of_ble_eq_true rfl, Nat.le_of_ble_eq_true rfl⟩ (r_Md_of hV hq18) ?_
    refine g_iload (pc := 205) dX12_pass_205 rfl ?_
    obtain ⟨q19, hq19, h⟩ := bnd h
    refine v_callVi hV (Mc := mX12_lasts) (v := q19) (S1 := S) (As := [.int q18, .int q17]) (rest := [.int (gi S 70 137), .int 5, .int v3, .ref 53]) (q := (RX12, TX12, 58)) (pc := 207) dX12_pass_207 mK_X12_320 mf_X12_lasts rfl k0_53 rfl rfl rfl (Nat.le_of_ble_eq_true rfl) ⟨Nat.le_of_ble_eq_true rfl, Nat.le_of_ble_eq_true rfl⟩ (r_Md_lasts hV hq19) ?_
    refine g_iadd (pc := 210) dX12_pass_210 ?_
    obtain ⟨q20, hq20, h⟩ := bnd h
    refine v_callVv hV (Mc := mX12_put_) (S1 := q20) (As := [.int v3, .int 5, .int ((gi S 70 137) + q19)]) (rest := []) (q := (RX12, TX12, 58)) (pc := 211) dX12_pass_211 mK_X12_288 mf_X12_put_ rfl k0_53 rfl rfl rfl (Nat.le_of_ble_eq_true rfl) ⟨Nat.le_of_ble_eq_true rfl, Nat.le_of_ble_eq_true rfl⟩ (r_Md_put_ hV hq20) ?_
    refine g_aload_n (pc := 214) dX12_pass_214 rfl ?_
    refine g_iload_n (pc := 215) dX12_pass_215 rfl ?_
    refine g_iconst (v := 0) (pc := 216) dX12_pass_216 (by decide) ?_
    refine g_aload_n (pc := 217) dX12_pass_217 rfl ?_
    refine g_aload_n (pc := 218) dX12_pass_218 rfl ?_
    refine g_iload_n (pc := 219) dX12_pass_219 rfl ?_
    refine g_iconst (v := 0) (pc := 220) dX12_pass_220 (by decide) ?_
    obtain ⟨q21, hq21, h⟩ := bnd h
    refine v_callVi hV (Mc := mX12_of) (v := q21) (S1 := q20) (As := [.int v3, .int 0]) (rest := [.ref 53, .int 0, .int v3, .ref 53]) (q := (RX12, TX12, 58)) (pc := 221) dX12_pass_221 mK_X12_343 mf_X12_of rfl k0_53 rfl rfl rfl (Nat.le_of_ble_eq_true rfl) ⟨Nat.le_of_ble_eq_true rfl, Nat.le_of_ble_eq_true rfl⟩ (r_Md_of hV hq21) ?_
    refine g_iload (pc := 224) dX12_pass_224 rfl ?_
    obtain ⟨q22, hq22, h⟩ := bnd h
    refine v_callVi hV (Mc := mX12_leads) (v := q22) (S1 := q20) (As := [.int q21, .int q17]) (rest := [.int 0, .int v3, .ref 53]) (q := (RX12, TX12, 58)) (pc := 226) dX12_pass_226 mK_X12_323 mf_X12_leads rfl k0_53 rfl rfl rfl (Nat.le_of_ble_eq_true rfl) ⟨Nat.le_of_ble_eq_true rfl, Nat.le_of_ble_eq_true rfl⟩ (r_Md_leads hV hq22) ?_
    obtain ⟨q23, hq23, h⟩ := bnd h
    refine v_callVv hV (Mc := mX12_put_) (S1 := q23) (As := [.int v3, .int 0, .int q22]) (rest := []) (q := (RX12, TX12, 58)) (pc := 229) dX12_pass_229 mK_X12_288 mf_X12_put_ rfl k0_53 rfl rfl rfl (Nat.le_of_ble_eq_true rfl) ⟨Nat.le_of_ble_eq_true rfl, Nat.le_of_ble_eq_true rfl⟩ (r_Md_put_ hV hq23) ?_
    refine g_aload_n (pc := 232) dX12_pass_232 rfl ?_
    refine g_iload_n (pc := 233) dX12_pass_233 rfl ?_
    refine g_iconst (v := 4) (pc := 234) dX12_pass_234 (by decide) ?_
    refine g_aload_n (pc := 235) dX12_pass_235 rfl ?_
    refine g_iload_n (pc := 236) dX12_pass_236 rfl ?_
    refine g_iconst (v := 4) (pc := 237) dX12_pass_237 (by decide) ?_
    obtain ⟨q24, hq24, h⟩ := bnd h
    refine v_callVi hV (Mc := mX12_of) (v := q24) (S1 := q23) (As := [.int v3, .int 4]) (rest := [.int 4, .int v3, .ref 53]) (q := (RX12, TX12, 58)) (pc := 238) dX12_pass_238 mK_X12_343 mf_X12_of rfl k0_53 rfl rfl rfl (Nat.le_of_ble_eq_true rfl) ⟨Nat.le_of_ble_eq_true rfl, Nat.le_of_ble_eq_true rfl⟩ (r_Md_of hV hq24) ?_
    refine g_iconst (v := 1) (pc := 241) dX12_pass_241 (by decide) ?_
    refine g_isub (pc := 242) dX12_pass_242 ?_
    obtain ⟨q25, hq25, h⟩ := bnd h
    refine v_callVv hV (Mc := mX12_put_) (S1 := q25) (As := [.int v3, .int 4, .int (q24 - 1)]) (rest := []) (q := (RX12, TX12, 58)) (pc := 243) dX12_pass_243 mK_X12_288 mf_X12_put_ rfl k0_53 rfl rfl rfl (Nat.le_of_ble_eq_true rfl) ⟨Nat.le_of_ble_eq_true rfl, Nat.le_of_ble_eq_true rfl⟩ (r_Md_put_ hV hq25) ?_
    refine g_wk [true, true, false, true, false, false] rfl ?_
    exact t_Md_pass_246_L116 hV h hK
def Md_pass_172_L116 (v1 : Int32) (v3 : Int32) (S : Sm) : Option ((Int32 × Sm) ⊕ (Sm)) := (Md_pass_173_L116 v1 v3 0 S)
set_option maxRecDepth 4000 in
theorem t_Md_pass_172_L116 {V : Sm → Wd} (hV : VwT V) {l : Launch} {Γ : Gm} {v1 : Int32} {v3 : Int32} {rF : Option Value} {wF : Wd} {S : Sm} {o : (Int32 × Sm) ⊕ (Sm)} (h : Md_pass_172_L116 v1 v3 S = some o) (hK : Sum.elim (hd_Md_pass_L116 V l Γ rF wF v1) (ps_Md_pass_L116 V l Γ rF wF v1) o) : G mX12_pass l Γ (rmD 2 0 0) (mQ Γ rF wF 0 0) 0 0 172 [some (.ref 53), some (.int v1), none, some (.int v3), none, none] [] (V S) := by
  unfold Md_pass_172_L116 at h
  refine g_iconst (v := 0) (pc := 172) dX12_pass_172 (by decide) ?_
  exact t_Md_pass_173_L116 hV h hK
def Md_pass_L116 (v1 : Int32) (q : Int32 × Sm) : Option ((Int32 × Sm) ⊕ (Sm)) := (if (gi q.2 70 136) ≤ q.1 then (some (.inr q.2)) else (if v1 = 0 then ((Md_of q.1 5 q.2).bind fun q27 => (if q27 = ((-1)) then ((Md_of q.1 3 q.2).bind fun q28 => (if (gi q.2 70 137) < q28 then (Md_pass_172_L116 v1 q.1 q.2) else ((Md_of q.1 4 q.2).bind fun q29 => (if q29 ≤ 0 then (Md_pass_172_L116 v1 q.1 q.2) else (Md_pass_173_L116 v1 q.1 1 q.2))))) else (Md_pass_172_L116 v1 q.1 q.2))) else (Md_pass_172_L116 v1 q.1 q.2)))
set_option maxRecDepth 4000 in
theorem t_Md_pass_L116 {V : Sm → Wd} (hV : VwT V) {l : Launch} {Γ : Gm} {rF : Option Value} {wF : Wd} {v1 : Int32} {q : Int32 × Sm} {o : (Int32 × Sm) ⊕ (Sm)} (h : Md_pass_L116 v1 q = some o) (hK : Sum.elim (hd_Md_pass_L116 V l Γ rF wF v1) (ps_Md_pass_L116 V l Γ rF wF v1) o) : hd_Md_pass_L116 V l Γ rF wF v1 q := by
  unfold Md_pass_L116 at h
  unfold hd_Md_pass_L116
  refine g_iload_n (pc := 116) dX12_pass_116 rfl ?_
  refine g_aload_n (pc := 117) dX12_pass_117 rfl ?_
  refine v_getR hV (pc := 118) dX12_pass_118 fo_12_27 rfl k0_53 r0_53_27 ?_
  refine g_sipush (v := 136) (pc := 121) dX12_pass_121 (by decide) ?_
  refine v_ialdK hV (k := 136) (pc := 124) dX12_pass_124 k0_70 own_70 (by decide) (by decide) ?_
  refine g_icmp_ge (tgt := 252) (pc := 125) dX12_pass_125 (by decide) (fun c34 => ?_) (fun c34 => ?_)
  · rw [if_pos c34] at h
    refine g_wk [true, false, false, false, false, false] rfl ?_
    cases h
    exact hK
  · rw [if_neg c34] at h
    refine g_iload_n (pc := 128) dX12_pass_128 rfl ?_
    refine g_if_ne (tgt := 172) (pc := 129) dX12_pass_129 (by decide) (fun c33 => ?_) (fun c33 => ?_)
    · rw [if_neg c33] at h
      exact t_Md_pass_172_L116 hV h hK
    · rw [if_pos c33] at h
      refine g_aload_n (pc := 132) dX12_pass_132 rfl ?_
      refine g_iload_n (pc := 133) dX12_pass_133 rfl ?_
      refine g_iconst (v := 5) (pc := 134) dX12_pass_134 (by decide) ?_
      obtain ⟨q27, hq27, h⟩ := bnd h
      refine v_callVi hV (Mc := mX12_of) (v := q27) (S1 := q.2) (As := [.int q.1, .int 5]) (rest := []) (q := (RX12, TX12, 58)) (pc := 135) dX12_pass_135 mK_X12_343 mf_X12_of rfl k0_53 rfl rfl rfl (Nat.le_of_ble_eq_true rfl) ⟨Nat.le_of_ble_eq_true rfl, Nat.le_of_ble_eq_true rfl⟩ (r_Md_of hV hq27) ?_
      refine g_iconst (v := (-1)) (pc := 138) dX12_pass_138 (by decide) ?_
      refine g_icmp_ne (tgt := 172) (pc := 139) dX12_pass_139 (by decide) (fun c32 => ?_) (fun c32 => ?_)
      · rw [if_neg c32] at h
        exact t_Md_pass_172_L116 hV h hK
      · rw [if_pos c32] at h
        refine g_aload_n (pc := 142) dX12_pass_142 rfl ?_
        refine g_iload_n (pc := 143) dX12_pass_143 rfl ?_
        refine g_iconst (v := 3) (pc := 144) dX12_pass_144 (by decide) ?_
        obtain ⟨q28, hq28, h⟩ := bnd h
        refine v_callVi hV (Mc := mX12_of) (v := q28) (S1 := q.2) (As := [.int q.1, .int 3]) (rest := []) (q := (RX12, TX12, 58)) (pc := 145) dX12_pass_145 mK_X12_343 mf_X12_of rfl k0_53 rfl rfl rfl (Nat.le_of_ble_eq_true rfl) ⟨Nat.le_of_ble_eq_true rfl, Nat.le_of_ble_eq_true rfl⟩ (r_Md_of hV hq28) ?_
        refine g_aload_n (pc := 148) dX12_pass_148 rfl ?_
        refine v_getR hV (pc := 149) dX12_pass_149 fo_12_27 rfl k0_53 r0_53_27 ?_
        refine g_sipush (v := 137) (pc := 152) dX12_pass_152 (by decide) ?_
        refine v_ialdK hV (k := 137) (pc := 155) dX12_pass_155 k0_70 own_70 (by decide) (by decide) ?_
        refine g_icmp_gt (tgt := 172) (pc := 156) dX12_pass_156 (by decide) (fun c31 => ?_) (fun c31 => ?_)
        · rw [if_pos c31] at h
          exact t_Md_pass_172_L116 hV h hK
        · rw [if_neg c31] at h
          refine g_aload_n (pc := 159) dX12_pass_159 rfl ?_
          refine g_iload_n (pc := 160) dX12_pass_160 rfl ?_
          refine g_iconst (v := 4) (pc := 161) dX12_pass_161 (by decide) ?_
          obtain ⟨q29, hq29, h⟩ := bnd h
          refine v_callVi hV (Mc := mX12_of) (v := q29) (S1 := q.2) (As := [.int q.1, .int 4]) (rest := []) (q := (RX12, TX12, 58)) (pc := 162) dX12_pass_162 mK_X12_343 mf_X12_of rfl k0_53 rfl rfl rfl (Nat.le_of_ble_eq_true rfl) ⟨Nat.le_of_ble_eq_true rfl, Nat.le_of_ble_eq_true rfl⟩ (r_Md_of hV hq29) ?_
          refine g_if_le (tgt := 172) (pc := 165) dX12_pass_165 (by decide) (fun c30 => ?_) (fun c30 => ?_)
          · rw [if_pos c30] at h
            exact t_Md_pass_172_L116 hV h hK
          · rw [if_neg c30] at h
            refine g_iconst (v := 1) (pc := 168) dX12_pass_168 (by decide) ?_
            refine g_goto (tgt := 173) (pc := 169) dX12_pass_169 (by decide) ?_
            exact t_Md_pass_173_L116 hV h hK
set_option maxRecDepth 4000 in
theorem w_Md_pass_L116 {V : Sm → Wd} (hV : VwT V) {l : Launch} {Γ : Gm} {rF : Option Value} {wF : Wd} {v1 : Int32} {k : Nat} {q : Int32 × Sm} {o : Sm} (h : lpN (Md_pass_L116 v1) k q = some o) (hP : ps_Md_pass_L116 V l Γ rF wF v1 o) : hd_Md_pass_L116 V l Γ rF wF v1 q := lpN_ind2 (hd_Md_pass_L116 V l Γ rF wF v1) (ps_Md_pass_L116 V l Γ rF wF v1) (fun s o h hK => t_Md_pass_L116 hV h hK) k q o h hP
def hd_Md_pass_L254 (V : Sm → Wd) (l : Launch) (Γ : Gm) (rF : Option Value) (wF : Wd)  (q : Int32 × Sm) : Prop := G mX12_pass l Γ (rmD 2 0 0) (mQ Γ rF wF 0 0) 0 0 254 [some (.ref 53), none, none, some (.int q.1), none, none] [] (V q.2)
def ps_Md_pass_L254 (V : Sm → Wd) (l : Launch) (Γ : Gm) (rF : Option Value) (wF : Wd)  (x : Sm) : Prop := (fun (a : Sm) => G mX12_pass l Γ (rmD 2 0 0) (mQ Γ rF wF 0 0) 0 0 294 [some (.ref 53), none, none, none, none, none] [] (V a)) x
def Md_pass_L254 (q : Int32 × Sm) : Option ((Int32 × Sm) ⊕ (Sm)) := (if (8 : Int32) ≤ q.1 then (some (.inr q.2)) else (if inb q.1 8 then (if inb q.1 8 then (some (.inl (q.1 + 1, si q.2 70 138 ((gi q.2 70 138) + (((gi q.2 74 (ix q.1)) * ((gi q.2 74 (ix q.1)) - 1)) / 2))))) else none) else none))
set_option maxRecDepth 4000 in
theorem t_Md_pass_L254 {V : Sm → Wd} (hV : VwT V) {l : Launch} {Γ : Gm} {rF : Option Value} {wF : Wd}  {q : Int32 × Sm} {o : (Int32 × Sm) ⊕ (Sm)} (h : Md_pass_L254 q = some o) (hK : Sum.elim (hd_Md_pass_L254 V l Γ rF wF) (ps_Md_pass_L254 V l Γ rF wF) o) : hd_Md_pass_L254 V l Γ rF wF q := by
  unfold Md_pass_L254 at h
  unfold hd_Md_pass_L254
  refine g_iload_n (pc := 254) dX12_pass_254 rfl ?_
  refine g_bipush (v := 8) (pc := 255) dX12_pass_255 (by decide) ?_
  refine g_icmp_ge (tgt := 294) (pc := 257) dX12_pass_257 (by decide) (fun c38 => ?_) (fun c38 => ?_)
  · rw [if_pos c38] at h
    refine g_wk [true, false, false, false, false, false] rfl ?_
    cases h
    exact hK
  · rw [if_neg c38] at h
    refine g_aload_n (pc := 260) dX12_pass_260 rfl ?_
    refine v_getR hV (pc := 261) dX12_pass_261 fo_12_27 rfl k0_53 r0_53_27 ?_
    refine g_sipush (v := 138) (pc := 264) dX12_pass_264 (by decide) ?_
    refine g_dup2 (pc := 267) dX12_pass_267 rfl rfl ?_
    refine v_ialdK hV (k := 138) (pc := 268) dX12_pass_268 k0_70 own_70 (by decide) (by decide) ?_
    refine g_aload_n (pc := 269) dX12_pass_269 rfl ?_
    refine v_getR hV (pc := 270) dX12_pass_270 fo_12_36 rfl k0_53 r0_53_36 ?_
    refine g_iload_n (pc := 273) dX12_pass_273 rfl ?_
    by_cases c36 : inb q.1 8
    · rw [if_pos c36] at h
      refine v_iald hV (pc := 274) dX12_pass_274 k0_74 own_74 c36 ?_
      refine g_aload_n (pc := 275) dX12_pass_275 rfl ?_
      refine v_getR hV (pc := 276) dX12_pass_276 fo_12_36 rfl k0_53 r0_53_36 ?_
      refine g_iload_n (pc := 279) dX12_pass_279 rfl ?_
      by_cases c37 : inb q.1 8
      · rw [if_pos c37] at h
        refine v_iald hV (pc := 280) dX12_pass_280 k0_74 own_74 c37 ?_
        refine g_iconst (v := 1) (pc := 281) dX12_pass_281 (by decide) ?_
        refine g_isub (pc := 282) dX12_pass_282 ?_
        refine g_imul (pc := 283) dX12_pass_283 ?_
        refine g_iconst (v := 2) (pc := 284) dX12_pass_284 (by decide) ?_
        refine g_idiv (pc := 285) dX12_pass_285 (by decide) ?_
        refine g_iadd (pc := 286) dX12_pass_286 ?_
        refine v_iastK hV (k := 138) (pc := 287) dX12_pass_287 k0_70 own_70 (by decide) (by decide) ?_
        refine g_iinc (v := q.1 + 1) (ls1 := [some (.ref 53), none, none, some (.int (q.1 + 1)), none, none]) (pc := 288) dX12_pass_288 rfl rfl (by decide) rfl ?_
        refine g_goto (tgt := 254) (pc := 291) dX12_pass_291 (by decide) ?_
        cases h
        exact hK
      · rw [if_neg c37] at h; cases h
    · rw [if_neg c36] at h; cases h
set_option maxRecDepth 4000 in
theorem w_Md_pass_L254 {V : Sm → Wd} (hV : VwT V) {l : Launch} {Γ : Gm} {rF : Option Value} {wF : Wd}  {k : Nat} {q : Int32 × Sm} {o : Sm} (h : lpN (Md_pass_L254) k q = some o) (hP : ps_Md_pass_L254 V l Γ rF wF o) : hd_Md_pass_L254 V l Γ rF wF q := lpN_ind2 (hd_Md_pass_L254 V l Γ rF wF) (ps_Md_pass_L254 V l Γ rF wF) (fun s o h hK => t_Md_pass_L254 hV h hK) k q o h hP
def Md_pass (v1 : Int32) (v2 : Int32) (S : Sm) : Option (Sm) := ((lpN (Md_pass_L2 v1 v2) FU (0, S)).bind fun q3 => ((lpN (Md_pass_L23 v1 v2) FU (0, q3)).bind fun q16 => ((lpN (Md_pass_L116 v1) FU (0, q16)).bind fun q35 => ((lpN (Md_pass_L254) FU (0, q35)).bind fun q39 => (some (si q39 70 137 ((gi q39 70 137) + 1)))))))
set_option maxRecDepth 4000 in
theorem r_Md_pass {V : Sm → Wd} (hV : VwT V) {v1 : Int32} {v2 : Int32} {S : Sm} {q : Sm} (h : Md_pass v1 v2 S = some q) : Runs 2 mX12_pass [.ref 53, .int v1, .int v2] (V S) none (V q) 0 0 := by
  unfold Md_pass at h
  refine Runs.of2 [some (.ref 53), some (.int v1), some (.int v2), none, none, none] 3 rfl rfl (Nat.le_of_ble_eq_true rfl) (fun l Γ => ?_)
  refine g_iconst (v := 0) (pc := 0) dX12_pass_0 (by decide) ?_
  refine g_istore_n (ls1 := [some (.ref 53), some (.int v1), some (.int v2), some (.int 0), none, none]) (pc := 1) dX12_pass_1 (by decide) rfl ?_
  obtain ⟨q3, hqq3, h⟩ := bnd h
  refine w_Md_pass_L2 hV hqq3 ?_
  unfold ps_Md_pass_L2
  show G _ _ _ _ _ _ _ _ _ _ _
  refine g_iconst (v := 0) (pc := 21) dX12_pass_21 (by decide) ?_
  refine g_istore_n (ls1 := [some (.ref 53), some (.int v1), some (.int v2), some (.int 0), none, none]) (pc := 22) dX12_pass_22 (by decide) rfl ?_
  obtain ⟨q16, hqq16, h⟩ := bnd h
  refine w_Md_pass_L23 hV hqq16 ?_
  unfold ps_Md_pass_L23
  show G _ _ _ _ _ _ _ _ _ _ _
  refine g_iconst (v := 0) (pc := 114) dX12_pass_114 (by decide) ?_
  refine g_istore_n (ls1 := [some (.ref 53), some (.int v1), none, some (.int 0), none, none]) (pc := 115) dX12_pass_115 (by decide) rfl ?_
  obtain ⟨q35, hqq35, h⟩ := bnd h
  refine w_Md_pass_L116 hV hqq35 ?_
  unfold ps_Md_pass_L116
  show G _ _ _ _ _ _ _ _ _ _ _
  refine g_iconst (v := 0) (pc := 252) dX12_pass_252 (by decide) ?_
  refine g_istore_n (ls1 := [some (.ref 53), none, none, some (.int 0), none, none]) (pc := 253) dX12_pass_253 (by decide) rfl ?_
  obtain ⟨q39, hqq39, h⟩ := bnd h
  refine w_Md_pass_L254 hV hqq39 ?_
  unfold ps_Md_pass_L254
  show G _ _ _ _ _ _ _ _ _ _ _
  refine g_aload_n (pc := 294) dX12_pass_294 rfl ?_
  refine v_getR hV (pc := 295) dX12_pass_295 fo_12_27 rfl k0_53 r0_53_27 ?_
  refine g_sipush (v := 137) (pc := 298) dX12_pass_298 (by decide) ?_
  refine g_dup2 (pc := 301) dX12_pass_301 rfl rfl ?_
  refine v_ialdK hV (k := 137) (pc := 302) dX12_pass_302 k0_70 own_70 (by decide) (by decide) ?_
  refine g_iconst (v := 1) (pc := 303) dX12_pass_303 (by decide) ?_
  refine g_iadd (pc := 304) dX12_pass_304 ?_
  refine v_iastK hV (k := 137) (pc := 305) dX12_pass_305 k0_70 own_70 (by decide) (by decide) ?_
  cases h
  exact g_vret (pc := 306) dX12_pass_306 rfl (Nat.le_refl _) (Nat.le_refl _)
def Md_areHours_41 (s0 : Int32) (S : Sm) : Int32 := (s0 &&& 1)
set_option maxRecDepth 4000 in
theorem t_Md_areHours_41 {V : Sm → Wd} (hV : VwT V) {l : Launch} {Γ : Gm} {s0 : Int32} {S : Sm} {q : Int32} (h : Md_areHours_41 s0 S = q) : G mX12_areHours l Γ (rmD 1 0 0) (mQ Γ (some (.int q)) (V S) 0 0) 0 0 41 [none, none] [.int s0] (V S) := by
  unfold Md_areHours_41 at h
  subst h
  exact g_iret (pc := 41) dX12_areHours_41 rfl rfl (Nat.le_refl _) (Nat.le_refl _)
def Md_areHours_40 (S : Sm) : Int32 := (Md_areHours_41 0 S)
set_option maxRecDepth 4000 in
theorem t_Md_areHours_40 {V : Sm → Wd} (hV : VwT V) {l : Launch} {Γ : Gm}  {S : Sm} {q : Int32} (h : Md_areHours_40 S = q) : G mX12_areHours l Γ (rmD 1 0 0) (mQ Γ (some (.int q)) (V S) 0 0) 0 0 40 [none, none] [] (V S) := by
  unfold Md_areHours_40 at h
  refine g_iconst (v := 0) (pc := 40) dX12_areHours_40 (by decide) ?_
  exact t_Md_areHours_41 hV h
def Md_areHours (v1 : Int32) (S : Sm) : Int32 := (if (gi S 68 0) ≤ 0 then (Md_areHours_40 S) else (if (Md_in v1 1 200) = 0 then (Md_areHours_40 S) else (if (9999 : Int32) < ((gi S 70 137) + v1) then (Md_areHours_40 S) else (Md_areHours_41 1 S))))
set_option maxRecDepth 4000 in
theorem r_Md_areHours {V : Sm → Wd} (hV : VwT V) {v1 : Int32} {S : Sm} {q : Int32} (h : Md_areHours v1 S = q) : Runs 1 mX12_areHours [.ref 53, .int v1] (V S) (some (.int q)) (V S) 0 0 := by
  unfold Md_areHours at h
  refine Runs.of2 [some (.ref 53), some (.int v1)] 0 rfl rfl (Nat.le_of_ble_eq_true rfl) (fun l Γ => ?_)
  refine g_aload_n (pc := 0) dX12_areHours_0 rfl ?_
  refine v_getR hV (pc := 1) dX12_areHours_1 fo_12_24 rfl k0_53 r0_53_24 ?_
  refine g_iconst (v := 0) (pc := 4) dX12_areHours_4 (by decide) ?_
  refine v_ialdK hV (k := 0) (pc := 5) dX12_areHours_5 k0_68 own_68 (by decide) (by decide) ?_
  refine g_if_le (tgt := 40) (pc := 6) dX12_areHours_6 (by decide) (fun c3 => ?_) (fun c3 => ?_)
  · rw [if_pos c3] at h
    refine g_wk [false, false] rfl ?_
    exact t_Md_areHours_40 hV h
  · rw [if_neg c3] at h
    refine g_iload_n (pc := 9) dX12_areHours_9 rfl ?_
    refine g_iconst (v := 1) (pc := 10) dX12_areHours_10 (by decide) ?_
    refine g_sipush (v := 200) (pc := 11) dX12_areHours_11 (by decide) ?_
    refine v_callSi (Mc := mX12_in) (v := Md_in v1 1 200) (S1 := S) (As := [.int v1, .int 1, .int 200]) (rest := []) (pc := 14) dX12_areHours_14 mK_X12_238 mf_X12_in rfl rfl (Nat.le_of_ble_eq_true rfl) ⟨Nat.le_of_ble_eq_true rfl, Nat.le_of_ble_eq_true rfl⟩ (r_Md_in hV rfl) ?_
    refine g_if_eq (tgt := 40) (pc := 17) dX12_areHours_17 (by decide) (fun c2 => ?_) (fun c2 => ?_)
    · rw [if_pos c2] at h
      refine g_wk [false, false] rfl ?_
      exact t_Md_areHours_40 hV h
    · rw [if_neg c2] at h
      refine g_aload_n (pc := 20) dX12_areHours_20 rfl ?_
      refine v_getR hV (pc := 21) dX12_areHours_21 fo_12_27 rfl k0_53 r0_53_27 ?_
      refine g_sipush (v := 137) (pc := 24) dX12_areHours_24 (by decide) ?_
      refine v_ialdK hV (k := 137) (pc := 27) dX12_areHours_27 k0_70 own_70 (by decide) (by decide) ?_
      refine g_iload_n (pc := 28) dX12_areHours_28 rfl ?_
      refine g_iadd (pc := 29) dX12_areHours_29 ?_
      refine g_sipush (v := 9999) (pc := 30) dX12_areHours_30 (by decide) ?_
      refine g_icmp_gt (tgt := 40) (pc := 33) dX12_areHours_33 (by decide) (fun c1 => ?_) (fun c1 => ?_)
      · rw [if_pos c1] at h
        refine g_wk [false, false] rfl ?_
        exact t_Md_areHours_40 hV h
      · rw [if_neg c1] at h
        refine g_iconst (v := 1) (pc := 36) dX12_areHours_36 (by decide) ?_
        refine g_goto (tgt := 41) (pc := 37) dX12_areHours_37 (by decide) ?_
        refine g_wk [false, false] rfl ?_
        exact t_Md_areHours_41 hV h
def hd_Md_go_L12 (V : Sm → Wd) (l : Launch) (Γ : Gm) (rF : Option Value) (wF : Wd) (v1 : Int32) (q : Int32 × Sm) : Prop := G mX12_go l Γ (rmD 3 0 0) (mQ Γ rF wF 0 0) 0 0 12 [some (.ref 53), some (.int v1), some (.int q.1)] [] (V q.2)
def ps_Md_go_L12 (V : Sm → Wd) (l : Launch) (Γ : Gm) (rF : Option Value) (wF : Wd) (v1 : Int32) (x : Sm) : Prop := (fun (a : Sm) => G mX12_go l Γ (rmD 3 0 0) (mQ Γ rF wF 0 0) 0 0 33 [some (.ref 53), none, none] [] (V a)) x
def Md_go_L12 (v1 : Int32) (q : Int32 × Sm) : Option ((Int32 × Sm) ⊕ (Sm)) := (if v1 ≤ q.1 then (some (.inr q.2)) else ((Md_keep q.2).bind fun q1 => ((Md_pass 0 0 q1).bind fun q2 => (some (.inl (q.1 + 1, q2))))))
set_option maxRecDepth 4000 in
theorem t_Md_go_L12 {V : Sm → Wd} (hV : VwT V) {l : Launch} {Γ : Gm} {rF : Option Value} {wF : Wd} {v1 : Int32} {q : Int32 × Sm} {o : (Int32 × Sm) ⊕ (Sm)} (h : Md_go_L12 v1 q = some o) (hK : Sum.elim (hd_Md_go_L12 V l Γ rF wF v1) (ps_Md_go_L12 V l Γ rF wF v1) o) : hd_Md_go_L12 V l Γ rF wF v1 q := by
  unfold Md_go_L12 at h
  unfold hd_Md_go_L12
  refine g_iload_n (pc := 12) dX12_go_12 rfl ?_
  refine g_iload_n (pc := 13) dX12_go_13 rfl ?_
  refine g_icmp_ge (tgt := 33) (pc := 14) dX12_go_14 (by decide) (fun c3 => ?_) (fun c3 => ?_)
  · rw [if_pos c3] at h
    refine g_wk [true, false, false] rfl ?_
    cases h
    exact hK
  · rw [if_neg c3] at h
    refine g_aload_n (pc := 17) dX12_go_17 rfl ?_
    obtain ⟨q1, hq1, h⟩ := bnd h
    refine v_callVv hV (Mc := mX12_keep) (S1 := q1) (As := []) (rest := []) (q := (RX12, TX12, 58)) (pc := 18) dX12_go_18 mK_X12_355 mf_X12_keep rfl k0_53 rfl rfl rfl (Nat.le_of_ble_eq_true rfl) ⟨Nat.le_of_ble_eq_true rfl, Nat.le_of_ble_eq_true rfl⟩ (r_Md_keep hV hq1) ?_
    refine g_aload_n (pc := 21) dX12_go_21 rfl ?_
    refine g_iconst (v := 0) (pc := 22) dX12_go_22 (by decide) ?_
    refine g_iconst (v := 0) (pc := 23) dX12_go_23 (by decide) ?_
    obtain ⟨q2, hq2, h⟩ := bnd h
    refine v_callVv hV (Mc := mX12_pass) (S1 := q2) (As := [.int 0, .int 0]) (rest := []) (q := (RX12, TX12, 58)) (pc := 24) dX12_go_24 mK_X12_375 mf_X12_pass rfl k0_53 rfl rfl rfl (Nat.le_of_ble_eq_true rfl) ⟨Nat.le_of_ble_eq_true rfl, Nat.le_of_ble_eq_true rfl⟩ (r_Md_pass hV hq2) ?_
    refine g_iinc (v := q.1 + 1) (ls1 := [some (.ref 53), some (.int v1), some (.int (q.1 + 1))]) (pc := 27) dX12_go_27 rfl rfl (by decide) rfl ?_
    refine g_goto (tgt := 12) (pc := 30) dX12_go_30 (by decide) ?_
    cases h
    exact hK
set_option maxRecDepth 4000 in
theorem w_Md_go_L12 {V : Sm → Wd} (hV : VwT V) {l : Launch} {Γ : Gm} {rF : Option Value} {wF : Wd} {v1 : Int32} {k : Nat} {q : Int32 × Sm} {o : Sm} (h : lpN (Md_go_L12 v1) k q = some o) (hP : ps_Md_go_L12 V l Γ rF wF v1 o) : hd_Md_go_L12 V l Γ rF wF v1 q := lpN_ind2 (hd_Md_go_L12 V l Γ rF wF v1) (ps_Md_go_L12 V l Γ rF wF v1) (fun s o h hK => t_Md_go_L12 hV h hK) k q o h hP
def Md_go (v1 : Int32) (S : Sm) : Option (Int32 × Sm) := (if (Md_areHours v1 S) = 0 then (some (((-1), S))) else ((lpN (Md_go_L12 v1) FU (0, S)).bind fun q4 => (some ((gi q4 70 137, q4)))))
set_option maxRecDepth 4000 in
theorem r_Md_go {V : Sm → Wd} (hV : VwT V) {v1 : Int32} {S : Sm} {q : Int32 × Sm} (h : Md_go v1 S = some q) : Runs 3 mX12_go [.ref 53, .int v1] (V S) (some (.int q.1)) (V q.2) 0 0 := by
  unfold Md_go at h
  refine Runs.of2 [some (.ref 53), some (.int v1), none] 1 rfl rfl (Nat.le_of_ble_eq_true rfl) (fun l Γ => ?_)
  refine g_aload_n (pc := 0) dX12_go_0 rfl ?_
  refine g_iload_n (pc := 1) dX12_go_1 rfl ?_
  refine v_callVi hV (Mc := mX12_areHours) (v := Md_areHours v1 S) (S1 := S) (As := [.int v1]) (rest := []) (q := (RX12, TX12, 58)) (pc := 2) dX12_go_2 mK_X12_372 mf_X12_areHours rfl k0_53 rfl rfl rfl (Nat.le_of_ble_eq_true rfl) ⟨Nat.le_of_ble_eq_true rfl, Nat.le_of_ble_eq_true rfl⟩ (r_Md_areHours hV rfl) ?_
  refine g_if_ne (tgt := 10) (pc := 5) dX12_go_5 (by decide) (fun c5 => ?_) (fun c5 => ?_)
  · rw [if_neg c5] at h
    refine g_iconst (v := 0) (pc := 10) dX12_go_10 (by decide) ?_
    refine g_istore_n (ls1 := [some (.ref 53), some (.int v1), some (.int 0)]) (pc := 11) dX12_go_11 (by decide) rfl ?_
    obtain ⟨q4, hqq4, h⟩ := bnd h
    refine w_Md_go_L12 hV hqq4 ?_
    unfold ps_Md_go_L12
    show G _ _ _ _ _ _ _ _ _ _ _
    refine g_aload_n (pc := 33) dX12_go_33 rfl ?_
    refine v_getR hV (pc := 34) dX12_go_34 fo_12_27 rfl k0_53 r0_53_27 ?_
    refine g_sipush (v := 137) (pc := 37) dX12_go_37 (by decide) ?_
    refine v_ialdK hV (k := 137) (pc := 40) dX12_go_40 k0_70 own_70 (by decide) (by decide) ?_
    cases h
    exact g_iret (pc := 41) dX12_go_41 rfl rfl (Nat.le_refl _) (Nat.le_refl _)
  · rw [if_pos c5] at h
    refine g_iconst (v := (-1)) (pc := 8) dX12_go_8 (by decide) ?_
    cases h
    exact g_iret (pc := 9) dX12_go_9 rfl rfl (Nat.le_refl _) (Nat.le_refl _)
def Md_fogs_18 (S : Sm) : Int32 × Sm := ((0, S))
set_option maxRecDepth 4000 in
theorem t_Md_fogs_18 {V : Sm → Wd} (hV : VwT V) {l : Launch} {Γ : Gm}  {S : Sm} {q : Int32 × Sm} (h : Md_fogs_18 S = q) : G mX12_fogs l Γ (rmD 1 0 0) (mQ Γ (some (.int q.1)) (V q.2) 0 0) 0 0 18 [none, none] [] (V S) := by
  unfold Md_fogs_18 at h
  refine g_iconst (v := 0) (pc := 18) dX12_fogs_18 (by decide) ?_
  subst h
  exact g_iret (u := 0) (pc := 19) dX12_fogs_19 rfl (by decide) (Nat.le_refl _) (Nat.le_refl _)
def Md_fogs (v1 : Int32) (S : Sm) : Int32 × Sm := (if (Md_in v1 0 99) = 0 then (Md_fogs_18 S) else (if v1 = (gi S 53 32) then (Md_fogs_18 S) else ((1, si S 53 32 v1))))
set_option maxRecDepth 4000 in
theorem r_Md_fogs {V : Sm → Wd} (hV : VwT V) {v1 : Int32} {S : Sm} {q : Int32 × Sm} (h : Md_fogs v1 S = q) : Runs 1 mX12_fogs [.ref 53, .int v1] (V S) (some (.int q.1)) (V q.2) 0 0 := by
  unfold Md_fogs at h
  refine Runs.of2 [some (.ref 53), some (.int v1)] 0 rfl rfl (Nat.le_of_ble_eq_true rfl) (fun l Γ => ?_)
  refine g_iload_n (pc := 0) dX12_fogs_0 rfl ?_
  refine g_iconst (v := 0) (pc := 1) dX12_fogs_1 (by decide) ?_
  refine g_bipush (v := 99) (pc := 2) dX12_fogs_2 (by decide) ?_
  refine v_callSi (Mc := mX12_in) (v := Md_in v1 0 99) (S1 := S) (As := [.int v1, .int 0, .int 99]) (rest := []) (pc := 4) dX12_fogs_4 mK_X12_238 mf_X12_in rfl rfl (Nat.le_of_ble_eq_true rfl) ⟨Nat.le_of_ble_eq_true rfl, Nat.le_of_ble_eq_true rfl⟩ (r_Md_in hV rfl) ?_
  refine g_if_eq (tgt := 18) (pc := 7) dX12_fogs_7 (by decide) (fun c2 => ?_) (fun c2 => ?_)
  · rw [if_pos c2] at h
    refine g_wk [false, false] rfl ?_
    exact t_Md_fogs_18 hV h
  · rw [if_neg c2] at h
    refine g_iload_n (pc := 10) dX12_fogs_10 rfl ?_
    refine g_aload_n (pc := 11) dX12_fogs_11 rfl ?_
    refine v_getI hV (pc := 12) dX12_fogs_12 fo_12_32 rfl k0_53 own_53 ?_
    refine g_icmp_ne (tgt := 20) (pc := 15) dX12_fogs_15 (by decide) (fun c1 => ?_) (fun c1 => ?_)
    · rw [if_neg c1] at h
      refine g_aload_n (pc := 20) dX12_fogs_20 rfl ?_
      refine g_iload_n (pc := 21) dX12_fogs_21 rfl ?_
      refine v_putI hV (pc := 22) dX12_fogs_22 fo_12_32 rfl k0_53 own_53 rfl ?_
      refine g_iconst (v := 1) (pc := 25) dX12_fogs_25 (by decide) ?_
      subst h
      exact g_iret (u := 1) (pc := 26) dX12_fogs_26 rfl (by decide) (Nat.le_refl _) (Nat.le_refl _)
    · rw [if_pos c1] at h
      refine g_wk [false, false] rfl ?_
      exact t_Md_fogs_18 hV h
def hd_Md_years_L18 (V : Sm → Wd) (l : Launch) (Γ : Gm) (rF : Option Value) (wF : Wd) (v1 : Int32) (q : Int32 × Sm) : Prop := G mX12_years l Γ (rmD 3 0 0) (mQ Γ rF wF 0 0) 0 0 18 [some (.ref 53), some (.int v1), none, none, some (.int q.1), none] [] (V q.2)
def ps_Md_years_L18 (V : Sm → Wd) (l : Launch) (Γ : Gm) (rF : Option Value) (wF : Wd) (v1 : Int32) (x : Sm) : Prop := (fun (a : Sm) => G mX12_years l Γ (rmD 3 0 0) (mQ Γ rF wF 0 0) 0 0 81 [some (.ref 53), none, none, none, none, none] [] (V a)) x
def Md_years_72_L18 (v1 : Int32) (v4 : Int32) (s1 : Int32) (s2 : Int32) (S : Sm) : Option ((Int32 × Sm) ⊕ (Sm)) := ((Md_pass s1 s2 S).bind fun q3 => (some (.inl (v4 + 1, q3))))
set_option maxRecDepth 4000 in
theorem t_Md_years_72_L18 {V : Sm → Wd} (hV : VwT V) {l : Launch} {Γ : Gm} {v1 : Int32} {v4 : Int32} {s1 : Int32} {s2 : Int32} {rF : Option Value} {wF : Wd} {S : Sm} {o : (Int32 × Sm) ⊕ (Sm)} (h : Md_years_72_L18 v1 v4 s1 s2 S = some o) (hK : Sum.elim (hd_Md_years_L18 V l Γ rF wF v1) (ps_Md_years_L18 V l Γ rF wF v1) o) : G mX12_years l Γ (rmD 3 0 0) (mQ Γ rF wF 0 0) 0 0 72 [some (.ref 53), some (.int v1), none, none, some (.int v4), none] [.int s2, .int s1, .ref 53] (V S) := by
  unfold Md_years_72_L18 at h
  obtain ⟨q3, hq3, h⟩ := bnd h
  refine v_callVv hV (Mc := mX12_pass) (S1 := q3) (As := [.int s1, .int s2]) (rest := []) (q := (RX12, TX12, 58)) (pc := 72) dX12_years_72 mK_X12_375 mf_X12_pass rfl k0_53 rfl rfl rfl (Nat.le_of_ble_eq_true rfl) ⟨Nat.le_of_ble_eq_true rfl, Nat.le_of_ble_eq_true rfl⟩ (r_Md_pass hV hq3) ?_
  refine g_iinc (v := v4 + 1) (ls1 := [some (.ref 53), some (.int v1), none, none, some (.int (v4 + 1)), none]) (pc := 75) dX12_years_75 rfl rfl (by decide) rfl ?_
  refine g_goto (tgt := 18) (pc := 78) dX12_years_78 (by decide) ?_
  cases h
  exact hK
def Md_years_46_L18 (v1 : Int32) (v4 : Int32) (s0 : Int32) (S : Sm) : Option ((Int32 × Sm) ⊕ (Sm)) := (if (iRem (gi S 70 137) 24) = 6 then (Md_years_72_L18 v1 v4 s0 1 S) else (Md_years_72_L18 v1 v4 s0 0 S))
set_option maxRecDepth 4000 in
theorem t_Md_years_46_L18 {V : Sm → Wd} (hV : VwT V) {l : Launch} {Γ : Gm} {v1 : Int32} {v4 : Int32} {s0 : Int32} {rF : Option Value} {wF : Wd} {S : Sm} {o : (Int32 × Sm) ⊕ (Sm)} (h : Md_years_46_L18 v1 v4 s0 S = some o) (hK : Sum.elim (hd_Md_years_L18 V l Γ rF wF v1) (ps_Md_years_L18 V l Γ rF wF v1) o) : G mX12_years l Γ (rmD 3 0 0) (mQ Γ rF wF 0 0) 0 0 46 [some (.ref 53), some (.int v1), none, none, some (.int v4), none] [.int s0] (V S) := by
  unfold Md_years_46_L18 at h
  refine g_istore (ls1 := [some (.ref 53), some (.int v1), none, none, some (.int v4), some (.int s0)]) (pc := 46) dX12_years_46 (by decide) rfl ?_
  refine g_aload_n (pc := 48) dX12_years_48 rfl ?_
  refine g_iload (pc := 49) dX12_years_49 rfl ?_
  refine g_aload_n (pc := 51) dX12_years_51 rfl ?_
  refine v_getR hV (pc := 52) dX12_years_52 fo_12_27 rfl k0_53 r0_53_27 ?_
  refine g_sipush (v := 137) (pc := 55) dX12_years_55 (by decide) ?_
  refine v_ialdK hV (k := 137) (pc := 58) dX12_years_58 k0_70 own_70 (by decide) (by decide) ?_
  refine g_bipush (v := 24) (pc := 59) dX12_years_59 (by decide) ?_
  refine g_irem (pc := 61) dX12_years_61 (by decide) ?_
  refine g_bipush (v := 6) (pc := 62) dX12_years_62 (by decide) ?_
  refine g_icmp_ne (tgt := 71) (pc := 64) dX12_years_64 (by decide) (fun c4 => ?_) (fun c4 => ?_)
  · rw [if_neg c4] at h
    refine g_iconst (v := 0) (pc := 71) dX12_years_71 (by decide) ?_
    refine g_wk [true, true, false, false, true, false] rfl ?_
    exact t_Md_years_72_L18 hV h hK
  · rw [if_pos c4] at h
    refine g_iconst (v := 1) (pc := 67) dX12_years_67 (by decide) ?_
    refine g_goto (tgt := 72) (pc := 68) dX12_years_68 (by decide) ?_
    refine g_wk [true, true, false, false, true, false] rfl ?_
    exact t_Md_years_72_L18 hV h hK
def Md_years_L18 (v1 : Int32) (q : Int32 × Sm) : Option ((Int32 × Sm) ⊕ (Sm)) := (if v1 ≤ q.1 then (some (.inr q.2)) else ((Md_keep q.2).bind fun q1 => ((Md_draw 100 q1).bind fun q2 => (if (gi q2.2 53 32) ≤ q2.1 then (Md_years_46_L18 v1 q.1 0 q2.2) else (Md_years_46_L18 v1 q.1 1 q2.2)))))
set_option maxRecDepth 4000 in
theorem t_Md_years_L18 {V : Sm → Wd} (hV : VwT V) {l : Launch} {Γ : Gm} {rF : Option Value} {wF : Wd} {v1 : Int32} {q : Int32 × Sm} {o : (Int32 × Sm) ⊕ (Sm)} (h : Md_years_L18 v1 q = some o) (hK : Sum.elim (hd_Md_years_L18 V l Γ rF wF v1) (ps_Md_years_L18 V l Γ rF wF v1) o) : hd_Md_years_L18 V l Γ rF wF v1 q := by
  unfold Md_years_L18 at h
  unfold hd_Md_years_L18
  refine g_iload (pc := 18) dX12_years_18 rfl ?_
  refine g_iload_n (pc := 20) dX12_years_20 rfl ?_
  refine g_icmp_ge (tgt := 81) (pc := 21) dX12_years_21 (by decide) (fun c6 => ?_) (fun c6 => ?_)
  · rw [if_pos c6] at h
    refine g_wk [true, false, false, false, false, false] rfl ?_
    cases h
    exact hK
  · rw [if_neg c6] at h
    refine g_aload_n (pc := 24) dX12_years_24 rfl ?_
    obtain ⟨q1, hq1, h⟩ := bnd h
    refine v_callVv hV (Mc := mX12_keep) (S1 := q1) (As := []) (rest := []) (q := (RX12, TX12, 58)) (pc := 25) dX12_years_25 mK_X12_355 mf_X12_keep rfl k0_53 rfl rfl rfl (Nat.le_of_ble_eq_true rfl) ⟨Nat.le_of_ble_eq_true rfl, Nat.le_of_ble_eq_true rfl⟩ (r_Md_keep hV hq1) ?_
    refine g_aload_n (pc := 28) dX12_years_28 rfl ?_
    refine g_bipush (v := 100) (pc := 29) dX12_years_29 (by decide) ?_
    obtain ⟨q2, hq2, h⟩ := bnd h
    refine v_callVi hV (Mc := mX12_draw) (v := q2.1) (S1 := q2.2) (As := [.int 100]) (rest := []) (q := (RX12, TX12, 58)) (pc := 31) dX12_years_31 mK_X12_366 mf_X12_draw rfl k0_53 rfl rfl rfl (Nat.le_of_ble_eq_true rfl) ⟨Nat.le_of_ble_eq_true rfl, Nat.le_of_ble_eq_true rfl⟩ (r_Md_draw hV hq2) ?_
    refine g_aload_n (pc := 34) dX12_years_34 rfl ?_
    refine v_getI hV (pc := 35) dX12_years_35 fo_12_32 rfl k0_53 own_53 ?_
    refine g_icmp_ge (tgt := 45) (pc := 38) dX12_years_38 (by decide) (fun c5 => ?_) (fun c5 => ?_)
    · rw [if_pos c5] at h
      refine g_iconst (v := 0) (pc := 45) dX12_years_45 (by decide) ?_
      exact t_Md_years_46_L18 hV h hK
    · rw [if_neg c5] at h
      refine g_iconst (v := 1) (pc := 41) dX12_years_41 (by decide) ?_
      refine g_goto (tgt := 46) (pc := 42) dX12_years_42 (by decide) ?_
      exact t_Md_years_46_L18 hV h hK
set_option maxRecDepth 4000 in
theorem w_Md_years_L18 {V : Sm → Wd} (hV : VwT V) {l : Launch} {Γ : Gm} {rF : Option Value} {wF : Wd} {v1 : Int32} {k : Nat} {q : Int32 × Sm} {o : Sm} (h : lpN (Md_years_L18 v1) k q = some o) (hP : ps_Md_years_L18 V l Γ rF wF v1 o) : hd_Md_years_L18 V l Γ rF wF v1 q := lpN_ind2 (hd_Md_years_L18 V l Γ rF wF v1) (ps_Md_years_L18 V l Γ rF wF v1) (fun s o h hK => t_Md_years_L18 hV h hK) k q o h hP
def Md_years (v1 : Int32) (v2 : Int64) (S : Sm) : Option (Int32 × Sm) := (if (Md_areHours v1 S) = 0 then (some (((-1), S))) else ((lpN (Md_years_L18 v1) FU (0, sl S 53 35 v2)).bind fun q7 => (some ((gi q7 70 137, q7)))))
set_option maxRecDepth 4000 in
theorem r_Md_years {V : Sm → Wd} (hV : VwT V) {v1 : Int32} {v2 : Int64} {S : Sm} {q : Int32 × Sm} (h : Md_years v1 v2 S = some q) : Runs 3 mX12_years [.ref 53, .int v1, .long v2] (V S) (some (.int q.1)) (V q.2) 0 0 := by
  unfold Md_years at h
  refine Runs.of2 [some (.ref 53), some (.int v1), some (.long v2), none, none, none] 2 rfl rfl (Nat.le_of_ble_eq_true rfl) (fun l Γ => ?_)
  refine g_aload_n (pc := 0) dX12_years_0 rfl ?_
  refine g_iload_n (pc := 1) dX12_years_1 rfl ?_
  refine v_callVi hV (Mc := mX12_areHours) (v := Md_areHours v1 S) (S1 := S) (As := [.int v1]) (rest := []) (q := (RX12, TX12, 58)) (pc := 2) dX12_years_2 mK_X12_372 mf_X12_areHours rfl k0_53 rfl rfl rfl (Nat.le_of_ble_eq_true rfl) ⟨Nat.le_of_ble_eq_true rfl, Nat.le_of_ble_eq_true rfl⟩ (r_Md_areHours hV rfl) ?_
  refine g_if_ne (tgt := 10) (pc := 5) dX12_years_5 (by decide) (fun c8 => ?_) (fun c8 => ?_)
  · rw [if_neg c8] at h
    refine g_aload_n (pc := 10) dX12_years_10 rfl ?_
    refine g_lload_n (pc := 11) dX12_years_11 rfl ?_
    refine v_putL hV (pc := 12) dX12_years_12 fo_12_35 rfl k0_53 own_53 rfl ?_
    refine g_iconst (v := 0) (pc := 15) dX12_years_15 (by decide) ?_
    refine g_istore (ls1 := [some (.ref 53), some (.int v1), some (.long v2), none, some (.int 0), none]) (pc := 16) dX12_years_16 (by decide) rfl ?_
    refine g_wk [true, true, false, false, true, false] rfl ?_
    obtain ⟨q7, hqq7, h⟩ := bnd h
    refine w_Md_years_L18 hV hqq7 ?_
    unfold ps_Md_years_L18
    show G _ _ _ _ _ _ _ _ _ _ _
    refine g_aload_n (pc := 81) dX12_years_81 rfl ?_
    refine v_getR hV (pc := 82) dX12_years_82 fo_12_27 rfl k0_53 r0_53_27 ?_
    refine g_sipush (v := 137) (pc := 85) dX12_years_85 (by decide) ?_
    refine v_ialdK hV (k := 137) (pc := 88) dX12_years_88 k0_70 own_70 (by decide) (by decide) ?_
    cases h
    exact g_iret (pc := 89) dX12_years_89 rfl rfl (Nat.le_refl _) (Nat.le_refl _)
  · rw [if_pos c8] at h
    refine g_iconst (v := (-1)) (pc := 8) dX12_years_8 (by decide) ?_
    cases h
    exact g_iret (pc := 9) dX12_years_9 rfl rfl (Nat.le_refl _) (Nat.le_refl _)
def hd_Md_undo_L21 (V : Sm → Wd) (l : Launch) (Γ : Gm) (rF : Option Value) (wF : Wd)  (q : Int32 × Sm) : Prop := G mX12_undo l Γ (rmD 0 0 0) (mQ Γ rF wF 0 0) 0 0 21 [some (.ref 53), some (.int q.1)] [] (V q.2)
def ps_Md_undo_L21 (V : Sm → Wd) (l : Launch) (Γ : Gm) (rF : Option Value) (wF : Wd)  (x : Sm) : Prop := (fun (a : Sm) => G mX12_undo l Γ (rmD 0 0 0) (mQ Γ rF wF 0 0) 0 0 55 [some (.ref 53), none] [] (V a)) x
def Md_undo_L21 (q : Int32 × Sm) : Option ((Int32 × Sm) ⊕ (Sm)) := (if (320 : Int32) ≤ q.1 then (some (.inr q.2)) else (if inb ((320 * (gi q.2 53 34)) + q.1) 12800 then (if inb q.1 320 then (some (.inl (q.1 + 1, si q.2 70 (ix q.1) (gi q.2 73 (ix ((320 * (gi q.2 53 34)) + q.1)))))) else none) else none))
set_option maxRecDepth 4000 in
theorem t_Md_undo_L21 {V : Sm → Wd} (hV : VwT V) {l : Launch} {Γ : Gm} {rF : Option Value} {wF : Wd}  {q : Int32 × Sm} {o : (Int32 × Sm) ⊕ (Sm)} (h : Md_undo_L21 q = some o) (hK : Sum.elim (hd_Md_undo_L21 V l Γ rF wF) (ps_Md_undo_L21 V l Γ rF wF) o) : hd_Md_undo_L21 V l Γ rF wF q := by
  unfold Md_undo_L21 at h
  unfold hd_Md_undo_L21
  refine g_iload_n (pc := 21) dX12_undo_21 rfl ?_
  refine g_sipush (v := 320) (pc := 22) dX12_undo_22 (by decide) ?_
  refine g_icmp_ge (tgt := 55) (pc := 25) dX12_undo_25 (by decide) (fun c3 => ?_) (fun c3 => ?_)
  · rw [if_pos c3] at h
    refine g_wk [true, false] rfl ?_
    cases h
    exact hK
  · rw [if_neg c3] at h
    refine g_aload_n (pc := 28) dX12_undo_28 rfl ?_
    refine v_getR hV (pc := 29) dX12_undo_29 fo_12_27 rfl k0_53 r0_53_27 ?_
    refine g_iload_n (pc := 32) dX12_undo_32 rfl ?_
    refine g_aload_n (pc := 33) dX12_undo_33 rfl ?_
    refine v_getR hV (pc := 34) dX12_undo_34 fo_12_33 rfl k0_53 r0_53_33 ?_
    refine g_sipush (v := 320) (pc := 37) dX12_undo_37 (by decide) ?_
    refine g_aload_n (pc := 40) dX12_undo_40 rfl ?_
    refine v_getI hV (pc := 41) dX12_undo_41 fo_12_34 rfl k0_53 own_53 ?_
    refine g_imul (pc := 44) dX12_undo_44 ?_
    refine g_iload_n (pc := 45) dX12_undo_45 rfl ?_
    refine g_iadd (pc := 46) dX12_undo_46 ?_
    by_cases c1 : inb ((320 * (gi q.2 53 34)) + q.1) 12800
    · rw [if_pos c1] at h
      refine v_iald hV (pc := 47) dX12_undo_47 k0_73 own_73 c1 ?_
      by_cases c2 : inb q.1 320
      · rw [if_pos c2] at h
        refine v_iast hV (pc := 48) dX12_undo_48 k0_70 own_70 c2 ?_
        refine g_iinc (v := q.1 + 1) (ls1 := [some (.ref 53), some (.int (q.1 + 1))]) (pc := 49) dX12_undo_49 rfl rfl (by decide) rfl ?_
        refine g_goto (tgt := 21) (pc := 52) dX12_undo_52 (by decide) ?_
        cases h
        exact hK
      · rw [if_neg c2] at h; cases h
    · rw [if_neg c1] at h; cases h
set_option maxRecDepth 4000 in
theorem w_Md_undo_L21 {V : Sm → Wd} (hV : VwT V) {l : Launch} {Γ : Gm} {rF : Option Value} {wF : Wd}  {k : Nat} {q : Int32 × Sm} {o : Sm} (h : lpN (Md_undo_L21) k q = some o) (hP : ps_Md_undo_L21 V l Γ rF wF o) : hd_Md_undo_L21 V l Γ rF wF q := lpN_ind2 (hd_Md_undo_L21 V l Γ rF wF) (ps_Md_undo_L21 V l Γ rF wF) (fun s o h hK => t_Md_undo_L21 hV h hK) k q o h hP
def Md_undo (S : Sm) : Option (Int32 × Sm) := (if (gi S 53 34) = 0 then (some (((-1), S))) else ((lpN (Md_undo_L21) FU (0, si S 53 34 ((gi S 53 34) - 1))).bind fun q4 => (some ((gi q4 53 34, q4)))))
set_option maxRecDepth 4000 in
theorem r_Md_undo {V : Sm → Wd} (hV : VwT V)  {S : Sm} {q : Int32 × Sm} (h : Md_undo S = some q) : Runs 0 mX12_undo [.ref 53] (V S) (some (.int q.1)) (V q.2) 0 0 := by
  unfold Md_undo at h
  refine Runs.of2 [some (.ref 53), none] 1 rfl rfl (Nat.le_of_ble_eq_true rfl) (fun l Γ => ?_)
  refine g_aload_n (pc := 0) dX12_undo_0 rfl ?_
  refine v_getI hV (pc := 1) dX12_undo_1 fo_12_34 rfl k0_53 own_53 ?_
  refine g_if_ne (tgt := 9) (pc := 4) dX12_undo_4 (by decide) (fun c5 => ?_) (fun c5 => ?_)
  · rw [if_neg c5] at h
    refine g_aload_n (pc := 9) dX12_undo_9 rfl ?_
    refine g_dup (pc := 10) dX12_undo_10 rfl ?_
    refine v_getI hV (pc := 11) dX12_undo_11 fo_12_34 rfl k0_53 own_53 ?_
    refine g_iconst (v := 1) (pc := 14) dX12_undo_14 (by decide) ?_
    refine g_isub (pc := 15) dX12_undo_15 ?_
    refine v_putI hV (pc := 16) dX12_undo_16 fo_12_34 rfl k0_53 own_53 rfl ?_
    refine g_iconst (v := 0) (pc := 19) dX12_undo_19 (by decide) ?_
    refine g_istore_n (ls1 := [some (.ref 53), some (.int 0)]) (pc := 20) dX12_undo_20 (by decide) rfl ?_
    obtain ⟨q4, hqq4, h⟩ := bnd h
    refine w_Md_undo_L21 hV hqq4 ?_
    unfold ps_Md_undo_L21
    show G _ _ _ _ _ _ _ _ _ _ _
    refine g_aload_n (pc := 55) dX12_undo_55 rfl ?_
    refine v_getI hV (pc := 56) dX12_undo_56 fo_12_34 rfl k0_53 own_53 ?_
    cases h
    exact g_iret (pc := 59) dX12_undo_59 rfl rfl (Nat.le_refl _) (Nat.le_refl _)
  · rw [if_pos c5] at h
    refine g_iconst (v := (-1)) (pc := 7) dX12_undo_7 (by decide) ?_
    cases h
    exact g_iret (pc := 8) dX12_undo_8 rfl rfl (Nat.le_refl _) (Nat.le_refl _)
def Md_log_56 (s0 : Int32) (S : Sm) : Option (Int32) := (some s0)
set_option maxRecDepth 4000 in
theorem t_Md_log_56 {V : Sm → Wd} (hV : VwT V) {l : Launch} {Γ : Gm} {s0 : Int32} {S : Sm} {q : Int32} (h : Md_log_56 s0 S = some q) : G mX12_log l Γ (rmD 1 0 0) (mQ Γ (some (.int q)) (V S) 0 0) 0 0 56 [none, none, none] [.int s0] (V S) := by
  unfold Md_log_56 at h
  cases h
  exact g_iret (pc := 56) dX12_log_56 rfl rfl (Nat.le_refl _) (Nat.le_refl _)
def Md_log_55 (S : Sm) : Option (Int32) := (Md_log_56 ((-1)) S)
set_option maxRecDepth 4000 in
theorem t_Md_log_55 {V : Sm → Wd} (hV : VwT V) {l : Launch} {Γ : Gm}  {S : Sm} {q : Int32} (h : Md_log_55 S = some q) : G mX12_log l Γ (rmD 1 0 0) (mQ Γ (some (.int q)) (V S) 0 0) 0 0 55 [none, none, none] [] (V S) := by
  unfold Md_log_55 at h
  refine g_iconst (v := (-1)) (pc := 55) dX12_log_55 (by decide) ?_
  exact t_Md_log_56 hV h
def Md_log (v1 : Int32) (v2 : Int32) (S : Sm) : Option (Int32) := (if (Md_in v1 0 ((gi S 70 139) - 1)) = 0 then (Md_log_55 S) else (if (Md_in v2 0 2) = 0 then (Md_log_55 S) else (if inb ((140 + (3 * (((gi S 70 139) - 1) - v1))) + v2) 320 then (Md_log_56 (gi S 70 (ix ((140 + (3 * (((gi S 70 139) - 1) - v1))) + v2))) S) else none)))
set_option maxRecDepth 4000 in
theorem r_Md_log {V : Sm → Wd} (hV : VwT V) {v1 : Int32} {v2 : Int32} {S : Sm} {q : Int32} (h : Md_log v1 v2 S = some q) : Runs 1 mX12_log [.ref 53, .int v1, .int v2] (V S) (some (.int q)) (V S) 0 0 := by
  unfold Md_log at h
  refine Runs.of2 [some (.ref 53), some (.int v1), some (.int v2)] 0 rfl rfl (Nat.le_of_ble_eq_true rfl) (fun l Γ => ?_)
  refine g_iload_n (pc := 0) dX12_log_0 rfl ?_
  refine g_iconst (v := 0) (pc := 1) dX12_log_1 (by decide) ?_
  refine g_aload_n (pc := 2) dX12_log_2 rfl ?_
  refine v_getR hV (pc := 3) dX12_log_3 fo_12_27 rfl k0_53 r0_53_27 ?_
  refine g_sipush (v := 139) (pc := 6) dX12_log_6 (by decide) ?_
  refine v_ialdK hV (k := 139) (pc := 9) dX12_log_9 k0_70 own_70 (by decide) (by decide) ?_
  refine g_iconst (v := 1) (pc := 10) dX12_log_10 (by decide) ?_
  refine g_isub (pc := 11) dX12_log_11 ?_
  refine v_callSi (Mc := mX12_in) (v := Md_in v1 0 ((gi S 70 139) - 1)) (S1 := S) (As := [.int v1, .int 0, .int ((gi S 70 139) - 1)]) (rest := []) (pc := 12) dX12_log_12 mK_X12_238 mf_X12_in rfl rfl (Nat.le_of_ble_eq_true rfl) ⟨Nat.le_of_ble_eq_true rfl, Nat.le_of_ble_eq_true rfl⟩ (r_Md_in hV rfl) ?_
  refine g_if_eq (tgt := 55) (pc := 15) dX12_log_15 (by decide) (fun c3 => ?_) (fun c3 => ?_)
  · rw [if_pos c3] at h
    refine g_wk [false, false, false] rfl ?_
    exact t_Md_log_55 hV h
  · rw [if_neg c3] at h
    refine g_iload_n (pc := 18) dX12_log_18 rfl ?_
    refine g_iconst (v := 0) (pc := 19) dX12_log_19 (by decide) ?_
    refine g_iconst (v := 2) (pc := 20) dX12_log_20 (by decide) ?_
    refine v_callSi (Mc := mX12_in) (v := Md_in v2 0 2) (S1 := S) (As := [.int v2, .int 0, .int 2]) (rest := []) (pc := 21) dX12_log_21 mK_X12_238 mf_X12_in rfl rfl (Nat.le_of_ble_eq_true rfl) ⟨Nat.le_of_ble_eq_true rfl, Nat.le_of_ble_eq_true rfl⟩ (r_Md_in hV rfl) ?_
    refine g_if_eq (tgt := 55) (pc := 24) dX12_log_24 (by decide) (fun c2 => ?_) (fun c2 => ?_)
    · rw [if_pos c2] at h
      refine g_wk [false, false, false] rfl ?_
      exact t_Md_log_55 hV h
    · rw [if_neg c2] at h
      refine g_aload_n (pc := 27) dX12_log_27 rfl ?_
      refine v_getR hV (pc := 28) dX12_log_28 fo_12_27 rfl k0_53 r0_53_27 ?_
      refine g_sipush (v := 140) (pc := 31) dX12_log_31 (by decide) ?_
      refine g_iconst (v := 3) (pc := 34) dX12_log_34 (by decide) ?_
      refine g_aload_n (pc := 35) dX12_log_35 rfl ?_
      refine v_getR hV (pc := 36) dX12_log_36 fo_12_27 rfl k0_53 r0_53_27 ?_
      refine g_sipush (v := 139) (pc := 39) dX12_log_39 (by decide) ?_
      refine v_ialdK hV (k := 139) (pc := 42) dX12_log_42 k0_70 own_70 (by decide) (by decide) ?_
      refine g_iconst (v := 1) (pc := 43) dX12_log_43 (by decide) ?_
      refine g_isub (pc := 44) dX12_log_44 ?_
      refine g_iload_n (pc := 45) dX12_log_45 rfl ?_
      refine g_isub (pc := 46) dX12_log_46 ?_
      refine g_imul (pc := 47) dX12_log_47 ?_
      refine g_iadd (pc := 48) dX12_log_48 ?_
      refine g_iload_n (pc := 49) dX12_log_49 rfl ?_
      refine g_iadd (pc := 50) dX12_log_50 ?_
      by_cases c1 : inb ((140 + (3 * (((gi S 70 139) - 1) - v1))) + v2) 320
      · rw [if_pos c1] at h
        refine v_iald hV (pc := 51) dX12_log_51 k0_70 own_70 c1 ?_
        refine g_goto (tgt := 56) (pc := 52) dX12_log_52 (by decide) ?_
        refine g_wk [false, false, false] rfl ?_
        exact t_Md_log_56 hV h
      · rw [if_neg c1] at h; cases h
def hd_Md_through_L6 (V : Sm → Wd) (l : Launch) (Γ : Gm) (rF : Option Value) (wF : Wd) (v2 : Int32) (v3 : Int32) (S : Sm) (q : Int32 × Int32) : Prop := G mX12_through l Γ (rmD 1 0 0) (mQ Γ rF wF 0 0) 0 0 6 [some (.ref 53), none, some (.int v2), some (.int v3), some (.int q.1), some (.int q.2)] [] (V S)
def ps_Md_through_L6 (V : Sm → Wd) (l : Launch) (Γ : Gm) (rF : Option Value) (wF : Wd) (v2 : Int32) (v3 : Int32) (S : Sm) (x : Int32) : Prop := (fun (a : Int32) => G mX12_through l Γ (rmD 1 0 0) (mQ Γ rF wF 0 0) 0 0 27 [none, none, none, none, some (.int a), none] [] (V S)) x
def Md_through_L6 (v2 : Int32) (v3 : Int32) (S : Sm) (q : Int32 × Int32) : Option ((Int32 × Int32) ⊕ (Int32)) := (if v3 ≤ q.2 then (some (.inr q.1)) else ((Md_leads q.1 v2 S).bind fun q1 => (some (.inl (q1, q.2 + 1)))))
set_option maxRecDepth 4000 in
theorem t_Md_through_L6 {V : Sm → Wd} (hV : VwT V) {l : Launch} {Γ : Gm} {rF : Option Value} {wF : Wd} {v2 : Int32} {v3 : Int32} {S : Sm} {q : Int32 × Int32} {o : (Int32 × Int32) ⊕ (Int32)} (h : Md_through_L6 v2 v3 S q = some o) (hK : Sum.elim (hd_Md_through_L6 V l Γ rF wF v2 v3 S) (ps_Md_through_L6 V l Γ rF wF v2 v3 S) o) : hd_Md_through_L6 V l Γ rF wF v2 v3 S q := by
  unfold Md_through_L6 at h
  unfold hd_Md_through_L6
  refine g_iload (pc := 6) dX12_through_6 rfl ?_
  refine g_iload_n (pc := 8) dX12_through_8 rfl ?_
  refine g_icmp_ge (tgt := 27) (pc := 9) dX12_through_9 (by decide) (fun c2 => ?_) (fun c2 => ?_)
  · rw [if_pos c2] at h
    refine g_wk [false, false, false, false, true, false] rfl ?_
    cases h
    exact hK
  · rw [if_neg c2] at h
    refine g_aload_n (pc := 12) dX12_through_12 rfl ?_
    refine g_iload (pc := 13) dX12_through_13 rfl ?_
    refine g_iload_n (pc := 15) dX12_through_15 rfl ?_
    obtain ⟨q1, hq1, h⟩ := bnd h
    refine v_callVi hV (Mc := mX12_leads) (v := q1) (S1 := S) (As := [.int q.1, .int v2]) (rest := []) (q := (RX12, TX12, 58)) (pc := 16) dX12_through_16 mK_X12_323 mf_X12_leads rfl k0_53 rfl rfl rfl (Nat.le_of_ble_eq_true rfl) ⟨Nat.le_of_ble_eq_true rfl, Nat.le_of_ble_eq_true rfl⟩ (r_Md_leads hV hq1) ?_
    refine g_istore (ls1 := [some (.ref 53), none, some (.int v2), some (.int v3), some (.int q1), some (.int q.2)]) (pc := 19) dX12_through_19 (by decide) rfl ?_
    refine g_iinc (v := q.2 + 1) (ls1 := [some (.ref 53), none, some (.int v2), some (.int v3), some (.int q1), some (.int (q.2 + 1))]) (pc := 21) dX12_through_21 rfl rfl (by decide) rfl ?_
    refine g_goto (tgt := 6) (pc := 24) dX12_through_24 (by decide) ?_
    cases h
    exact hK
set_option maxRecDepth 4000 in
theorem w_Md_through_L6 {V : Sm → Wd} (hV : VwT V) {l : Launch} {Γ : Gm} {rF : Option Value} {wF : Wd} {v2 : Int32} {v3 : Int32} {S : Sm} {k : Nat} {q : Int32 × Int32} {o : Int32} (h : lpN (Md_through_L6 v2 v3 S) k q = some o) (hP : ps_Md_through_L6 V l Γ rF wF v2 v3 S o) : hd_Md_through_L6 V l Γ rF wF v2 v3 S q := lpN_ind2 (hd_Md_through_L6 V l Γ rF wF v2 v3 S) (ps_Md_through_L6 V l Γ rF wF v2 v3 S) (fun s o h hK => t_Md_through_L6 hV h hK) k q o h hP
def Md_through (v1 : Int32) (v2 : Int32) (v3 : Int32) (S : Sm) : Option (Int32) := ((lpN (Md_through_L6 v2 v3 S) FU (v1, 0)).bind fun q3 => (some q3))
set_option maxRecDepth 4000 in
theorem r_Md_through {V : Sm → Wd} (hV : VwT V) {v1 : Int32} {v2 : Int32} {v3 : Int32} {S : Sm} {q : Int32} (h : Md_through v1 v2 v3 S = some q) : Runs 1 mX12_through [.ref 53, .int v1, .int v2, .int v3] (V S) (some (.int q)) (V S) 0 0 := by
  unfold Md_through at h
  refine Runs.of2 [some (.ref 53), some (.int v1), some (.int v2), some (.int v3), none, none] 2 rfl rfl (Nat.le_of_ble_eq_true rfl) (fun l Γ => ?_)
  refine g_iload_n (pc := 0) dX12_through_0 rfl ?_
  refine g_istore (ls1 := [some (.ref 53), some (.int v1), some (.int v2), some (.int v3), some (.int v1), none]) (pc := 1) dX12_through_1 (by decide) rfl ?_
  refine g_iconst (v := 0) (pc := 3) dX12_through_3 (by decide) ?_
  refine g_istore (ls1 := [some (.ref 53), some (.int v1), some (.int v2), some (.int v3), some (.int v1), some (.int 0)]) (pc := 4) dX12_through_4 (by decide) rfl ?_
  refine g_wk [true, false, true, true, true, true] rfl ?_
  obtain ⟨q3, hqq3, h⟩ := bnd h
  refine w_Md_through_L6 hV hqq3 ?_
  unfold ps_Md_through_L6
  show G _ _ _ _ _ _ _ _ _ _ _
  refine g_iload (pc := 27) dX12_through_27 rfl ?_
  cases h
  exact g_iret (pc := 29) dX12_through_29 rfl rfl (Nat.le_refl _) (Nat.le_refl _)
def Md_comes_37 (s0 : Int32) (S : Sm) : Option (Int32) := (some s0)
set_option maxRecDepth 4000 in
theorem t_Md_comes_37 {V : Sm → Wd} (hV : VwT V) {l : Launch} {Γ : Gm} {s0 : Int32} {S : Sm} {q : Int32} (h : Md_comes_37 s0 S = some q) : G mX12_comes l Γ (rmD 3 0 0) (mQ Γ (some (.int q)) (V S) 0 0) 0 0 37 [none, none, none, none] [.int s0] (V S) := by
  unfold Md_comes_37 at h
  cases h
  exact g_iret (pc := 37) dX12_comes_37 rfl rfl (Nat.le_refl _) (Nat.le_refl _)
def Md_comes_36 (S : Sm) : Option (Int32) := (Md_comes_37 ((-1)) S)
set_option maxRecDepth 4000 in
theorem t_Md_comes_36 {V : Sm → Wd} (hV : VwT V) {l : Launch} {Γ : Gm}  {S : Sm} {q : Int32} (h : Md_comes_36 S = some q) : G mX12_comes l Γ (rmD 3 0 0) (mQ Γ (some (.int q)) (V S) 0 0) 0 0 36 [none, none, none, none] [] (V S) := by
  unfold Md_comes_36 at h
  refine g_iconst (v := (-1)) (pc := 36) dX12_comes_36 (by decide) ?_
  exact t_Md_comes_37 hV h
def Md_comes (v1 : Int32) (v2 : Int32) (v3 : Int32) (S : Sm) : Option (Int32) := (if (Md_isMouth v1 S) = 0 then (Md_comes_36 S) else (if (Md_isLamp v2 S) = 0 then (Md_comes_36 S) else (if (Md_in v3 0 99) = 0 then (Md_comes_36 S) else ((Md_through v1 v2 v3 S).bind fun q1 => (Md_comes_37 q1 S)))))
set_option maxRecDepth 4000 in
theorem r_Md_comes {V : Sm → Wd} (hV : VwT V) {v1 : Int32} {v2 : Int32} {v3 : Int32} {S : Sm} {q : Int32} (h : Md_comes v1 v2 v3 S = some q) : Runs 3 mX12_comes [.ref 53, .int v1, .int v2, .int v3] (V S) (some (.int q)) (V S) 0 0 := by
  unfold Md_comes at h
  refine Runs.of2 [some (.ref 53), some (.int v1), some (.int v2), some (.int v3)] 0 rfl rfl (Nat.le_of_ble_eq_true rfl) (fun l Γ => ?_)
  refine g_aload_n (pc := 0) dX12_comes_0 rfl ?_
  refine g_iload_n (pc := 1) dX12_comes_1 rfl ?_
  refine v_callVi hV (Mc := mX12_isMouth) (v := Md_isMouth v1 S) (S1 := S) (As := [.int v1]) (rest := []) (q := (RX12, TX12, 58)) (pc := 2) dX12_comes_2 mK_X12_333 mf_X12_isMouth rfl k0_53 rfl rfl rfl (Nat.le_of_ble_eq_true rfl) ⟨Nat.le_of_ble_eq_true rfl, Nat.le_of_ble_eq_true rfl⟩ (r_Md_isMouth hV rfl) ?_
  refine g_if_eq (tgt := 36) (pc := 5) dX12_comes_5 (by decide) (fun c4 => ?_) (fun c4 => ?_)
  · rw [if_pos c4] at h
    refine g_wk [false, false, false, false] rfl ?_
    exact t_Md_comes_36 hV h
  · rw [if_neg c4] at h
    refine g_aload_n (pc := 8) dX12_comes_8 rfl ?_
    refine g_iload_n (pc := 9) dX12_comes_9 rfl ?_
    refine v_callVi hV (Mc := mX12_isLamp) (v := Md_isLamp v2 S) (S1 := S) (As := [.int v2]) (rest := []) (q := (RX12, TX12, 58)) (pc := 10) dX12_comes_10 mK_X12_336 mf_X12_isLamp rfl k0_53 rfl rfl rfl (Nat.le_of_ble_eq_true rfl) ⟨Nat.le_of_ble_eq_true rfl, Nat.le_of_ble_eq_true rfl⟩ (r_Md_isLamp hV rfl) ?_
    refine g_if_eq (tgt := 36) (pc := 13) dX12_comes_13 (by decide) (fun c3 => ?_) (fun c3 => ?_)
    · rw [if_pos c3] at h
      refine g_wk [false, false, false, false] rfl ?_
      exact t_Md_comes_36 hV h
    · rw [if_neg c3] at h
      refine g_iload_n (pc := 16) dX12_comes_16 rfl ?_
      refine g_iconst (v := 0) (pc := 17) dX12_comes_17 (by decide) ?_
      refine g_bipush (v := 99) (pc := 18) dX12_comes_18 (by decide) ?_
      refine v_callSi (Mc := mX12_in) (v := Md_in v3 0 99) (S1 := S) (As := [.int v3, .int 0, .int 99]) (rest := []) (pc := 20) dX12_comes_20 mK_X12_238 mf_X12_in rfl rfl (Nat.le_of_ble_eq_true rfl) ⟨Nat.le_of_ble_eq_true rfl, Nat.le_of_ble_eq_true rfl⟩ (r_Md_in hV rfl) ?_
      refine g_if_eq (tgt := 36) (pc := 23) dX12_comes_23 (by decide) (fun c2 => ?_) (fun c2 => ?_)
      · rw [if_pos c2] at h
        refine g_wk [false, false, false, false] rfl ?_
        exact t_Md_comes_36 hV h
      · rw [if_neg c2] at h
        refine g_aload_n (pc := 26) dX12_comes_26 rfl ?_
        refine g_iload_n (pc := 27) dX12_comes_27 rfl ?_
        refine g_iload_n (pc := 28) dX12_comes_28 rfl ?_
        refine g_iload_n (pc := 29) dX12_comes_29 rfl ?_
        obtain ⟨q1, hq1, h⟩ := bnd h
        refine v_callVi hV (Mc := mX12_through) (v := q1) (S1 := S) (As := [.int v1, .int v2, .int v3]) (rest := []) (q := (RX12, TX12, 58)) (pc := 30) dX12_comes_30 mK_X12_382 mf_X12_through rfl k0_53 rfl rfl rfl (Nat.le_of_ble_eq_true rfl) ⟨Nat.le_of_ble_eq_true rfl, Nat.le_of_ble_eq_true rfl⟩ (r_Md_through hV hq1) ?_
        refine g_goto (tgt := 37) (pc := 33) dX12_comes_33 (by decide) ?_
        refine g_wk [false, false, false, false] rfl ?_
        exact t_Md_comes_37 hV h
def Md_round_25 (S : Sm) : Option (Int32) := (some ((-1)))
set_option maxRecDepth 4000 in
theorem t_Md_round_25 {V : Sm → Wd} (hV : VwT V) {l : Launch} {Γ : Gm}  {S : Sm} {q : Int32} (h : Md_round_25 S = some q) : G mX12_round l Γ (rmD 3 0 0) (mQ Γ (some (.int q)) (V S) 0 0) 0 0 25 [none, none, none, none, none, none, none, none] [] (V S) := by
  unfold Md_round_25 at h
  refine g_iconst (v := (-1)) (pc := 25) dX12_round_25 (by decide) ?_
  cases h
  exact g_iret (pc := 26) dX12_round_26 rfl rfl (Nat.le_refl _) (Nat.le_refl _)
def hd_Md_round_L36 (V : Sm → Wd) (l : Launch) (Γ : Gm) (rF : Option Value) (wF : Wd) (v1 : Int32) (v2 : Int32) (v3 : Int32) (S : Sm) (q : Int32 × Int32 × Int32) : Prop := G mX12_round l Γ (rmD 3 0 0) (mQ Γ rF wF 0 0) 0 0 36 [some (.ref 53), some (.int v1), some (.int v2), some (.int v3), some (.int q.1), some (.int q.2.1), some (.int q.2.2), none] [] (V S)
def ps_Md_round_L36 (V : Sm → Wd) (l : Launch) (Γ : Gm) (rF : Option Value) (wF : Wd) (v1 : Int32) (v2 : Int32) (v3 : Int32) (S : Sm) (x : Int32 × Int32) : Prop := (fun (a : Int32 × Int32) => G mX12_round l Γ (rmD 3 0 0) (mQ Γ rF wF 0 0) 0 0 70 [some (.ref 53), some (.int v1), some (.int v2), some (.int v3), none, some (.int a.1), some (.int a.2), none] [] (V S)) x
def Md_round_L36 (v1 : Int32) (v2 : Int32) (v3 : Int32) (S : Sm) (q : Int32 × Int32 × Int32) : Option ((Int32 × Int32 × Int32) ⊕ (Int32 × Int32)) := (if (Md_has q.1 q.2.2) = 0 then ((Md_leads q.2.2 v2 S).bind fun q1 => (some (.inl (q.1 ||| (iShl 1 q.2.2), q.2.1 + 1, q1)))) else (some (.inr (q.2.1, q.2.2))))
set_option maxRecDepth 4000 in
theorem t_Md_round_L36 {V : Sm → Wd} (hV : VwT V) {l : Launch} {Γ : Gm} {rF : Option Value} {wF : Wd} {v1 : Int32} {v2 : Int32} {v3 : Int32} {S : Sm} {q : Int32 × Int32 × Int32} {o : (Int32 × Int32 × Int32) ⊕ (Int32 × Int32)} (h : Md_round_L36 v1 v2 v3 S q = some o) (hK : Sum.elim (hd_Md_round_L36 V l Γ rF wF v1 v2 v3 S) (ps_Md_round_L36 V l Γ rF wF v1 v2 v3 S) o) : hd_Md_round_L36 V l Γ rF wF v1 v2 v3 S q := by
  unfold Md_round_L36 at h
  unfold hd_Md_round_L36
  refine g_iload (pc := 36) dX12_round_36 rfl ?_
  refine g_iload (pc := 38) dX12_round_38 rfl ?_
  refine v_callSi (Mc := mX12_has) (v := Md_has q.1 q.2.2) (S1 := S) (As := [.int q.1, .int q.2.2]) (rest := []) (pc := 40) dX12_round_40 mK_X12_249 mf_X12_has rfl rfl (Nat.le_of_ble_eq_true rfl) ⟨Nat.le_of_ble_eq_true rfl, Nat.le_of_ble_eq_true rfl⟩ (r_Md_has hV rfl) ?_
  refine g_if_ne (tgt := 70) (pc := 43) dX12_round_43 (by decide) (fun c2 => ?_) (fun c2 => ?_)
  · rw [if_neg c2] at h
    refine g_wk [true, true, true, true, false, true, true, false] rfl ?_
    cases h
    exact hK
  · rw [if_pos c2] at h
    refine g_iload (pc := 46) dX12_round_46 rfl ?_
    refine g_iconst (v := 1) (pc := 48) dX12_round_48 (by decide) ?_
    refine g_iload (pc := 49) dX12_round_49 rfl ?_
    refine g_ishl (pc := 51) dX12_round_51 ?_
    refine g_ior (pc := 52) dX12_round_52 ?_
    refine g_istore (ls1 := [some (.ref 53), some (.int v1), some (.int v2), some (.int v3), some (.int (q.1 ||| (iShl 1 q.2.2))), some (.int q.2.1), some (.int q.2.2), none]) (pc := 53) dX12_round_53 (by decide) rfl ?_
    refine g_aload_n (pc := 55) dX12_round_55 rfl ?_
    refine g_iload (pc := 56) dX12_round_56 rfl ?_
    refine g_iload_n (pc := 58) dX12_round_58 rfl ?_
    obtain ⟨q1, hq1, h⟩ := bnd h
    refine v_callVi hV (Mc := mX12_leads) (v := q1) (S1 := S) (As := [.int q.2.2, .int v2]) (rest := []) (q := (RX12, TX12, 58)) (pc := 59) dX12_round_59 mK_X12_323 mf_X12_leads rfl k0_53 rfl rfl rfl (Nat.le_of_ble_eq_true rfl) ⟨Nat.le_of_ble_eq_true rfl, Nat.le_of_ble_eq_true rfl⟩ (r_Md_leads hV hq1) ?_
    refine g_istore (ls1 := [some (.ref 53), some (.int v1), some (.int v2), some (.int v3), some (.int (q.1 ||| (iShl 1 q.2.2))), some (.int q.2.1), some (.int q1), none]) (pc := 62) dX12_round_62 (by decide) rfl ?_
    refine g_iinc (v := q.2.1 + 1) (ls1 := [some (.ref 53), some (.int v1), some (.int v2), some (.int v3), some (.int (q.1 ||| (iShl 1 q.2.2))), some (.int (q.2.1 + 1)), some (.int q1), none]) (pc := 64) dX12_round_64 rfl rfl (by decide) rfl ?_
    refine g_goto (tgt := 36) (pc := 67) dX12_round_67 (by decide) ?_
    cases h
    exact hK
set_option maxRecDepth 4000 in
theorem w_Md_round_L36 {V : Sm → Wd} (hV : VwT V) {l : Launch} {Γ : Gm} {rF : Option Value} {wF : Wd} {v1 : Int32} {v2 : Int32} {v3 : Int32} {S : Sm} {k : Nat} {q : Int32 × Int32 × Int32} {o : Int32 × Int32} (h : lpN (Md_round_L36 v1 v2 v3 S) k q = some o) (hP : ps_Md_round_L36 V l Γ rF wF v1 v2 v3 S o) : hd_Md_round_L36 V l Γ rF wF v1 v2 v3 S q := lpN_ind2 (hd_Md_round_L36 V l Γ rF wF v1 v2 v3 S) (ps_Md_round_L36 V l Γ rF wF v1 v2 v3 S) (fun s o h hK => t_Md_round_L36 hV h hK) k q o h hP
def hd_Md_round_L73 (V : Sm → Wd) (l : Launch) (Γ : Gm) (rF : Option Value) (wF : Wd) (v1 : Int32) (v2 : Int32) (v3 : Int32) (v5 : Int32) (v6 : Int32) (S : Sm) (q : Int32) : Prop := G mX12_round l Γ (rmD 3 0 0) (mQ Γ rF wF 0 0) 0 0 73 [some (.ref 53), some (.int v1), some (.int v2), some (.int v3), none, some (.int v5), some (.int v6), some (.int q)] [] (V S)
def ps_Md_round_L73 (V : Sm → Wd) (l : Launch) (Γ : Gm) (rF : Option Value) (wF : Wd) (v1 : Int32) (v2 : Int32) (v3 : Int32) (v5 : Int32) (v6 : Int32) (S : Sm) (x : Int32) : Prop := (fun (a : Int32) => G mX12_round l Γ (rmD 3 0 0) (mQ Γ rF wF 0 0) 0 0 92 [none, none, none, some (.int v3), none, some (.int v5), none, some (.int a)] [] (V S)) x
def Md_round_L73 (v1 : Int32) (v2 : Int32) (v3 : Int32) (v5 : Int32) (v6 : Int32) (S : Sm) (q : Int32) : Option ((Int32) ⊕ (Int32)) := ((Md_through v1 v2 q S).bind fun q4 => (if q4 = v6 then (some (.inr q)) else (some (.inl (q + 1)))))
set_option maxRecDepth 4000 in
theorem t_Md_round_L73 {V : Sm → Wd} (hV : VwT V) {l : Launch} {Γ : Gm} {rF : Option Value} {wF : Wd} {v1 : Int32} {v2 : Int32} {v3 : Int32} {v5 : Int32} {v6 : Int32} {S : Sm} {q : Int32} {o : (Int32) ⊕ (Int32)} (h : Md_round_L73 v1 v2 v3 v5 v6 S q = some o) (hK : Sum.elim (hd_Md_round_L73 V l Γ rF wF v1 v2 v3 v5 v6 S) (ps_Md_round_L73 V l Γ rF wF v1 v2 v3 v5 v6 S) o) : hd_Md_round_L73 V l Γ rF wF v1 v2 v3 v5 v6 S q := by
  unfold Md_round_L73 at h
  unfold hd_Md_round_L73
  refine g_aload_n (pc := 73) dX12_round_73 rfl ?_
  refine g_iload_n (pc := 74) dX12_round_74 rfl ?_
  refine g_iload_n (pc := 75) dX12_round_75 rfl ?_
  refine g_iload (pc := 76) dX12_round_76 rfl ?_
  obtain ⟨q4, hq4, h⟩ := bnd h
  refine v_callVi hV (Mc := mX12_through) (v := q4) (S1 := S) (As := [.int v1, .int v2, .int q]) (rest := []) (q := (RX12, TX12, 58)) (pc := 78) dX12_round_78 mK_X12_382 mf_X12_through rfl k0_53 rfl rfl rfl (Nat.le_of_ble_eq_true rfl) ⟨Nat.le_of_ble_eq_true rfl, Nat.le_of_ble_eq_true rfl⟩ (r_Md_through hV hq4) ?_
  refine g_iload (pc := 81) dX12_round_81 rfl ?_
  refine g_icmp_eq (tgt := 92) (pc := 83) dX12_round_83 (by decide) (fun c5 => ?_) (fun c5 => ?_)
  · rw [if_pos c5] at h
    refine g_wk [false, false, false, true, false, true, false, true] rfl ?_
    cases h
    exact hK
  · rw [if_neg c5] at h
    refine g_iinc (v := q + 1) (ls1 := [some (.ref 53), some (.int v1), some (.int v2), some (.int v3), none, some (.int v5), some (.int v6), some (.int (q + 1))]) (pc := 86) dX12_round_86 rfl rfl (by decide) rfl ?_
    refine g_goto (tgt := 73) (pc := 89) dX12_round_89 (by decide) ?_
    cases h
    exact hK
set_option maxRecDepth 4000 in
theorem w_Md_round_L73 {V : Sm → Wd} (hV : VwT V) {l : Launch} {Γ : Gm} {rF : Option Value} {wF : Wd} {v1 : Int32} {v2 : Int32} {v3 : Int32} {v5 : Int32} {v6 : Int32} {S : Sm} {k : Nat} {q : Int32} {o : Int32} (h : lpN (Md_round_L73 v1 v2 v3 v5 v6 S) k q = some o) (hP : ps_Md_round_L73 V l Γ rF wF v1 v2 v3 v5 v6 S o) : hd_Md_round_L73 V l Γ rF wF v1 v2 v3 v5 v6 S q := lpN_ind2 (hd_Md_round_L73 V l Γ rF wF v1 v2 v3 v5 v6 S) (ps_Md_round_L73 V l Γ rF wF v1 v2 v3 v5 v6 S) (fun s o h hK => t_Md_round_L73 hV h hK) k q o h hP
def Md_round_106 (s0 : Int32) (S : Sm) : Option (Int32) := (some s0)
set_option maxRecDepth 4000 in
theorem t_Md_round_106 {V : Sm → Wd} (hV : VwT V) {l : Launch} {Γ : Gm} {s0 : Int32} {S : Sm} {q : Int32} (h : Md_round_106 s0 S = some q) : G mX12_round l Γ (rmD 3 0 0) (mQ Γ (some (.int q)) (V S) 0 0) 0 0 106 [none, none, none, none, none, none, none, none] [.int s0] (V S) := by
  unfold Md_round_106 at h
  cases h
  exact g_iret (pc := 106) dX12_round_106 rfl rfl (Nat.le_refl _) (Nat.le_refl _)
def Md_round (v1 : Int32) (v2 : Int32) (v3 : Int32) (S : Sm) : Option (Int32) := (if (Md_isMouth v1 S) = 0 then (Md_round_25 S) else (if (Md_isLamp v2 S) = 0 then (Md_round_25 S) else (if (Md_in v3 0 1) = 0 then (Md_round_25 S) else ((lpN (Md_round_L36 v1 v2 v3 S) FU (0, 0, v1)).bind fun q3 => ((lpN (Md_round_L73 v1 v2 v3 q3.1 q3.2 S) FU 0).bind fun q6 => (if v3 = 0 then (Md_round_106 q6 S) else (Md_round_106 (q3.1 - q6) S)))))))
set_option maxRecDepth 4000 in
theorem r_Md_round {V : Sm → Wd} (hV : VwT V) {v1 : Int32} {v2 : Int32} {v3 : Int32} {S : Sm} {q : Int32} (h : Md_round v1 v2 v3 S = some q) : Runs 3 mX12_round [.ref 53, .int v1, .int v2, .int v3] (V S) (some (.int q)) (V S) 0 0 := by
  unfold Md_round at h
  refine Runs.of2 [some (.ref 53), some (.int v1), some (.int v2), some (.int v3), none, none, none, none] 4 rfl rfl (Nat.le_of_ble_eq_true rfl) (fun l Γ => ?_)
  refine g_aload_n (pc := 0) dX12_round_0 rfl ?_
  refine g_iload_n (pc := 1) dX12_round_1 rfl ?_
  refine v_callVi hV (Mc := mX12_isMouth) (v := Md_isMouth v1 S) (S1 := S) (As := [.int v1]) (rest := []) (q := (RX12, TX12, 58)) (pc := 2) dX12_round_2 mK_X12_333 mf_X12_isMouth rfl k0_53 rfl rfl rfl (Nat.le_of_ble_eq_true rfl) ⟨Nat.le_of_ble_eq_true rfl, Nat.le_of_ble_eq_true rfl⟩ (r_Md_isMouth hV rfl) ?_
  refine g_if_eq (tgt := 25) (pc := 5) dX12_round_5 (by decide) (fun c10 => ?_) (fun c10 => ?_)
  · rw [if_pos c10] at h
    refine g_wk [false, false, false, false, false, false, false, false] rfl ?_
    exact t_Md_round_25 hV h
  · rw [if_neg c10] at h
    refine g_aload_n (pc := 8) dX12_round_8 rfl ?_
    refine g_iload_n (pc := 9) dX12_round_9 rfl ?_
    refine v_callVi hV (Mc := mX12_isLamp) (v := Md_isLamp v2 S) (S1 := S) (As := [.int v2]) (rest := []) (q := (RX12, TX12, 58)) (pc := 10) dX12_round_10 mK_X12_336 mf_X12_isLamp rfl k0_53 rfl rfl rfl (Nat.le_of_ble_eq_true rfl) ⟨Nat.le_of_ble_eq_true rfl, Nat.le_of_ble_eq_true rfl⟩ (r_Md_isLamp hV rfl) ?_
    refine g_if_eq (tgt := 25) (pc := 13) dX12_round_13 (by decide) (fun c9 => ?_) (fun c9 => ?_)
    · rw [if_pos c9] at h
      refine g_wk [false, false, false, false, false, false, false, false] rfl ?_
      exact t_Md_round_25 hV h
    · rw [if_neg c9] at h
      refine g_iload_n (pc := 16) dX12_round_16 rfl ?_
      refine g_iconst (v := 0) (pc := 17) dX12_round_17 (by decide) ?_
      refine g_iconst (v := 1) (pc := 18) dX12_round_18 (by decide) ?_
      refine v_callSi (Mc := mX12_in) (v := Md_in v3 0 1) (S1 := S) (As := [.int v3, .int 0, .int 1]) (rest := []) (pc := 19) dX12_round_19 mK_X12_238 mf_X12_in rfl rfl (Nat.le_of_ble_eq_true rfl) ⟨Nat.le_of_ble_eq_true rfl, Nat.le_of_ble_eq_true rfl⟩ (r_Md_in hV rfl) ?_
      refine g_if_ne (tgt := 27) (pc := 22) dX12_round_22 (by decide) (fun c8 => ?_) (fun c8 => ?_)
      · rw [if_neg c8] at h
        refine g_iconst (v := 0) (pc := 27) dX12_round_27 (by decide) ?_
        refine g_istore (ls1 := [some (.ref 53), some (.int v1), some (.int v2), some (.int v3), some (.int 0), none, none, none]) (pc := 28) dX12_round_28 (by decide) rfl ?_
        refine g_iconst (v := 0) (pc := 30) dX12_round_30 (by decide) ?_
        refine g_istore (ls1 := [some (.ref 53), some (.int v1), some (.int v2), some (.int v3), some (.int 0), some (.int 0), none, none]) (pc := 31) dX12_round_31 (by decide) rfl ?_
        refine g_iload_n (pc := 33) dX12_round_33 rfl ?_
        refine g_istore (ls1 := [some (.ref 53), some (.int v1), some (.int v2), some (.int v3), some (.int 0), some (.int 0), some (.int v1), none]) (pc := 34) dX12_round_34 (by decide) rfl ?_
        obtain ⟨q3, hqq3, h⟩ := bnd h
        refine w_Md_round_L36 hV hqq3 ?_
        unfold ps_Md_round_L36
        show G _ _ _ _ _ _ _ _ _ _ _
        refine g_iconst (v := 0) (pc := 70) dX12_round_70 (by decide) ?_
        refine g_istore (ls1 := [some (.ref 53), some (.int v1), some (.int v2), some (.int v3), none, some (.int q3.1), some (.int q3.2), some (.int 0)]) (pc := 71) dX12_round_71 (by decide) rfl ?_
        obtain ⟨q6, hqq6, h⟩ := bnd h
        refine w_Md_round_L73 hV hqq6 ?_
        unfold ps_Md_round_L73
        show G _ _ _ _ _ _ _ _ _ _ _
        refine g_iload_n (pc := 92) dX12_round_92 rfl ?_
        refine g_if_ne (tgt := 101) (pc := 93) dX12_round_93 (by decide) (fun c7 => ?_) (fun c7 => ?_)
        · rw [if_neg c7] at h
          refine g_iload (pc := 101) dX12_round_101 rfl ?_
          refine g_iload (pc := 103) dX12_round_103 rfl ?_
          refine g_isub (pc := 105) dX12_round_105 ?_
          refine g_wk [false, false, false, false, false, false, false, false] rfl ?_
          exact t_Md_round_106 hV h
        · rw [if_pos c7] at h
          refine g_iload (pc := 96) dX12_round_96 rfl ?_
          refine g_goto (tgt := 106) (pc := 98) dX12_round_98 (by decide) ?_
          refine g_wk [false, false, false, false, false, false, false, false] rfl ?_
          exact t_Md_round_106 hV h
      · rw [if_pos c8] at h
        refine g_wk [false, false, false, false, false, false, false, false] rfl ?_
        exact t_Md_round_25 hV h
def Md_everyColour (S : Sm) : Int32 := ((iShl 1 (gi S 68 1)) - 1)
set_option maxRecDepth 4000 in
theorem r_Md_everyColour {V : Sm → Wd} (hV : VwT V)  {S : Sm} {q : Int32} (h : Md_everyColour S = q) : Runs 0 mX12_everyColour [.ref 53] (V S) (some (.int q)) (V S) 0 0 := by
  unfold Md_everyColour at h
  refine Runs.of2 [some (.ref 53)] 0 rfl rfl (Nat.le_of_ble_eq_true rfl) (fun l Γ => ?_)
  refine g_iconst (v := 1) (pc := 0) dX12_everyColour_0 (by decide) ?_
  refine g_aload_n (pc := 1) dX12_everyColour_1 rfl ?_
  refine v_getR hV (pc := 2) dX12_everyColour_2 fo_12_24 rfl k0_53 r0_53_24 ?_
  refine g_iconst (v := 1) (pc := 5) dX12_everyColour_5 (by decide) ?_
  refine v_ialdK hV (k := 1) (pc := 6) dX12_everyColour_6 k0_68 own_68 (by decide) (by decide) ?_
  refine g_ishl (pc := 7) dX12_everyColour_7 ?_
  refine g_iconst (v := 1) (pc := 8) dX12_everyColour_8 (by decide) ?_
  refine g_isub (pc := 9) dX12_everyColour_9 ?_
  subst h
  exact g_iret (pc := 10) dX12_everyColour_10 rfl rfl (Nat.le_refl _) (Nat.le_refl _)
