/-! ===== the hours of go and of years, and undo ===== -/
def mcS (S q : Sm) : Nat := gNs q - gNs S
def msS (S q : Sm) : Nat := 172 * ((gNs q - gNs S) / 5)
theorem kc_cases (S : Sm) : (kcS S = 5 ∧ ksS S = 172) ∨ (kcS S = 0 ∧ ksS S = 0) := by
  unfold kcS ksS
  by_cases z : gi S 31 (ix (gi S 30 5)) = 0
  · exact Or.inl ⟨if_pos z, if_pos z⟩
  · exact Or.inr ⟨if_neg z, if_neg z⟩
theorem bc_31 {S : Sm} {a b : Nat} (ha : 91 ≤ a) : (bcS S a b).1 31 = S.1 31 := by
  unfold bcS
  dsimp only
  refine funext fun y => ?_
  show (if 31 = a ∧ y = 7 then _ else if 31 = a ∧ y = 6 then _ else if 31 = a ∧ y = 5 then _ else if 31 = a ∧ y = 4 then _ else if 31 = a + 4 ∧ y < 60 then _ else if 31 = a + 3 ∧ y < 8 then _ else if 31 = a + 2 ∧ y < 40 then _ else if 31 = a + 1 ∧ y < 56 then _ else S.1 31 y) = S.1 31 y
  rw [if_neg (by omega), if_neg (by omega), if_neg (by omega), if_neg (by omega), if_neg (by omega), if_neg (by omega), if_neg (by omega), if_neg (by omega)]
/-- what keep leaves in the row of made cells -/
theorem keep_31 {S q : Sm} (h : Ac_keep S = some q) : RingOK S ∧ ix (gi S 30 5) < 40 ∧ q.1 31 = (if gi S 31 (ix (gi S 30 5)) = 0 then alS S (ix (gi S 30 5)) else S).1 31 := by
  unfold Ac_keep at h
  by_cases hc : RingOK S ∧ inb (gi S 30 5) 40
  rotate_left
  · rw [if_neg hc] at h; cases h
  rw [if_pos hc] at h
  cases h
  obtain ⟨hR, hin⟩ := hc
  have hj : ix (gi S 30 5) < 40 := Nat.not_le.mp fun q => hin (Or.inr q)
  refine ⟨hR, hj, ?_⟩
  obtain ⟨hn, hb, hring⟩ := hR
  unfold kpS
  dsimp only
  generalize hS0 : (if gi S 31 (ix (gi S 30 5)) = 0 then alS S (ix (gi S 30 5)) else S) = S0
  have hx : 91 ≤ ix (gi S0 31 (ix (gi S 30 5))) := by
    by_cases z : gi S 31 (ix (gi S 30 5)) = 0
    · rw [if_pos z] at hS0
      subst hS0
      show 91 ≤ ix ((alS S (ix (gi S 30 5))).1 31 (ix (gi S 30 5)))
      rw [al_31 hn, if_pos rfl, show ix (nI (gNs S)) = gNs S from nI_clamp (by omega)]
      exact hn
    · rw [if_neg z] at hS0
      subst hS0
      exact (hring _ hj z).1
  exact bc_31 hx
theorem keep_N {S q : Sm} (h : Ac_keep S = some q) : gNs q = gNs S + kcS S := by
  obtain ⟨⟨hn, hb, -⟩, hj, e⟩ := keep_31 h
  show ix (q.1 31 40) = _
  rw [e]
  unfold kcS
  by_cases z : gi S 31 (ix (gi S 30 5)) = 0
  · rw [if_pos z, if_pos z, al_31 hn, if_neg (by omega), if_pos rfl]
    exact nI_clamp (by omega)
  · rw [if_neg z, if_neg z]; rfl
theorem ph_N {v1 v2 : Int32} {S q : Sm} (h : Hr_passHour v1 v2 S = some q) : gNs q = gNs S + kcS S := by
  unfold Hr_passHour at h
  obtain ⟨k1, hk1, h⟩ := bnd h
  obtain ⟨k2, -, hq⟩ := map_of h
  subst hq
  exact (show gNs (f31 (k1.1 31) k2) = gNs k1 from rfl).trans (keep_N hk1)
theorem draw_fst {v : Int32} {S : Sm} {d : Int32 × Sm} (h : Hr_draw v S = some d) : d.2.1 = S.1 := by
  unfold Hr_draw Hr_draw_35 at h
  by_cases c : v ≤ 0
  · rw [if_pos c] at h; cases h; rfl
  · rw [if_neg c] at h
    by_cases c2 : Int32.toInt64 v = (0 : Int64)
    · rw [if_pos c2] at h; cases h
    · rw [if_neg c2] at h; cases h; rfl
noncomputable section HY
def Hr_hand_L2 (v1 : Int32) (q : Int32 × Sm) : Option ((Int32 × Sm) ⊕ Sm) := if v1 ≤ q.1 then some (.inr q.2) else (Hr_passHour 0 0 q.2).bind fun s => some (.inl (q.1 + 1, s))
def Hr_passByHand (v1 : Int32) (S : Sm) : Option (Int32 × Sm) := (lpN (Hr_hand_L2 v1) FU (0, S)).bind fun s => some (Mo_hour s, s)
def dawnOf (S : Sm) : Int32 := if iRem (Mo_hour S) 24 = 6 then 1 else 0
def fogOf (v : Int32) (S : Sm) : Int32 := if gi S 40 5 ≤ v then 0 else 1
def Hr_draws_L8 (v1 : Int32) (q : Int32 × Sm) : Option ((Int32 × Sm) ⊕ Sm) := if v1 ≤ q.1 then some (.inr q.2) else (Hr_draw 100 q.2).bind fun d => (Hr_passHour (fogOf d.1 d.2) (dawnOf d.2) d.2).bind fun s => some (.inl (q.1 + 1, s))
def Hr_passByDraws (v1 : Int32) (v2 : Int64) (S : Sm) : Option (Int32 × Sm) := (lpN (Hr_draws_L8 v1) FU (0, sl S 40 6 v2)).bind fun s => some (Mo_hour s, s)
def Dk_go (v1 : Int32) (S : Sm) : Option (Int32 × Sm) := if Hr_canPass v1 S = 0 then some (-1, S) else Hr_passByHand v1 S
def Dk_years (v1 : Int32) (v2 : Int64) (S : Sm) : Option (Int32 × Sm) := if Hr_canPass v1 S = 0 then some (-1, S) else Hr_passByDraws v1 v2 S
def Dk_undo (S : Sm) : Option (Int32 × Sm) := Ac_takeBack S
end HY
set_option maxRecDepth 4000 in
theorem r_Hr_passByHand {L : Sc} {T : Sm} {v1 : Int32} {S : Sm} {q : Int32 × Sm} (h : Hr_passByHand v1 S = some q) : Runs 6 mX1_passByHand [.ref 40, .int v1] (cw L T S) (some (.int q.1)) (cw L T q.2) (mcS S q.2) (msS S q.2) := by
  unfold Hr_passByHand at h
  obtain ⟨sF, hl, h⟩ := bnd h
  cases h
  have key : ∀ (l : Launch) (Γ : Gm), gNs S ≤ gNs sF ∧ (gNs S ≤ gNs S → G mX1_passByHand l Γ (rmD 6 (mcS S sF) (msS S sF)) (mQ Γ (some (.int (Mo_hour sF))) (cw L T sF) (mcS S sF) (msS S sF)) (gNs S - gNs S) (172 * ((gNs S - gNs S) / 5)) 2 [some (.ref 40), some (.int v1), some (.int 0)] [] (cw L T S)) := fun l Γ =>
    lpN_ind2 (f := Hr_hand_L2 v1) (fun q => gNs q.2 ≤ gNs sF ∧ (gNs S ≤ gNs q.2 → G mX1_passByHand l Γ (rmD 6 (mcS S sF) (msS S sF)) (mQ Γ (some (.int (Mo_hour sF))) (cw L T sF) (mcS S sF) (msS S sF)) (gNs q.2 - gNs S) (172 * ((gNs q.2 - gNs S) / 5)) 2 [some (.ref 40), some (.int v1), some (.int q.1)] [] (cw L T q.2)))
      (fun s => gNs s ≤ gNs sF ∧ (gNs S ≤ gNs s → G mX1_passByHand l Γ (rmD 6 (mcS S sF) (msS S sF)) (mQ Γ (some (.int (Mo_hour sF))) (cw L T sF) (mcS S sF) (msS S sF)) (gNs s - gNs S) (172 * ((gNs s - gNs S) / 5)) 19 [some (.ref 40), none, none] [] (cw L T s)))
      (fun q o hq hK => by
        unfold Hr_hand_L2 at hq
        by_cases c : v1 ≤ q.1
        · rw [if_pos c] at hq
          cases hq
          refine ⟨hK.1, fun hN => ?_⟩
          refine g_iload_n (pc := 2) dX1_passByHand_2 rfl ?_
          refine g_iload_n (pc := 3) dX1_passByHand_3 rfl ?_
          refine g_icmp_ge (tgt := 19) (pc := 4) dX1_passByHand_4 (by decide) (fun _ => ?_) (fun c' => absurd c c')
          refine g_wk [true, false, false] rfl ?_
          exact hK.2 hN
        · rw [if_neg c] at hq
          obtain ⟨s, hs, hq⟩ := bnd hq
          cases hq
          have hn := ph_N hs
          have hk := kc_cases q.2
          obtain ⟨hK1, hK2⟩ := hK
          replace hK1 : gNs s ≤ gNs sF := hK1
          refine ⟨by omega, fun hN => ?_⟩
          replace hK2 := hK2 (by show gNs S ≤ gNs s; omega)
          refine g_iload_n (pc := 2) dX1_passByHand_2 rfl ?_
          refine g_iload_n (pc := 3) dX1_passByHand_3 rfl ?_
          refine g_icmp_ge (tgt := 19) (pc := 4) dX1_passByHand_4 (by decide) (fun c' => absurd c' c) (fun _ => ?_)
          refine g_aload_n (pc := 7) dX1_passByHand_7 rfl ?_
          refine g_iconst (v := 0) (pc := 8) dX1_passByHand_8 (by decide) ?_
          refine g_iconst (v := 0) (pc := 9) dX1_passByHand_9 (by decide) ?_
          refine g_callV (Mc := mX1_passHour) (As := [.int 0, .int 0]) (rest := []) (b := 40) (q := (RX1, TX1, 7)) (pc := 10) dX1_passByHand_10 mK_X1_62 mf_X1_passHour.1 mf_X1_passHour.2.1 mf_X1_passHour.2.2 rfl rfl rfl rfl rfl (Nat.le_of_ble_eq_true rfl) ⟨Nat.le_of_ble_eq_true rfl, Nat.le_of_ble_eq_true rfl⟩ ⟨by show _ ≤ gNs sF - gNs S; omega, by show _ ≤ 172 * ((gNs sF - gNs S) / 5); omega⟩ (r_Hr_passHour hs) ?_
          rw [show gNs q.2 - gNs S + kcS q.2 = gNs s - gNs S by omega, show 172 * ((gNs q.2 - gNs S) / 5) + ksS q.2 = 172 * ((gNs s - gNs S) / 5) by omega]
          show G _ _ _ _ _ _ _ _ _ [] _
          refine g_iinc (v := q.1 + 1) (ls1 := [some (.ref 40), some (.int v1), some (.int (q.1 + 1))]) (pc := 13) dX1_passByHand_13 rfl rfl (by decide) rfl ?_
          exact g_goto (tgt := 2) (pc := 16) dX1_passByHand_16 (by decide) hK2) FU (0, S) sF hl
      ⟨Nat.le_refl _, fun hN => by
        refine g_aload_n (pc := 19) dX1_passByHand_19 rfl ?_
        refine v_getR (cw_ok L T) (pc := 20) dX1_passByHand_20 fo_1_1 rfl k0_40 r0_40_1 ?_
        refine k_callVi (cw_ok L T) (Mc := mX4_hour) (v := Mo_hour sF) (S1 := sF) (As := []) (rest := []) (q := (RX4, TX4, 8)) (pc := 23) dX1_passByHand_23 mK_X1_39 mf_X4_hour rfl k0_25 rfl rfl rfl (Nat.le_of_ble_eq_true rfl) ⟨Nat.le_of_ble_eq_true rfl, Nat.le_of_ble_eq_true rfl⟩ (r_Mo_hour (cw_ok L T) rfl) ?_
        exact g_iret (pc := 26) dX1_passByHand_26 rfl rfl (Nat.le_refl _) (Nat.le_refl _)⟩
  refine Runs.of2 [some (.ref 40), some (.int v1), none] 1 rfl rfl (Nat.le_of_ble_eq_true rfl) (fun l Γ => ?_)
  refine g_iconst (v := 0) (pc := 0) dX1_passByHand_0 (by decide) ?_
  refine g_istore_n (ls1 := [some (.ref 40), some (.int v1), some (.int 0)]) (pc := 1) dX1_passByHand_1 (by decide) rfl ?_
  have k2 := (key l Γ).2 (Nat.le_refl _)
  rw [Nat.sub_self] at k2
  exact k2
theorem passByHand_N {v1 : Int32} {S : Sm} {q : Int32 × Sm} (h : Hr_passByHand v1 S = some q) : gNs S ≤ gNs q.2 := by
  unfold Hr_passByHand at h
  obtain ⟨sF, hl, h⟩ := bnd h
  cases h
  refine lpN_ind2 (f := Hr_hand_L2 v1) (fun q => gNs q.2 ≤ gNs sF) (fun s => gNs s ≤ gNs sF) (fun q o hq hK => ?_) FU (0, S) sF hl (Nat.le_refl _)
  unfold Hr_hand_L2 at hq
  by_cases c : v1 ≤ q.1
  · rw [if_pos c] at hq
    cases hq
    exact hK
  · rw [if_neg c] at hq
    obtain ⟨s, hs, hq⟩ := bnd hq
    cases hq
    have hn := ph_N hs
    have hK1 : gNs s ≤ gNs sF := hK
    show gNs q.2 ≤ gNs sF
    omega
theorem passByDraws_N {v1 : Int32} {v2 : Int64} {S : Sm} {q : Int32 × Sm} (h : Hr_passByDraws v1 v2 S = some q) : gNs S ≤ gNs q.2 := by
  unfold Hr_passByDraws at h
  obtain ⟨sF, hl, h⟩ := bnd h
  cases h
  refine lpN_ind2 (f := Hr_draws_L8 v1) (fun q => gNs q.2 ≤ gNs sF) (fun s => gNs s ≤ gNs sF) (fun q o hq hK => ?_) FU (0, sl S 40 6 v2) sF hl (Nat.le_refl _)
  unfold Hr_draws_L8 at hq
  by_cases c : v1 ≤ q.1
  · rw [if_pos c] at hq
    cases hq
    exact hK
  · rw [if_neg c] at hq
    obtain ⟨d, hd, hq⟩ := bnd hq
    obtain ⟨s, hs, hq⟩ := bnd hq
    cases hq
    have hn := ph_N hs
    have hdn : gNs d.2 = gNs q.2 := by unfold gNs gi; rw [draw_fst hd]
    have hK1 : gNs s ≤ gNs sF := hK
    show gNs q.2 ≤ gNs sF
    omega
set_option maxRecDepth 4000 in
theorem r_Hr_passByDraws {L : Sc} {T : Sm} {v1 : Int32} {v2 : Int64} {S : Sm} {q : Int32 × Sm} (h : Hr_passByDraws v1 v2 S = some q) : Runs 6 mX1_passByDraws [.ref 40, .int v1, .long v2] (cw L T S) (some (.int q.1)) (cw L T q.2) (mcS S q.2) (msS S q.2) := by
  have hV := cw_ok L T
  unfold Hr_passByDraws at h
  obtain ⟨sF, hl, h⟩ := bnd h
  cases h
  have key : ∀ (l : Launch) (Γ : Gm), gNs S ≤ gNs sF ∧ (gNs S ≤ gNs S → G mX1_passByDraws l Γ (rmD 6 (mcS S sF) (msS S sF)) (mQ Γ (some (.int (Mo_hour sF))) (cw L T sF) (mcS S sF) (msS S sF)) (gNs S - gNs S) (172 * ((gNs S - gNs S) / 5)) 8 [some (.ref 40), some (.int v1), none, none, some (.int 0), none] [] (cw L T (sl S 40 6 v2))) := fun l Γ =>
    lpN_ind2 (f := Hr_draws_L8 v1) (fun q => gNs q.2 ≤ gNs sF ∧ (gNs S ≤ gNs q.2 → G mX1_passByDraws l Γ (rmD 6 (mcS S sF) (msS S sF)) (mQ Γ (some (.int (Mo_hour sF))) (cw L T sF) (mcS S sF) (msS S sF)) (gNs q.2 - gNs S) (172 * ((gNs q.2 - gNs S) / 5)) 8 [some (.ref 40), some (.int v1), none, none, some (.int q.1), none] [] (cw L T q.2)))
      (fun s => gNs s ≤ gNs sF ∧ (gNs S ≤ gNs s → G mX1_passByDraws l Γ (rmD 6 (mcS S sF) (msS S sF)) (mQ Γ (some (.int (Mo_hour sF))) (cw L T sF) (mcS S sF) (msS S sF)) (gNs s - gNs S) (172 * ((gNs s - gNs S) / 5)) 66 [some (.ref 40), none, none, none, none, none] [] (cw L T s)))
      (fun q o hq hK => by
        unfold Hr_draws_L8 at hq
        by_cases c : v1 ≤ q.1
        · rw [if_pos c] at hq
          cases hq
          refine ⟨hK.1, fun hN => ?_⟩
          refine g_iload (pc := 8) dX1_passByDraws_8 rfl ?_
          refine g_iload_n (pc := 10) dX1_passByDraws_10 rfl ?_
          refine g_icmp_ge (tgt := 66) (pc := 11) dX1_passByDraws_11 (by decide) (fun _ => ?_) (fun c' => absurd c c')
          refine g_wk [true, false, false, false, false, false] rfl ?_
          exact hK.2 hN
        · rw [if_neg c] at hq
          obtain ⟨d, hd, hq⟩ := bnd hq
          obtain ⟨s, hs, hq⟩ := bnd hq
          cases hq
          have hn := ph_N hs
          have hdn : gNs d.2 = gNs q.2 := by unfold gNs gi; rw [draw_fst hd]
          have hk := kc_cases d.2
          obtain ⟨hK1, hK2⟩ := hK
          replace hK1 : gNs s ≤ gNs sF := hK1
          refine ⟨by omega, fun hN => ?_⟩
          replace hK2 := hK2 (by show gNs S ≤ gNs s; omega)
          refine g_iload (pc := 8) dX1_passByDraws_8 rfl ?_
          refine g_iload_n (pc := 10) dX1_passByDraws_10 rfl ?_
          refine g_icmp_ge (tgt := 66) (pc := 11) dX1_passByDraws_11 (by decide) (fun c' => absurd c' c) (fun _ => ?_)
          refine g_aload_n (pc := 14) dX1_passByDraws_14 rfl ?_
          refine g_bipush (v := 100) (pc := 15) dX1_passByDraws_15 (by decide) ?_
          refine k_callVi hV (Mc := mX1_draw) (v := d.1) (S1 := d.2) (As := [.int 100]) (rest := []) (q := (RX1, TX1, 7)) (pc := 17) dX1_passByDraws_17 mK_X1_66 mf_X1_draw rfl k0_40 rfl rfl rfl (Nat.le_of_ble_eq_true rfl) ⟨Nat.le_of_ble_eq_true rfl, Nat.le_of_ble_eq_true rfl⟩ (r_Hr_draw hV hd) ?_ ⟨by show _ ≤ gNs sF - gNs S; omega, by show _ ≤ 172 * ((gNs sF - gNs S) / 5); omega⟩
          refine g_aload_n (pc := 20) dX1_passByDraws_20 rfl ?_
          refine v_getI hV (pc := 21) dX1_passByDraws_21 fo_1_5 rfl k0_40 own_40 ?_
          have t57 : ∀ (fo da : Int32) (x5 : Option Value), fo = fogOf d.1 d.2 → da = dawnOf d.2 → G mX1_passByDraws l Γ (rmD 6 (mcS S sF) (msS S sF)) (mQ Γ (some (.int (Mo_hour sF))) (cw L T sF) (mcS S sF) (msS S sF)) (gNs q.2 - gNs S) (172 * ((gNs q.2 - gNs S) / 5)) 57 [some (.ref 40), some (.int v1), none, none, some (.int q.1), x5] [.int da, .int fo, .ref 40] (cw L T d.2) := by
            intro fo da x5 e1 e2
            subst e1 e2
            refine g_callV (Mc := mX1_passHour) (As := [.int (fogOf d.1 d.2), .int (dawnOf d.2)]) (rest := []) (b := 40) (q := (RX1, TX1, 7)) (pc := 57) dX1_passByDraws_57 mK_X1_62 mf_X1_passHour.1 mf_X1_passHour.2.1 mf_X1_passHour.2.2 rfl rfl rfl rfl rfl (Nat.le_of_ble_eq_true rfl) ⟨Nat.le_of_ble_eq_true rfl, Nat.le_of_ble_eq_true rfl⟩ ⟨by show _ ≤ gNs sF - gNs S; omega, by show _ ≤ 172 * ((gNs sF - gNs S) / 5); omega⟩ (r_Hr_passHour hs) ?_
            rw [show gNs q.2 - gNs S + kcS d.2 = gNs s - gNs S by omega, show 172 * ((gNs q.2 - gNs S) / 5) + ksS d.2 = 172 * ((gNs s - gNs S) / 5) by omega]
            show G _ _ _ _ _ _ _ _ _ [] _
            refine g_wk [true, true, false, false, true, false] rfl ?_
            refine g_iinc (v := q.1 + 1) (ls1 := [some (.ref 40), some (.int v1), none, none, some (.int (q.1 + 1)), none]) (pc := 60) dX1_passByDraws_60 rfl rfl (by decide) rfl ?_
            exact g_goto (tgt := 8) (pc := 63) dX1_passByDraws_63 (by decide) hK2
          have t32 : ∀ fo : Int32, fo = fogOf d.1 d.2 → G mX1_passByDraws l Γ (rmD 6 (mcS S sF) (msS S sF)) (mQ Γ (some (.int (Mo_hour sF))) (cw L T sF) (mcS S sF) (msS S sF)) (gNs q.2 - gNs S) (172 * ((gNs q.2 - gNs S) / 5)) 32 [some (.ref 40), some (.int v1), none, none, some (.int q.1), none] [.int fo] (cw L T d.2) := by
            intro fo e1
            refine g_istore (ls1 := [some (.ref 40), some (.int v1), none, none, some (.int q.1), some (.int fo)]) (pc := 32) dX1_passByDraws_32 (by decide) rfl ?_
            refine g_aload_n (pc := 34) dX1_passByDraws_34 rfl ?_
            refine g_iload (pc := 35) dX1_passByDraws_35 rfl ?_
            refine g_aload_n (pc := 37) dX1_passByDraws_37 rfl ?_
            refine v_getR hV (pc := 38) dX1_passByDraws_38 fo_1_1 rfl k0_40 r0_40_1 ?_
            refine k_callVi hV (Mc := mX4_hour) (v := Mo_hour d.2) (S1 := d.2) (As := []) (rest := [.int fo, .ref 40]) (q := (RX4, TX4, 8)) (pc := 41) dX1_passByDraws_41 mK_X1_39 mf_X4_hour rfl k0_25 rfl rfl rfl (Nat.le_of_ble_eq_true rfl) ⟨Nat.le_of_ble_eq_true rfl, Nat.le_of_ble_eq_true rfl⟩ (r_Mo_hour hV rfl) ?_ ⟨by show _ ≤ gNs sF - gNs S; omega, by show _ ≤ 172 * ((gNs sF - gNs S) / 5); omega⟩
            refine g_bipush (v := 24) (pc := 44) dX1_passByDraws_44 (by decide) ?_
            refine g_irem (pc := 46) dX1_passByDraws_46 (by decide) ?_
            refine g_bipush (v := 6) (pc := 47) dX1_passByDraws_47 (by decide) ?_
            refine g_icmp_ne (tgt := 56) (pc := 49) dX1_passByDraws_49 (by decide) (fun c2 => ?_) (fun c2 => ?_)
            · refine g_iconst (v := 0) (pc := 56) dX1_passByDraws_56 (by decide) ?_
              exact t57 fo 0 _ e1 (by unfold dawnOf; rw [if_neg c2])
            · refine g_iconst (v := 1) (pc := 52) dX1_passByDraws_52 (by decide) ?_
              refine g_goto (tgt := 57) (pc := 53) dX1_passByDraws_53 (by decide) ?_
              exact t57 fo 1 _ e1 (by unfold dawnOf; rw [if_pos c2])
          refine g_icmp_ge (tgt := 31) (pc := 24) dX1_passByDraws_24 (by decide) (fun c2 => ?_) (fun c2 => ?_)
          · refine g_iconst (v := 0) (pc := 31) dX1_passByDraws_31 (by decide) ?_
            exact t32 0 (by unfold fogOf; rw [if_pos c2])
          · refine g_iconst (v := 1) (pc := 27) dX1_passByDraws_27 (by decide) ?_
            refine g_goto (tgt := 32) (pc := 28) dX1_passByDraws_28 (by decide) ?_
            exact t32 1 (by unfold fogOf; rw [if_neg c2])) FU (0, sl S 40 6 v2) sF hl
      ⟨Nat.le_refl _, fun hN => by
        refine g_aload_n (pc := 66) dX1_passByDraws_66 rfl ?_
        refine v_getR hV (pc := 67) dX1_passByDraws_67 fo_1_1 rfl k0_40 r0_40_1 ?_
        refine k_callVi hV (Mc := mX4_hour) (v := Mo_hour sF) (S1 := sF) (As := []) (rest := []) (q := (RX4, TX4, 8)) (pc := 70) dX1_passByDraws_70 mK_X1_39 mf_X4_hour rfl k0_25 rfl rfl rfl (Nat.le_of_ble_eq_true rfl) ⟨Nat.le_of_ble_eq_true rfl, Nat.le_of_ble_eq_true rfl⟩ (r_Mo_hour hV rfl) ?_
        exact g_iret (pc := 73) dX1_passByDraws_73 rfl rfl (Nat.le_refl _) (Nat.le_refl _)⟩
  refine Runs.of2 [some (.ref 40), some (.int v1), some (.long v2), none, none, none] 2 rfl rfl (Nat.le_of_ble_eq_true rfl) (fun l Γ => ?_)
  refine g_aload_n (pc := 0) dX1_passByDraws_0 rfl ?_
  refine g_lload_n (pc := 1) dX1_passByDraws_1 rfl ?_
  refine v_putL hV (pc := 2) dX1_passByDraws_2 fo_1_6 rfl k0_40 own_40 rfl ?_
  refine g_iconst (v := 0) (pc := 5) dX1_passByDraws_5 (by decide) ?_
  refine g_istore (ls1 := [some (.ref 40), some (.int v1), some (.long v2), none, some (.int 0), none]) (pc := 6) dX1_passByDraws_6 (by decide) rfl ?_
  refine g_wk [true, true, false, false, true, false] rfl ?_
  have k2 := (key l Γ).2 (Nat.le_refl _)
  rw [Nat.sub_self] at k2
  exact k2
set_option maxRecDepth 4000 in
theorem r_Dk_go {L : Sc} {T : Sm} {v1 : Int32} {S : Sm} {q : Int32 × Sm} (h : Dk_go v1 S = some q) : Runs 7 mX11_go [.ref 7, .int v1] (cw L T S) (some (.int q.1)) (cw L T q.2) (mcS S q.2) (msS S q.2) := by
  have hV := cw_ok L T
  unfold Dk_go at h
  refine Runs.of2 [some (.ref 7), some (.int v1)] 0 rfl rfl (Nat.le_of_ble_eq_true rfl) (fun l Γ => ?_)
  refine g_aload_n (pc := 0) dX11_go_0 rfl ?_
  refine v_getR hV (pc := 1) dX11_go_1 fo_11_9 rfl k0_7 r0_7_9 ?_
  refine g_iload_n (pc := 4) dX11_go_4 rfl ?_
  refine v_callVi hV (Mc := mX1_canPass) (v := Hr_canPass v1 S) (S1 := S) (As := [.int v1]) (rest := []) (q := (RX1, TX1, 7)) (pc := 5) dX11_go_5 mK_X11_207 mf_X1_canPass rfl k0_40 rfl rfl rfl (Nat.le_of_ble_eq_true rfl) ⟨Nat.le_of_ble_eq_true rfl, Nat.le_of_ble_eq_true rfl⟩ (r_Hr_canPass hV rfl) ?_
  refine g_if_eq (tgt := 22) (pc := 8) dX11_go_8 (by decide) (fun c => ?_) (fun c => ?_)
  · rw [if_pos c] at h
    cases h
    refine g_iconst (v := -1) (pc := 22) dX11_go_22 (by decide) ?_
    exact g_iret (pc := 23) dX11_go_23 rfl rfl (Nat.zero_le _) (Nat.zero_le _)
  · rw [if_neg c] at h
    refine g_aload_n (pc := 11) dX11_go_11 rfl ?_
    refine v_getR hV (pc := 12) dX11_go_12 fo_11_9 rfl k0_7 r0_7_9 ?_
    refine g_iload_n (pc := 15) dX11_go_15 rfl ?_
    refine g_callV (Mc := mX1_passByHand) (As := [.int v1]) (rest := []) (b := 40) (q := (RX1, TX1, 7)) (pc := 16) dX11_go_16 mK_X11_210 mf_X1_passByHand.1 mf_X1_passByHand.2.1 mf_X1_passByHand.2.2 rfl rfl rfl rfl rfl (Nat.le_of_ble_eq_true rfl) ⟨Nat.le_of_ble_eq_true rfl, Nat.le_of_ble_eq_true rfl⟩ ⟨by rw [Nat.zero_add]; exact Nat.le_refl _, by rw [Nat.zero_add]; exact Nat.le_refl _⟩ (r_Hr_passByHand h) ?_
    rw [Nat.zero_add, Nat.zero_add]
    show G _ _ _ _ _ _ _ _ _ [.int q.1] _
    refine g_goto (tgt := 23) (pc := 19) dX11_go_19 (by decide) ?_
    exact g_iret (pc := 23) dX11_go_23 rfl rfl (Nat.le_refl _) (Nat.le_refl _)
set_option maxRecDepth 4000 in
theorem r_Dk_years {L : Sc} {T : Sm} {v1 : Int32} {v2 : Int64} {S : Sm} {q : Int32 × Sm} (h : Dk_years v1 v2 S = some q) : Runs 7 mX11_years [.ref 7, .int v1, .long v2] (cw L T S) (some (.int q.1)) (cw L T q.2) (mcS S q.2) (msS S q.2) := by
  have hV := cw_ok L T
  unfold Dk_years at h
  refine Runs.of2 [some (.ref 7), some (.int v1), some (.long v2), none] 0 rfl rfl (Nat.le_of_ble_eq_true rfl) (fun l Γ => ?_)
  refine g_aload_n (pc := 0) dX11_years_0 rfl ?_
  refine v_getR hV (pc := 1) dX11_years_1 fo_11_9 rfl k0_7 r0_7_9 ?_
  refine g_iload_n (pc := 4) dX11_years_4 rfl ?_
  refine v_callVi hV (Mc := mX1_canPass) (v := Hr_canPass v1 S) (S1 := S) (As := [.int v1]) (rest := []) (q := (RX1, TX1, 7)) (pc := 5) dX11_years_5 mK_X11_207 mf_X1_canPass rfl k0_40 rfl rfl rfl (Nat.le_of_ble_eq_true rfl) ⟨Nat.le_of_ble_eq_true rfl, Nat.le_of_ble_eq_true rfl⟩ (r_Hr_canPass hV rfl) ?_
  refine g_if_eq (tgt := 23) (pc := 8) dX11_years_8 (by decide) (fun c => ?_) (fun c => ?_)
  · rw [if_pos c] at h
    cases h
    refine g_iconst (v := -1) (pc := 23) dX11_years_23 (by decide) ?_
    exact g_iret (pc := 24) dX11_years_24 rfl rfl (Nat.zero_le _) (Nat.zero_le _)
  · rw [if_neg c] at h
    refine g_aload_n (pc := 11) dX11_years_11 rfl ?_
    refine v_getR hV (pc := 12) dX11_years_12 fo_11_9 rfl k0_7 r0_7_9 ?_
    refine g_iload_n (pc := 15) dX11_years_15 rfl ?_
    refine g_lload_n (pc := 16) dX11_years_16 rfl ?_
    refine g_callV (Mc := mX1_passByDraws) (As := [.int v1, .long v2]) (rest := []) (b := 40) (q := (RX1, TX1, 7)) (pc := 17) dX11_years_17 mK_X11_216 mf_X1_passByDraws.1 mf_X1_passByDraws.2.1 mf_X1_passByDraws.2.2 rfl rfl rfl rfl rfl (Nat.le_of_ble_eq_true rfl) ⟨Nat.le_of_ble_eq_true rfl, Nat.le_of_ble_eq_true rfl⟩ ⟨by rw [Nat.zero_add]; exact Nat.le_refl _, by rw [Nat.zero_add]; exact Nat.le_refl _⟩ (r_Hr_passByDraws h) ?_
    rw [Nat.zero_add, Nat.zero_add]
    show G _ _ _ _ _ _ _ _ _ [.int q.1] _
    refine g_goto (tgt := 24) (pc := 20) dX11_years_20 (by decide) ?_
    exact g_iret (pc := 24) dX11_years_24 rfl rfl (Nat.le_refl _) (Nat.le_refl _)
theorem r_Dk_undo {L : Sc} {T : Sm} {S : Sm} {q : Int32 × Sm} (h : Dk_undo S = some q) : Runs 4 mX11_undo [.ref 7] (cw L T S) (some (.int q.1)) (cw L T q.2) 0 0 := by
  have hV := cw_ok L T
  unfold Dk_undo at h
  refine Runs.of2 [some (.ref 7)] 0 rfl rfl (Nat.le_of_ble_eq_true rfl) (fun l Γ => ?_)
  refine g_aload_n (pc := 0) dX11_undo_0 rfl ?_
  refine v_getR hV (pc := 1) dX11_undo_1 fo_11_7 rfl k0_7 r0_7_7 ?_
  refine v_callVi hV (Mc := mX0_takeBack) (v := q.1) (S1 := q.2) (As := []) (rest := []) (q := (RX0, TX0, 6)) (pc := 4) dX11_undo_4 mK_X11_220 mf_X0_takeBack rfl k0_30 rfl rfl rfl (Nat.le_of_ble_eq_true rfl) ⟨Nat.le_of_ble_eq_true rfl, Nat.le_of_ble_eq_true rfl⟩ (r_Ac_takeBack h) ?_
  exact g_iret (pc := 7) dX11_undo_7 rfl rfl (Nat.le_refl _) (Nat.le_refl _)
