/-! ===== the law's loop ===== -/
/-- what train says of the component: the value, or that it throws -/
def trOK (a b : Int32) (S : Sm) : Prop := ¬ Mo_hasTrain a S = 0 ∧ ¬ b < 0 ∧ ¬ 3 < b
def Dk_trainV (a b : Int32) (S : Sm) : Option Int32 := if b = 0 then some (Mo_ofTrain a 0 S) else if b = 1 then Hr_lampOf a S else if b = 2 then some (Mo_ofTrain a 4 S) else some (Mo_ofTrain a 5 S)
/-- a cell more, that nothing is told of: the exception -/
def exS (S : Sm) : Sm := (fun a b => if a = 31 ∧ b = 40 then nI (gNs S + 1) else if a = 31 ∧ b = 1000 + gNs S then 0 else S.1 a b, S.2)
def ls_5 (x : Nat → Int32) (T S T' S' : Sm) : Prop := ∃ p : Int32 × Sm, Md_train (x 1) (x 2) T = some p ∧ T' = p.2 ∧ ((trOK (x 1) (x 2) S ∧ ∃ v : Int32, Dk_trainV (x 1) (x 2) S = some v ∧ gi p.2 53 0 = 0 ∧ v = p.1 ∧ S' = sl S 90 0 (Int32.toInt64 v)) ∨ (¬ trOK (x 1) (x 2) S ∧ gi p.2 53 0 = 1 ∧ S' = exS S))
def Lw5 : Prop := ∀ {l : Launch} {Γ : Gm} {R : Room} {Q : QT} {cells slots : Nat} {L : Sc} {T S T' S' : Sm} {i : Int32} (hsT : l.stackTraces = false) (hR : RmL R) (hb1 : inb (i + 1) L.1) (hb2 : inb (i + 2) L.1) (h : ls_5 (fun k => L.2 (ix (i + nI k))) T S T' S') (hN : gNs S < 1000000) (hc : cells + 1 ≤ R.cells ∧ slots + 6 ≤ R.slots) (kk : G mL_law l Γ R Q (cells + 1) (slots + 6) 1819 [some (.ref 6), some (.ref 7), some (.ref 53), some (.ref 90), some (.int i), none, none] [] (cw L T' S')), G mL_law l Γ R Q cells slots 429 [some (.ref 6), some (.ref 7), some (.ref 53), some (.ref 90), some (.int i), none, none] [] (cw L T S)
def LSm (k : Nat) (x : Nat → Int32) (T S T' S' : Sm) : Prop := match k with
  | 0 => ls_0 x T S T' S'
  | 1 => ls_1 x T S T' S'
  | 2 => ls_2 x T S T' S'
  | 3 => ls_3 x T S T' S'
  | 4 => ls_4 x T S T' S'
  | 5 => ls_5 x T S T' S'
  | 6 => ls_6 x T S T' S'
  | 7 => ls_7 x T S T' S'
  | 8 => ls_8 x T S T' S'
  | 9 => ls_9 x T S T' S'
  | 10 => ls_10 x T S T' S'
  | 11 => ls_11 x T S T' S'
  | 12 => ls_12 x T S T' S'
  | 13 => ls_13 x T S T' S'
  | 14 => ls_14 x T S T' S'
  | 15 => ls_15 x T S T' S'
  | 16 => ls_16 x T S T' S'
  | 17 => ls_17 x T S T' S'
  | 18 => ls_18 x T S T' S'
  | 19 => ls_19 x T S T' S'
  | 20 => ls_20 x T S T' S'
  | 21 => ls_21 x T S T' S'
  | 22 => ls_22 x T S T' S'
  | 23 => ls_23 x T S T' S'
  | 24 => ls_24 x T S T' S'
  | 25 => ls_25 x T S T' S'
  | 26 => ls_26 x T S T' S'
  | 27 => ls_27 x T S T' S'
  | 28 => ls_28 x T S T' S'
  | 29 => ls_29 x T S T' S'
  | 30 => ls_30 x T S T' S'
  | 31 => ls_31 x T S T' S'
  | 32 => ls_32 x T S T' S'
  | 33 => ls_33 x T S T' S'
  | 34 => ls_34 x T S T' S'
  | 35 => ls_35 x T S T' S'
  | 36 => ls_36 x T S T' S'
  | 37 => ls_37 x T S T' S'
  | 38 => ls_38 x T S T' S'
  | 39 => ls_39 x T S T' S'
  | 40 => ls_40 x T S T' S'
  | 41 => ls_41 x T S T' S'
  | 42 => ls_42 x T S T' S'
  | 43 => ls_43 x T S T' S'
  | _ => T' = T ∧ S' = S
def LStep (k : Nat) (x : Nat → Int32) (T S T' S' : Sm) : Prop := gNs S ≤ gNs S' ∧ LSm k x T S T' S'
theorem and63 (x : Int32) : ∃ k, k < 64 ∧ x &&& 63 = nI k := by
  refine ⟨(x.toBitVec &&& 63#32).toNat, ?_, ?_⟩
  · rw [BitVec.toNat_and]
    exact Nat.lt_of_le_of_lt Nat.and_le_right (by decide)
  · apply Int32.toBitVec_inj.mp
    show (x.toBitVec &&& 63#32) = (Int32.ofNat _).toBitVec
    rw [Int32.toBitVec_ofNat']
    simp
theorem kc_le (S : Sm) : kcS S ≤ 5 ∧ ksS S ≤ 172 := by
  rcases kc_cases S with ⟨a, b⟩ | ⟨a, b⟩ <;> omega
theorem ms_le (S S' : Sm) : msS S S' ≤ 172 * (gNs S' - gNs S) := by
  unfold msS; omega
set_option maxRecDepth 8000 in
theorem law_disp (h5 : Lw5) {l : Launch} {Γ : Gm} {R : Room} {Q : QT} {cells slots : Nat} {L : Sc} {T S T' S' : Sm} {i : Int32} (hsT : l.stackTraces = false) (hR : RmL R) (hb : ∀ k, k < 6 → inb (i + nI k) L.1) (hN : gNs S < 1000000) {k : Nat} (hk : k < 64) {y : Int32} (hy : y = nI k) (h : LStep k (fun k => L.2 (ix (i + nI k))) T S T' S') (hc : cells + 6 + (gNs S' - gNs S) ≤ R.cells ∧ slots + 400 + 172 * (gNs S' - gNs S) ≤ R.slots) (kk : G mL_law l Γ R Q (cells + 6 + (gNs S' - gNs S)) (slots + 400 + 172 * (gNs S' - gNs S)) 1819 [some (.ref 6), some (.ref 7), some (.ref 53), some (.ref 90), some (.int i), none, none] [] (cw L T' S')) : G mL_law l Γ R Q cells slots 40 [some (.ref 6), some (.ref 7), some (.ref 53), some (.ref 90), some (.int i), none, none] [.int y] (cw L T S) := by
  obtain ⟨hg, h⟩ := h
  have hkc := kc_le S
  have hms := ms_le S S'
  have hmc : mcS S S' = gNs S' - gNs S := rfl
  subst hy
  by_cases c44 : 44 ≤ k
  · refine g_tab (off := 1779) (tgt := 1819) dL_law_40 ?_ (by decide) (by decide +kernel) ?_
    · unfold tabO
      rw [nI_toInt (by omega), if_pos (Or.inr (by omega))]
    · have e : T' = T ∧ S' = S := by
        unfold LSm at h
        split at h <;> first | omega | exact h
      obtain ⟨rfl, rfl⟩ := e
      exact g_widen (by omega) (by omega) kk
  · have hk2 : k < 44 := by omega
    match k, hk2, h with
    | 0, _, h =>
      refine g_tab (off := 192) (tgt := 232) dL_law_40 (by decide +kernel) (by decide) (by decide +kernel) ?_
      exact lw_0 hR (hb 1 (by omega)) (hb 2 (by omega)) (hb 3 (by omega)) (hb 4 (by omega)) (hb 5 (by omega)) h ⟨by omega, by omega⟩ (g_widen (by omega) (by omega) kk)
    | 1, _, h =>
      refine g_tab (off := 265) (tgt := 305) dL_law_40 (by decide +kernel) (by decide) (by decide +kernel) ?_
      exact lw_1 hR (hb 1 (by omega)) h ⟨by omega, by omega⟩ (g_widen (by omega) (by omega) kk)
    | 2, _, h =>
      refine g_tab (off := 290) (tgt := 330) dL_law_40 (by decide +kernel) (by decide) (by decide +kernel) ?_
      exact lw_2 hR (hb 1 (by omega)) h ⟨by omega, by omega⟩ (g_widen (by omega) (by omega) kk)
    | 3, _, h =>
      refine g_tab (off := 315) (tgt := 355) dL_law_40 (by decide +kernel) (by decide) (by decide +kernel) ?_
      exact lw_3 hR (hb 1 (by omega)) h ⟨by omega, by omega⟩ (g_widen (by omega) (by omega) kk)
    | 4, _, h =>
      refine g_tab (off := 340) (tgt := 380) dL_law_40 (by decide +kernel) (by decide) (by decide +kernel) ?_
      exact lw_4 hR (hb 1 (by omega)) (hb 2 (by omega)) (hb 3 (by omega)) h ⟨by omega, by omega⟩ (g_widen (by omega) (by omega) kk)
    | 5, _, h =>
      refine g_tab (off := 389) (tgt := 429) dL_law_40 (by decide +kernel) (by decide) (by decide +kernel) ?_
      exact h5 hsT hR (hb 1 (by omega)) (hb 2 (by omega)) h hN ⟨by omega, by omega⟩ (g_widen (by omega) (by omega) kk)
    | 6, _, h =>
      refine g_tab (off := 457) (tgt := 497) dL_law_40 (by decide +kernel) (by decide) (by decide +kernel) ?_
      exact lw_6 hR (hb 1 (by omega)) h ⟨by omega, by omega⟩ (g_widen (by omega) (by omega) kk)
    | 7, _, h =>
      refine g_tab (off := 482) (tgt := 522) dL_law_40 (by decide +kernel) (by decide) (by decide +kernel) ?_
      exact lw_7 hR (hb 1 (by omega)) h ⟨by omega, by omega⟩ (g_widen (by omega) (by omega) kk)
    | 8, _, h =>
      refine g_tab (off := 507) (tgt := 547) dL_law_40 (by decide +kernel) (by decide) (by decide +kernel) ?_
      exact lw_8 hR (hb 1 (by omega)) (hb 2 (by omega)) (hb 3 (by omega)) h ⟨by omega, by omega⟩ (g_widen (by omega) (by omega) kk)
    | 9, _, h =>
      refine g_tab (off := 556) (tgt := 596) dL_law_40 (by decide +kernel) (by decide) (by decide +kernel) ?_
      exact lw_9 hR (hb 1 (by omega)) (hb 2 (by omega)) h ⟨by omega, by omega⟩ (g_widen (by omega) (by omega) kk)
    | 10, _, h =>
      refine g_tab (off := 593) (tgt := 633) dL_law_40 (by decide +kernel) (by decide) (by decide +kernel) ?_
      exact lw_10 hR (hb 1 (by omega)) (hb 2 (by omega)) (hb 3 (by omega)) h ⟨by omega, by omega⟩ (g_widen (by omega) (by omega) kk)
    | 11, _, h =>
      refine g_tab (off := 642) (tgt := 682) dL_law_40 (by decide +kernel) (by decide) (by decide +kernel) ?_
      exact lw_11 hR (hb 1 (by omega)) (hb 2 (by omega)) h ⟨by omega, by omega⟩ (g_widen (by omega) (by omega) kk)
    | 12, _, h =>
      refine g_tab (off := 695) (tgt := 735) dL_law_40 (by decide +kernel) (by decide) (by decide +kernel) ?_
      exact lw_12 hR (hb 1 (by omega)) h ⟨by omega, by omega⟩ (g_widen (by omega) (by omega) kk)
    | 13, _, h =>
      refine g_tab (off := 720) (tgt := 760) dL_law_40 (by decide +kernel) (by decide) (by decide +kernel) ?_
      exact lw_13 hR (hb 1 (by omega)) h ⟨by omega, by omega⟩ (g_widen (by omega) (by omega) kk)
    | 14, _, h =>
      refine g_tab (off := 745) (tgt := 785) dL_law_40 (by decide +kernel) (by decide) (by decide +kernel) ?_
      exact lw_14 hR (hb 1 (by omega)) (hb 2 (by omega)) (hb 3 (by omega)) h ⟨by omega, by omega⟩ (g_widen (by omega) (by omega) kk)
    | 15, _, h =>
      refine g_tab (off := 814) (tgt := 854) dL_law_40 (by decide +kernel) (by decide) (by decide +kernel) ?_
      exact lw_15 hR  h ⟨by omega, by omega⟩ (g_widen (by omega) (by omega) kk)
    | 16, _, h =>
      refine g_tab (off := 827) (tgt := 867) dL_law_40 (by decide +kernel) (by decide) (by decide +kernel) ?_
      exact lw_16 hR (hb 1 (by omega)) (hb 2 (by omega)) h ⟨by omega, by omega⟩ (g_widen (by omega) (by omega) kk)
    | 17, _, h =>
      refine g_tab (off := 864) (tgt := 904) dL_law_40 (by decide +kernel) (by decide) (by decide +kernel) ?_
      exact lw_17 hR (hb 1 (by omega)) (hb 2 (by omega)) (hb 3 (by omega)) h ⟨by omega, by omega⟩ (g_widen (by omega) (by omega) kk)
    | 18, _, h =>
      refine g_tab (off := 913) (tgt := 953) dL_law_40 (by decide +kernel) (by decide) (by decide +kernel) ?_
      exact lw_18 hR (hb 1 (by omega)) (hb 2 (by omega)) (hb 3 (by omega)) h ⟨by omega, by omega⟩ (g_widen (by omega) (by omega) kk)
    | 19, _, h =>
      refine g_tab (off := 962) (tgt := 1002) dL_law_40 (by decide +kernel) (by decide) (by decide +kernel) ?_
      exact lw_19 hR (hb 1 (by omega)) (hb 2 (by omega)) (hb 3 (by omega)) h ⟨by omega, by omega⟩ (g_widen (by omega) (by omega) kk)
    | 20, _, h =>
      refine g_tab (off := 1011) (tgt := 1051) dL_law_40 (by decide +kernel) (by decide) (by decide +kernel) ?_
      exact lw_20 hR (hb 1 (by omega)) (hb 2 (by omega)) (hb 3 (by omega)) (hb 4 (by omega)) h ⟨by omega, by omega⟩ (g_widen (by omega) (by omega) kk)
    | 21, _, h =>
      refine g_tab (off := 1072) (tgt := 1112) dL_law_40 (by decide +kernel) (by decide) (by decide +kernel) ?_
      exact lw_21 hR (hb 1 (by omega)) (hb 2 (by omega)) (hb 3 (by omega)) h ⟨by omega, by omega⟩ (g_widen (by omega) (by omega) kk)
    | 22, _, h =>
      refine g_tab (off := 1121) (tgt := 1161) dL_law_40 (by decide +kernel) (by decide) (by decide +kernel) ?_
      exact lw_22 hR (hb 1 (by omega)) (hb 2 (by omega)) h ⟨by omega, by omega⟩ (g_widen (by omega) (by omega) kk)
    | 23, _, h =>
      refine g_tab (off := 1158) (tgt := 1198) dL_law_40 (by decide +kernel) (by decide) (by decide +kernel) ?_
      exact lw_23 hR  h ⟨by omega, by omega⟩ (g_widen (by omega) (by omega) kk)
    | 24, _, h =>
      refine g_tab (off := 1171) (tgt := 1211) dL_law_40 (by decide +kernel) (by decide) (by decide +kernel) ?_
      exact lw_24 hR (hb 1 (by omega)) h ⟨by omega, by omega⟩ (g_widen (by omega) (by omega) kk)
    | 25, _, h =>
      refine g_tab (off := 1196) (tgt := 1236) dL_law_40 (by decide +kernel) (by decide) (by decide +kernel) ?_
      exact lw_25 hR  h ⟨by omega, by omega⟩ (g_widen (by omega) (by omega) kk)
    | 26, _, h =>
      refine g_tab (off := 1209) (tgt := 1249) dL_law_40 (by decide +kernel) (by decide) (by decide +kernel) ?_
      exact lw_26 hR (hb 1 (by omega)) (hb 2 (by omega)) (hb 3 (by omega)) (hb 4 (by omega)) h ⟨by omega, by omega⟩ (g_widen (by omega) (by omega) kk)
    | 27, _, h =>
      refine g_tab (off := 1270) (tgt := 1310) dL_law_40 (by decide +kernel) (by decide) (by decide +kernel) ?_
      exact lw_27 hR (hb 1 (by omega)) h ⟨by omega, by omega⟩ (g_widen (by omega) (by omega) kk)
    | 28, _, h =>
      refine g_tab (off := 1295) (tgt := 1335) dL_law_40 (by decide +kernel) (by decide) (by decide +kernel) ?_
      exact lw_28 hR (hb 1 (by omega)) h ⟨by omega, by omega⟩ (g_widen (by omega) (by omega) kk)
    | 29, _, h =>
      refine g_tab (off := 1320) (tgt := 1360) dL_law_40 (by decide +kernel) (by decide) (by decide +kernel) ?_
      exact lw_29 hR (hb 1 (by omega)) h ⟨by omega, by omega⟩ (g_widen (by omega) (by omega) kk)
    | 30, _, h =>
      refine g_tab (off := 1345) (tgt := 1385) dL_law_40 (by decide +kernel) (by decide) (by decide +kernel) ?_
      exact lw_30 hR (hb 1 (by omega)) (hb 2 (by omega)) (hb 3 (by omega)) h ⟨by omega, by omega⟩ (g_widen (by omega) (by omega) kk)
    | 31, _, h =>
      refine g_tab (off := 1394) (tgt := 1434) dL_law_40 (by decide +kernel) (by decide) (by decide +kernel) ?_
      exact lw_31 hR (hb 1 (by omega)) (hb 2 (by omega)) h ⟨by omega, by omega⟩ (g_widen (by omega) (by omega) kk)
    | 32, _, h =>
      refine g_tab (off := 1431) (tgt := 1471) dL_law_40 (by decide +kernel) (by decide) (by decide +kernel) ?_
      exact lw_32 hR (hb 1 (by omega)) (hb 2 (by omega)) h ⟨by omega, by omega⟩ (g_widen (by omega) (by omega) kk)
    | 33, _, h =>
      refine g_tab (off := 1468) (tgt := 1508) dL_law_40 (by decide +kernel) (by decide) (by decide +kernel) ?_
      exact lw_33 hR (hb 1 (by omega)) (hb 2 (by omega)) (hb 3 (by omega)) h ⟨by omega, by omega⟩ (g_widen (by omega) (by omega) kk)
    | 34, _, h =>
      refine g_tab (off := 1517) (tgt := 1557) dL_law_40 (by decide +kernel) (by decide) (by decide +kernel) ?_
      exact lw_34 hR (hb 1 (by omega)) (hb 2 (by omega)) (hb 3 (by omega)) (hb 4 (by omega)) h ⟨by omega, by omega⟩ (g_widen (by omega) (by omega) kk)
    | 35, _, h =>
      refine g_tab (off := 1578) (tgt := 1618) dL_law_40 (by decide +kernel) (by decide) (by decide +kernel) ?_
      exact lw_35 hR (hb 1 (by omega)) (hb 2 (by omega)) (hb 3 (by omega)) h ⟨by omega, by omega⟩ (g_widen (by omega) (by omega) kk)
    | 36, _, h =>
      refine g_tab (off := 1627) (tgt := 1667) dL_law_40 (by decide +kernel) (by decide) (by decide +kernel) ?_
      exact lw_36 hR  h ⟨by omega, by omega⟩ (g_widen (by omega) (by omega) kk)
    | 37, _, h =>
      refine g_tab (off := 1640) (tgt := 1680) dL_law_40 (by decide +kernel) (by decide) (by decide +kernel) ?_
      exact lw_37 hR (hb 1 (by omega)) h ⟨by omega, by omega⟩ (g_widen (by omega) (by omega) kk)
    | 38, _, h =>
      refine g_tab (off := 1665) (tgt := 1705) dL_law_40 (by decide +kernel) (by decide) (by decide +kernel) ?_
      exact lw_38 hR (hb 1 (by omega)) h ⟨by omega, by omega⟩ (g_widen (by omega) (by omega) kk)
    | 39, _, h =>
      refine g_tab (off := 1690) (tgt := 1730) dL_law_40 (by decide +kernel) (by decide) (by decide +kernel) ?_
      exact lw_39 hR  h ⟨by omega, by omega⟩ (g_widen (by omega) (by omega) kk)
    | 40, _, h =>
      refine g_tab (off := 1703) (tgt := 1743) dL_law_40 (by decide +kernel) (by decide) (by decide +kernel) ?_
      exact lw_40 hR (hb 1 (by omega)) h ⟨by omega, by omega⟩ (g_widen (by omega) (by omega) kk)
    | 41, _, h =>
      refine g_tab (off := 1728) (tgt := 1768) dL_law_40 (by decide +kernel) (by decide) (by decide +kernel) ?_
      exact lw_41 hR  h ⟨by omega, by omega⟩ (g_widen (by omega) (by omega) kk)
    | 42, _, h =>
      refine g_tab (off := 1741) (tgt := 1781) dL_law_40 (by decide +kernel) (by decide) (by decide +kernel) ?_
      exact lw_42 hR  h ⟨by omega, by omega⟩ (g_widen (by omega) (by omega) kk)
    | 43, _, h =>
      refine g_tab (off := 1754) (tgt := 1794) dL_law_40 (by decide +kernel) (by decide) (by decide +kernel) ?_
      exact lw_43 hR (hb 1 (by omega)) h ⟨by omega, by omega⟩ (g_widen (by omega) (by omega) kk)
    | k + 44, hk3, _ => exact absurd hk3 (by omega)
theorem nI_sub6 {a b : Nat} (ha : a < 100000) (hb : b < 100000) : nI a - 6 < nI b ↔ a < b + 6 := by
  by_cases h : 6 ≤ a
  · obtain ⟨c, rfl⟩ : ∃ c, a = c + 6 := ⟨a - 6, by omega⟩
    have e : nI (c + 6) - 6 = nI c := by
      rw [← nI_add]
      show nI c + 6 - 6 = nI c
      exact Int32.add_sub_cancel _ _
    rw [e, nI_ltI (by omega) (by omega)]
    omega
  · refine ⟨fun _ => by omega, fun _ => ?_⟩
    have h0 : (0 : Int32) ≤ nI b := nI_pos' (by omega)
    have h1 : nI a - 6 < 0 := by
      match a, (by omega : a < 6) with
      | 0, _ => decide
      | 1, _ => decide
      | 2, _ => decide
      | 3, _ => decide
      | 4, _ => decide
      | 5, _ => decide
      | n + 6, hn => omega
    exact Int32.lt_of_lt_of_le h1 h0
/-- the loop, by an invariant that every call keeps -/
theorem law_loop (h5 : Lw5) {l : Launch} {Γ : Gm} {R : Room} {Q : QT} {L : Sc} (hsT : l.stackTraces = false) (hR : RmL R) (hL : L.1 ≤ 3072) (I : Nat → Sm → Sm → Prop) (hI : ∀ n T S, I n T S → 91 ≤ gNs S ∧ gNs S ≤ 2000)
    (hs : ∀ n T S k, 6 * n + 6 ≤ L.1 → I n T S → k < 64 → L.2 (6 * n) &&& 63 = nI k → ∃ T' S', LStep k (fun j => L.2 (ix (nI (6 * n) + nI j))) T S T' S' ∧ I (n + 1) T' S')
    (hend : ∀ cells slots (i : Int32) T S, cells ≤ 601024 → slots ≤ 7293034 → G mL_law l Γ R Q cells slots 1825 [some (.ref 6), some (.ref 7), some (.ref 53), some (.ref 90), some (.int i), none, none] [] (cw L T S)) :
    ∀ d n T S, L.1 < 6 * (n + d) + 6 → n ≤ 512 → I n T S → G mL_law l Γ R Q (100 + 6 * n + gNs S) (25000 + 400 * n + 172 * gNs S) 23 [some (.ref 6), some (.ref 7), some (.ref 53), some (.ref 90), some (.int (nI (6 * n))), none, none] [] (cw L T S) := by
  intro d
  induction d with
  | zero =>
    intro n T S hd hn hi
    obtain ⟨g1, g2⟩ := hI n T S hi
    refine g_iload (pc := 23) dL_law_23 rfl ?_
    refine g_aload_n (pc := 25) dL_law_25 rfl ?_
    refine gw_alen (v := nI L.1) (pc := 26) dL_law_26 (show cwK L.1 (S.1 31) 6 = some (.inr (.int, L.1)) from rfl) 0 (fun _ => rfl) rfl ?_
    refine g_bipush (v := 6) (pc := 27) dL_law_27 (by decide) ?_
    refine g_isub (pc := 29) dL_law_29 ?_
    refine g_icmp_gt (tgt := 1825) (pc := 30) dL_law_30 (by decide) (fun _ => ?_) (fun c => absurd ((nI_sub6 (by omega) (by omega)).mpr (by omega)) c)
    exact hend _ _ _ _ _ (by omega) (by omega)
  | succ d ih =>
    intro n T S hd hn hi
    obtain ⟨g1, g2⟩ := hI n T S hi
    refine g_iload (pc := 23) dL_law_23 rfl ?_
    refine g_aload_n (pc := 25) dL_law_25 rfl ?_
    refine gw_alen (v := nI L.1) (pc := 26) dL_law_26 (show cwK L.1 (S.1 31) 6 = some (.inr (.int, L.1)) from rfl) 0 (fun _ => rfl) rfl ?_
    refine g_bipush (v := 6) (pc := 27) dL_law_27 (by decide) ?_
    refine g_isub (pc := 29) dL_law_29 ?_
    refine g_icmp_gt (tgt := 1825) (pc := 30) dL_law_30 (by decide) (fun _ => hend _ _ _ _ _ (by omega) (by omega)) (fun c => ?_)
    have hin : 6 * n + 6 ≤ L.1 := by
      rw [nI_sub6 (by omega) (by omega)] at c
      omega
    have hb : ∀ k, k < 6 → inb (nI (6 * n) + nI k) L.1 := fun k hk => by
      rw [nI_add]
      exact nI_in (by omega) (by omega)
    refine g_aload_n (pc := 33) dL_law_33 rfl ?_
    refine g_iload (pc := 34) dL_law_34 rfl ?_
    refine l_iald (pc := 36) dL_law_36 (nI_in (by omega) (by omega)) ?_
    rw [show ix (nI (6 * n)) = 6 * n from nI_clamp (by omega)]
    refine g_bipush (v := 63) (pc := 37) dL_law_37 (by decide) ?_
    refine g_iand (pc := 39) dL_law_39 ?_
    obtain ⟨k, hk, e63⟩ := and63 (L.2 (6 * n))
    obtain ⟨T', S', hst, hi'⟩ := hs n T S k hin hi hk e63
    obtain ⟨g3, g4⟩ := hI _ _ _ hi'
    have hge := hst.1
    obtain ⟨r1, r2, r3, r4⟩ := hR
    refine law_disp h5 hsT ⟨r1, r2, r3, r4⟩ hb (by omega) hk e63 (T' := T') (S' := S') hst ⟨by omega, by omega⟩ ?_
    · refine g_iinc (v := nI (6 * (n + 1))) (ls1 := [some (.ref 6), some (.ref 7), some (.ref 53), some (.ref 90), some (.int (nI (6 * (n + 1)))), none, none]) (pc := 1819) dL_law_1819 rfl ?_ (by decide) rfl ?_
      · show nI (6 * n) + 6 = _
        exact nI_add (6 * n) 6
      · refine g_goto (tgt := 23) (pc := 1822) dL_law_1822 (by decide) ?_
        exact g_widen (by omega) (by omega) (ih (n + 1) T' S' (by omega) (by omega) hi')
