/-! ===== train of the component: the value, or the exception ===== -/
set_option maxRecDepth 4000 in
theorem r_Dk_trainN {V : Sm → Wd} (hV : VwC V) {a b v : Int32} {S : Sm} (hok : trOK a b S) (h : Dk_trainV a b S = some v) : Runs 4 mX11_train [.ref 7, .int a, .int b] (V S) (some (.int v)) (V S) 0 0 := by
  obtain ⟨o1, o2, o3⟩ := hok
  unfold Dk_trainV at h
  refine Runs.of2 [some (.ref 7), some (.int a), some (.int b)] 0 rfl rfl (Nat.le_of_ble_eq_true rfl) (fun l Γ => ?_)
  refine g_aload_n (pc := 0) dX11_train_0 rfl ?_
  refine v_getR hV (pc := 1) dX11_train_1 fo_11_6 rfl k0_7 r0_7_6 ?_
  refine g_iload_n (pc := 4) dX11_train_4 rfl ?_
  refine v_callVi hV (Mc := mX4_hasTrain) (v := Mo_hasTrain a S) (S1 := S) (As := [.int a]) (rest := []) (q := (RX4, TX4, 8)) (pc := 5) dX11_train_5 mK_X11_161 mf_X4_hasTrain rfl k0_25 rfl rfl rfl (Nat.le_of_ble_eq_true rfl) ⟨Nat.le_of_ble_eq_true rfl, Nat.le_of_ble_eq_true rfl⟩ (r_Mo_hasTrain hV rfl) ?_
  refine g_if_eq (tgt := 20) (pc := 8) dX11_train_8 (by decide) (fun c => absurd c o1) (fun _ => ?_)
  refine g_iload_n (pc := 11) dX11_train_11 rfl ?_
  refine g_if_lt (tgt := 20) (pc := 12) dX11_train_12 (by decide) (fun c => absurd c o2) (fun _ => ?_)
  refine g_iload_n (pc := 15) dX11_train_15 rfl ?_
  refine g_iconst (v := 3) (pc := 16) dX11_train_16 (by decide) ?_
  refine g_icmp_le (tgt := 28) (pc := 17) dX11_train_17 (by decide) (fun _ => ?_) (fun c => absurd (Int32.not_le.mp c) o3)
  refine g_iload_n (pc := 28) dX11_train_28 rfl ?_
  by_cases c0 : b = (0 : Int32)
  · rw [if_pos c0] at h
    cases h
    refine g_tab (off := 27) (tgt := 56) (pc := 29) dX11_train_29 (by rw [c0]; decide +kernel) (by decide) (by decide +kernel) ?_
    refine g_aload_n (pc := 56) dX11_train_56 rfl ?_
    refine v_getR hV (pc := 57) dX11_train_57 fo_11_6 rfl k0_7 r0_7_6 ?_
    refine g_iload_n (pc := 60) dX11_train_60 rfl ?_
    refine g_iconst (v := 0) (pc := 61) dX11_train_61 (by decide) ?_
    refine v_callVi hV (Mc := mX4_ofTrain) (v := Mo_ofTrain a 0 S) (S1 := S) (As := [.int a, .int 0]) (rest := []) (q := (RX4, TX4, 8)) (pc := 62) dX11_train_62 mK_X11_167 mf_X4_ofTrain rfl k0_25 rfl rfl rfl (Nat.le_of_ble_eq_true rfl) ⟨Nat.le_of_ble_eq_true rfl, Nat.le_of_ble_eq_true rfl⟩ (r_Mo_ofTrain hV rfl) ?_
    exact g_iret (pc := 65) dX11_train_65 rfl rfl (Nat.le_refl _) (Nat.le_refl _)
  · rw [if_neg c0] at h
    by_cases c1 : b = (1 : Int32)
    · rw [if_pos c1] at h
      refine g_tab (off := 37) (tgt := 66) (pc := 29) dX11_train_29 (by rw [c1]; decide +kernel) (by decide) (by decide +kernel) ?_
      refine g_aload_n (pc := 66) dX11_train_66 rfl ?_
      refine v_getR hV (pc := 67) dX11_train_67 fo_11_9 rfl k0_7 r0_7_9 ?_
      refine g_iload_n (pc := 70) dX11_train_70 rfl ?_
      refine v_callVi hV (Mc := mX1_lampOf) (v := v) (S1 := S) (As := [.int a]) (rest := []) (q := (RX1, TX1, 7)) (pc := 71) dX11_train_71 mK_X11_170 mf_X1_lampOf rfl k0_40 rfl rfl rfl (Nat.le_of_ble_eq_true rfl) ⟨Nat.le_of_ble_eq_true rfl, Nat.le_of_ble_eq_true rfl⟩ (r_Hr_lampOf hV h) ?_
      exact g_iret (pc := 74) dX11_train_74 rfl rfl (Nat.le_refl _) (Nat.le_refl _)
    · rw [if_neg c1] at h
      by_cases c2 : b = (2 : Int32)
      · rw [if_pos c2] at h
        cases h
        refine g_tab (off := 46) (tgt := 75) (pc := 29) dX11_train_29 (by rw [c2]; decide +kernel) (by decide) (by decide +kernel) ?_
        refine g_aload_n (pc := 75) dX11_train_75 rfl ?_
        refine v_getR hV (pc := 76) dX11_train_76 fo_11_6 rfl k0_7 r0_7_6 ?_
        refine g_iload_n (pc := 79) dX11_train_79 rfl ?_
        refine g_iconst (v := 4) (pc := 80) dX11_train_80 (by decide) ?_
        refine v_callVi hV (Mc := mX4_ofTrain) (v := Mo_ofTrain a 4 S) (S1 := S) (As := [.int a, .int 4]) (rest := []) (q := (RX4, TX4, 8)) (pc := 81) dX11_train_81 mK_X11_167 mf_X4_ofTrain rfl k0_25 rfl rfl rfl (Nat.le_of_ble_eq_true rfl) ⟨Nat.le_of_ble_eq_true rfl, Nat.le_of_ble_eq_true rfl⟩ (r_Mo_ofTrain hV rfl) ?_
        exact g_iret (pc := 84) dX11_train_84 rfl rfl (Nat.le_refl _) (Nat.le_refl _)
      · rw [if_neg c2] at h
        cases h
        refine g_tab (off := 56) (tgt := 85) (pc := 29) dX11_train_29 ?_ (by decide) (by decide +kernel) ?_
        · refine tab_dflt (ok := [0, 1, 2]) (fun k hk => ?_) (by decide +kernel)
          have e0 := lv_neT c0 (a := 0) rfl
          have e1 := lv_neT c1 (a := 1) rfl
          have e2 := lv_neT c2 (a := 2) rfl
          simp only [List.mem_cons, List.not_mem_nil, or_false] at hk
          omega
        · refine g_aload_n (pc := 85) dX11_train_85 rfl ?_
          refine v_getR hV (pc := 86) dX11_train_86 fo_11_6 rfl k0_7 r0_7_6 ?_
          refine g_iload_n (pc := 89) dX11_train_89 rfl ?_
          refine g_iconst (v := 5) (pc := 90) dX11_train_90 (by decide) ?_
          refine v_callVi hV (Mc := mX4_ofTrain) (v := Mo_ofTrain a 5 S) (S1 := S) (As := [.int a, .int 5]) (rest := []) (q := (RX4, TX4, 8)) (pc := 91) dX11_train_91 mK_X11_167 mf_X4_ofTrain rfl k0_25 rfl rfl rfl (Nat.le_of_ble_eq_true rfl) ⟨Nat.le_of_ble_eq_true rfl, Nat.le_of_ble_eq_true rfl⟩ (r_Mo_ofTrain hV rfl) ?_
          exact g_iret (pc := 94) dX11_train_94 rfl rfl (Nat.le_refl _) (Nat.le_refl _)
/-- a cell more, of no kind -/
def sE (w : Wd) : Wd := (w.1, w.2.1, w.2.2.1, w.2.2.2.1, w.2.2.2.2 + 1)
theorem Rep.ex {Γ : Gm} {w : Wd} {H H1 : Heap} (h : Rep Γ w H) (hz : H1.size = H.size + 1) (hH : ∀ q : Nat, q < H.size → H1[q]? = H[q]?) : Rep Γ (sE w) H1 := by
  refine ⟨by show H1.size + 7 = Γ.2.2.2 + (gN w + 1); have := h.1; omega, fun i hi => h.2.1 i (by have : gN w + 1 ≤ i := hi; omega), h.2.2.1, by show 7 ≤ gN w + 1; have := h.2.2.2.1; omega, fun a ha => ?_⟩
  by_cases q : a = gN w
  · unfold cellAt
    rw [show gK (sE w) a = gK w a from rfl, h.2.1 a (by omega)]
    trivial
  · have hl : a < gN w := by have : a < gN w + 1 := ha; omega
    have h1 := h.2.2.2.2 a hl
    have hq : H1[ad Γ a]? = H[ad Γ a]? := hH _ (ad_old h hl)
    unfold cellAt at h1 ⊢
    rw [show gK (sE w) a = gK w a from rfl]
    cases hc : gK w a with
    | none => trivial
    | some x =>
      rw [hc] at h1
      cases x with
      | inl ci =>
        obtain ⟨r, g1, g2⟩ := h1
        exact ⟨r, g1, g2.kept hq⟩
      | inr z =>
        obtain ⟨ty, n⟩ := z
        exact arrAt.kept (f := fun k => fv Γ w ty a k) h1 hq
theorem ex_31 (S : Sm) (b : Nat) : (exS S).1 31 b = if b = 40 then nI (gNs S + 1) else if b = 1000 + gNs S then 0 else S.1 31 b := by
  show (if (31 : Nat) = 31 ∧ b = 40 then nI (gNs S + 1) else if (31 : Nat) = 31 ∧ b = 1000 + gNs S then (0 : Int32) else S.1 31 b) = _
  by_cases h1 : b = 40
  · rw [if_pos ⟨rfl, h1⟩, if_pos h1]
  · rw [if_neg (fun q => h1 q.2), if_neg h1]
    by_cases h2 : b = 1000 + gNs S
    · rw [if_pos ⟨rfl, h2⟩, if_pos h2]
    · rw [if_neg (fun q => h2 q.2), if_neg h2]
theorem cw_exS {L : Sc} {T S : Sm} (hN : gNs S < 1000000) : sE (cw L T S) = cw L T (exS S) := by
  have h40 : ix ((exS S).1 31 40) = gNs S + 1 := by
    rw [ex_31, if_pos rfl]
    exact nI_clamp (by omega)
  have hot : ∀ b, b ≠ 40 → b ≠ 1000 + gNs S → (exS S).1 31 b = S.1 31 b := fun b h1 h2 => by
    rw [ex_31, if_neg h1, if_neg h2]
  have hnew : (exS S).1 31 (1000 + gNs S) = 0 := by
    rw [ex_31, if_neg (by omega), if_pos rfl]
  refine Prod.ext (funext fun a => funext fun b => ?_) (Prod.ext (funext fun a => funext fun b => ?_) (Prod.ext (funext fun a => funext fun b => ?_) (Prod.ext (funext fun a => ?_) ?_)))
  · show (if a < 7 then (if a = 6 then L.2 b else cst a b) else if a = 31 then 0 else if 53 ≤ a ∧ a < 90 then T.1 a b else S.1 a b) = (if a < 7 then (if a = 6 then L.2 b else cst a b) else if a = 31 then 0 else if 53 ≤ a ∧ a < 90 then T.1 a b else (if a = 31 ∧ b = 40 then nI (gNs S + 1) else if a = 31 ∧ b = 1000 + gNs S then 0 else S.1 a b))
    by_cases h : a = 31
    · rw [if_neg (by omega), if_pos h, if_neg (by omega), if_pos h]
    · rw [if_neg (fun q : a = 31 ∧ b = 40 => h q.1), if_neg (fun q : a = 31 ∧ b = 1000 + gNs S => h q.1)]
  · show (if 53 ≤ a ∧ a < 90 then T.2 a b else S.2 a b) = (if 53 ≤ a ∧ a < 90 then T.2 a b else S.2 a b)
    rfl
  · show (if a = 31 then (if S.1 31 b = 0 ∨ 40 ≤ b then none else some (ix (S.1 31 b))) else if a < 91 then R0 a b else if a < gNs S ∧ S.1 31 (1000 + a) = 1 ∧ b < 4 then some (a + 1 + b) else none) = (if a = 31 then (if (exS S).1 31 b = 0 ∨ 40 ≤ b then none else some (ix ((exS S).1 31 b))) else if a < 91 then R0 a b else if a < ix ((exS S).1 31 40) ∧ (exS S).1 31 (1000 + a) = 1 ∧ b < 4 then some (a + 1 + b) else none)
    rw [h40]
    by_cases h1 : a = 31
    · rw [if_pos h1, if_pos h1]
      by_cases h2 : b < 40
      · rw [hot b (by omega) (by omega)]
      · rw [if_pos (Or.inr (by omega)), if_pos (Or.inr (by omega))]
    · rw [if_neg h1, if_neg h1]
      by_cases h2 : a < 91
      · rw [if_pos h2, if_pos h2]
      · rw [if_neg h2, if_neg h2]
        by_cases h3 : a = gNs S
        · rw [if_neg (by omega), if_neg]
          rintro ⟨-, q, -⟩
          rw [h3, hnew] at q
          exact absurd q (by decide)
        · rw [hot (1000 + a) (by omega) (by omega)]
          by_cases h4 : a < gNs S ∧ S.1 31 (1000 + a) = 1 ∧ b < 4
          · rw [if_pos h4, if_pos ⟨by omega, h4.2⟩]
          · rw [if_neg h4, if_neg (fun q => h4 ⟨by omega, q.2⟩)]
  · show (if a = 6 then some (.inr (.int, L.1)) else if a < 91 then K0 a else if a < gNs S then mkc (S.1 31 (1000 + a)) else none) = (if a = 6 then some (.inr (.int, L.1)) else if a < 91 then K0 a else if a < ix ((exS S).1 31 40) then mkc ((exS S).1 31 (1000 + a)) else none)
    rw [h40]
    by_cases h1 : a = 6
    · rw [if_pos h1, if_pos h1]
    · rw [if_neg h1, if_neg h1]
      by_cases h2 : a < 91
      · rw [if_pos h2, if_pos h2]
      · rw [if_neg h2, if_neg h2]
        by_cases h3 : a = gNs S
        · rw [if_neg (by omega), if_pos (by omega), h3, hnew]; rfl
        · rw [hot (1000 + a) (by omega) (by omega)]
          by_cases h4 : a < gNs S
          · rw [if_pos h4, if_pos (by omega)]
          · rw [if_neg h4, if_neg (by omega)]
  · show gNs S + 1 = ix ((exS S).1 31 40)
    rw [h40]
