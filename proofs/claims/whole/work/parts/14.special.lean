/-! ===== reading and writing of rows: the helpers at, put, copy ===== -/
theorem sT_copy : Cond.static arraycopyName ∈ WS := ws_of (tb_3 131 (by decide +kernel)) (by decide +kernel)
set_option maxRecDepth 4000 in
theorem r_at_w {w : Wd} {row n : Nat} {i : Int32} {f : Nat → Int32} (hk : gK w row = some (.inr (.int, n))) (hn : n < 2 ^ 31) (hf : ∀ j, gI w row j = f j) : Runs 0 mX11_at [.ref row, .int i] w (some (.int (atF f n i))) w 0 0 := by
  refine Runs.of2 [some (.ref row), some (.int i)] 0 rfl rfl (Nat.le_of_ble_eq_true rfl) (fun l Γ => ?_)
  refine g_iload_n (pc := 0) dX11_at_0 rfl ?_
  refine g_if_lt (tgt := 16) (pc := 1) dX11_at_1 (by decide) (fun c => ?_) (fun c => ?_)
  · refine g_iconst (v := 0) (pc := 16) dX11_at_16 (by decide) ?_
    rw [show atF f n i = 0 from if_pos c]
    exact g_iret (pc := 17) dX11_at_17 rfl rfl (Nat.le_refl _) (Nat.le_refl _)
  · refine g_iload_n (pc := 4) dX11_at_4 rfl ?_
    refine g_aload_n (pc := 5) dX11_at_5 rfl ?_
    refine gw_alen (v := Int32.ofNat n) (pc := 6) dX11_at_6 hk 0 (fun _ => rfl) rfl ?_
    refine g_icmp_ge (tgt := 16) (pc := 7) dX11_at_7 (by decide) (fun c2 => ?_) (fun c2 => ?_)
    · refine g_iconst (v := 0) (pc := 16) dX11_at_16 (by decide) ?_
      rw [show atF f n i = 0 from (if_neg c).trans (if_pos c2)]
      exact g_iret (pc := 17) dX11_at_17 rfl rfl (Nat.le_refl _) (Nat.le_refl _)
    · refine g_aload_n (pc := 10) dX11_at_10 rfl ?_
      refine g_iload_n (pc := 11) dX11_at_11 rfl ?_
      refine gw_iald (pc := 12) dX11_at_12 hk (inb_of hn c c2) ?_
      refine g_goto (tgt := 17) (pc := 13) dX11_at_13 (by decide) ?_
      rw [show atF f n i = gI w row (ix i) from (if_neg c).trans ((if_neg c2).trans (hf _).symm)]
      exact g_iret (pc := 17) dX11_at_17 rfl rfl (Nat.le_refl _) (Nat.le_refl _)
theorem r_at {V : Sm → Wd} (hV : VwC V) {S : Sm} {row n : Nat} {i : Int32} (hk : K0 row = some (.inr (.int, n))) (ho : ownC row = true) (hn : n < 2 ^ 31) : Runs 0 mX11_at [.ref row, .int i] (V S) (some (.int (atF (gi S row) n i))) (V S) 0 0 :=
  r_at_w (hV.2.2.2.2.2.2.1 S row _ hk) hn (fun j => hV.2.1 S row j ho)
theorem r_at_c {V : Sm → Wd} (hV : VwC V) {S : Sm} {row n : Nat} {i : Int32} (hk : K0 row = some (.inr (.int, n))) (ho : row < 6) (hn : n < 2 ^ 31) : Runs 0 mX11_at [.ref row, .int i] (V S) (some (.int (atF (cst row) n i))) (V S) 0 0 :=
  r_at_w (hV.2.2.2.2.2.2.1 S row _ hk) hn (fun j => hV.2.2.2.2.2.2.2.2 S row j ho)
theorem r_put {V : Sm → Wd} (hV : VwC V) {S S1 : Sm} {row n : Nat} {i v : Int32} (hk : K0 row = some (.inr (.int, n))) (ho : ownC row = true) (hn : n < 2 ^ 31) (h : puF S row n i v = S1) : Runs 0 mX11_put [.ref row, .int i, .int v] (V S) none (V S1) 0 0 := by
  subst h
  refine Runs.of2 [some (.ref row), some (.int i), some (.int v)] 0 rfl rfl (Nat.le_of_ble_eq_true rfl) (fun l Γ => ?_)
  refine g_iload_n (pc := 0) dX11_put_0 rfl ?_
  refine g_if_lt (tgt := 14) (pc := 1) dX11_put_1 (by decide) (fun c => ?_) (fun c => ?_)
  · rw [show puF S row n i v = S from if_pos c]
    exact g_vret (pc := 14) dX11_put_14 rfl (Nat.le_refl _) (Nat.le_refl _)
  · refine g_iload_n (pc := 4) dX11_put_4 rfl ?_
    refine g_aload_n (pc := 5) dX11_put_5 rfl ?_
    refine v_alen hV (v := Int32.ofNat n) (pc := 6) dX11_put_6 hk 0 (fun _ => rfl) rfl ?_
    refine g_icmp_ge (tgt := 14) (pc := 7) dX11_put_7 (by decide) (fun c2 => ?_) (fun c2 => ?_)
    · rw [show puF S row n i v = S from (if_neg c).trans (if_pos c2)]
      exact g_vret (pc := 14) dX11_put_14 rfl (Nat.le_refl _) (Nat.le_refl _)
    · refine g_aload_n (pc := 10) dX11_put_10 rfl ?_
      refine g_iload_n (pc := 11) dX11_put_11 rfl ?_
      refine g_iload_n (pc := 12) dX11_put_12 rfl ?_
      refine v_iast hV (pc := 13) dX11_put_13 hk ho (inb_of hn c c2) ?_
      rw [show puF S row n i v = si S row (ix i) v from (if_neg c).trans (if_neg c2)]
      exact g_vret (pc := 14) dX11_put_14 rfl (Nat.le_refl _) (Nat.le_refl _)
theorem r_copy_w {w : Wd} {a b n : Nat} (hka : gK w a = some (.inr (.int, n))) (hkb : gK w b = some (.inr (.int, n))) (h7a : 7 ≤ a) (h7 : 7 ≤ b) (hn : n < 2 ^ 31) : Runs 1 mX11_copy [.ref a, .ref b] w none (sC w a b n) 0 0 := by
  refine Runs.of2 [some (.ref a), some (.ref b)] 0 rfl rfl (Nat.le_of_ble_eq_true rfl) (fun l Γ => ?_)
  refine g_aload_n (pc := 0) dX11_copy_0 rfl ?_
  refine g_iconst (v := 0) (pc := 1) dX11_copy_1 (by decide) ?_
  refine g_aload_n (pc := 2) dX11_copy_2 rfl ?_
  refine g_iconst (v := 0) (pc := 3) dX11_copy_3 (by decide) ?_
  refine g_aload_n (pc := 4) dX11_copy_4 rfl ?_
  refine gw_alen (v := Int32.ofNat n) (pc := 5) dX11_copy_5 hka 0 (fun _ => rfl) rfl ?_
  refine g_aload_n (pc := 6) dX11_copy_6 rfl ?_
  refine gw_alen (v := Int32.ofNat n) (pc := 7) dX11_copy_7 hkb 0 (fun _ => rfl) rfl ?_
  refine g_iMin (pc := 8) dX11_copy_8 mK_X11_367 ⟨Nat.le_of_ble_eq_true rfl, Nat.le_of_ble_eq_true rfl⟩ (Nat.zero_le _) (Nat.zero_le _) ?_
  rw [show iMin (Int32.ofNat n) (Int32.ofNat n) = nI n from by unfold iMin; split <;> rfl]
  refine g_copy (pc := 11) dX11_copy_11 mK_X11_372 nA_copy sT_copy iN_J10 hka hkb h7a h7 (nI_pos hn) (nI_clamp hn) (Nat.le_refl _) (Nat.le_refl _) ⟨Nat.le_of_ble_eq_true rfl, Nat.le_of_ble_eq_true rfl⟩ ?_
  exact g_vret (pc := 14) dX11_copy_14 rfl (Nat.le_refl _) (Nat.le_refl _)
theorem r_copy {V : Sm → Wd} (hV : VwC V) {S S1 : Sm} {a b n : Nat} (hka : K0 a = some (.inr (.int, n))) (hoa : ownC a = true) (hkb : K0 b = some (.inr (.int, n))) (hob : ownC b = true) (hn : n < 2 ^ 31) (h : sc S a b n = S1) : Runs 1 mX11_copy [.ref a, .ref b] (V S) none (V S1) 0 0 := by
  subst h
  rw [← hV.2.2.2.2.2.1 S a b n hoa hob]
  exact r_copy_w (hV.2.2.2.2.2.2.1 S a _ hka) (hV.2.2.2.2.2.2.1 S b _ hkb) (hV.1 a hoa) (hV.1 b hob) hn
