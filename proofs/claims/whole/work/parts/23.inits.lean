/-! ===== the constructors, over the worlds they are met with ===== -/
section IN
variable {M : Mt} {l : Launch} {Γ : Gm} {R : Room} {Q : QT} {cells slots pc : Nat} {ls : List (Option Value)} {st : List Value} {w : Wd}
theorem i_newa {ty : FieldType} {atype : ArrayType} {n : Int32} {N x : Nat} (hd : decode M.2.1 pc = .ok (.newarray atype, 2)) (hx : gN w = x) (hty : newarray.typeOf atype = ty) (t : Nat) (ht : ∀ tc : FieldType → ClassId, (tyl tc)[t]? = some (tc ty, ty)) (hft : ftI ty = true ∨ ftR ty = true ∨ ty = .long) (hnm : ∀ (U : State) (cA : ClassId), va_RA U cA ty → U.vm.findClass ("[" ++ ty.toString) = some cA) (hw : Cond.arrayClass ty ∈ WS) (hn : ¬ n < 0) (hN : n.toNatClampNeg = N) (hb : N * componentBytes ty ≤ 536870912) (hc : cells + 1 ≤ R.cells) (hs : slots + N ≤ R.slots)
    (kk : G M l Γ R Q (cells + 1) (slots + N) (pc + 2) ls (.ref x :: st) (sN w (.inr (ty, N)))) : G M l Γ R Q cells slots pc ls (.int n :: st) w :=
  gw_newa hd hty t ht hft hnm hw hn hN hb hc hs (by rw [hx]; exact kk)
theorem i_new {ci idx x : Nat} {q : vw_C} (hd : decode M.2.1 pc = .ok (.new idx, 3)) (hx : gN w = x) (hq : vwCl[ci]? = some q) (hin : ∀ w ∈ u_ws q.1 q.2.1 q.2.2, w ∈ WS) (hty : ∀ j, j < q.2.2 → parseFieldDescriptor (q.2.1 j).2.2.1 = some (cty ci j)) (hft : ∀ j, j < q.2.2 → ftI (cty ci j) = true ∨ ftR (cty ci j) = true ∨ cty ci j = .long) (hcl : Cond.classLink M.1.cls idx q.1 ∈ WS) (hi : Cond.instantiable q.1 q.2.2 ∈ WS) (hini : Cond.initialized q.1 ∈ WS) (hc : cells + 1 ≤ R.cells) (hs : slots + q.2.2 ≤ R.slots)
    (kk : G M l Γ R Q (cells + 1) (slots + q.2.2) (pc + 3) ls (.ref x :: st) (sN w (.inl ci))) : G M l Γ R Q cells slots pc ls st w :=
  gw_new hd hq hin hty hft hcl hi hini hc hs (by rw [hx]; exact kk)
theorem i_anew {idx x : Nat} {n : Int32} {N : Nat} (hd : decode M.2.1 pc = .ok (.anewarray idx, 3)) (hx : gN w = x) (hcl : Cond.classLink M.1.cls idx "DarkLamps$Moment" ∈ WS) (hn : ¬ n < 0) (hN : n.toNatClampNeg = N) (hb : N * 4 ≤ 536870912) (hc : cells + 1 ≤ R.cells) (hs : slots + N ≤ R.slots)
    (kk : G M l Γ R Q (cells + 1) (slots + N) (pc + 3) ls (.ref x :: st) (sN w (.inr (.object "DarkLamps$Moment", N)))) : G M l Γ R Q cells slots pc ls (.int n :: st) w :=
  gw_anew hd hcl hn hN hb hc hs (by rw [hx]; exact kk)
end IN
def stK : Nat → Option Kd
  | 0 => some (.inr (.char, 4))
  | 1 => some (.inr (.int, 5))
  | 2 => some (.inr (.int, 16))
  | 3 => some (.inr (.int, 16))
  | 4 => some (.inr (.int, 16))
  | 5 => some (.inr (.int, 16))
  | _ => none
/-- the world at the law's entry: the six static arrays, the script -/
def w0 (L : Nat) (xs : Nat → Int32) : Wd := (fun i j => if i < 6 then cst i j else if i = 6 then xs j else 0, fun _ _ => 0, fun _ _ => none, fun i => if i < 6 then stK i else if i = 6 then some (.inr (.int, L)) else none, 7)
def u7 (L : Nat) (xs : Nat → Int32) : Wd := sN (w0 L xs) (.inl 11)
def u8 (L : Nat) (xs : Nat → Int32) : Wd := (fun w => sN (w) (.inl 9)) (u7 L xs)
def n8 (w : Wd) : Wd := sI (sI (sI (sR (sN (w) (.inr (.int, 240))) 8 0 (some 9)) 8 1 0) 8 2 0) 8 3 (-1)
set_option maxRecDepth 20000 in
theorem ri_8 {L : Nat} {xs : Nat → Int32} : Runs 1 mX9_init [.ref 8] (u8 L xs) none (n8 (u8 L xs)) 1 240 := by
  refine Runs.of2 [some (.ref 8)] 0 rfl rfl (Nat.le_of_ble_eq_true rfl) (fun l Γ => ?_)
  refine g_aload_n (pc := 0) dX9_init_0 rfl ?_
  refine g_objI (pc := 1) dX9_init_1 mK_X9_3 iM_objI cO_objI ⟨(Nat.le_of_ble_eq_true rfl), (Nat.le_of_ble_eq_true rfl)⟩ ?_
  refine g_aload_n (pc := 4) dX9_init_4 rfl ?_
  refine g_sipush (v := 240) (pc := 5) dX9_init_5 (by decide) ?_
  refine i_newa (x := 9) (N := 240) (pc := 8) dX9_init_8 rfl rfl 0 (fun _ => rfl) (Or.inl rfl) (fun _ _ h => h) aC_int (by decide) (by decide) (by decide) (Nat.le_of_ble_eq_true rfl) (Nat.le_of_ble_eq_true rfl) ?_
  refine gw_putR (pc := 10) dX9_init_10 fo_9_0 rfl rfl (by decide) (Or.inr rfl) ?_
  refine g_aload_n (pc := 13) dX9_init_13 rfl ?_
  refine g_iconst (v := 0) (pc := 14) dX9_init_14 (by decide) ?_
  refine gw_putI (pc := 15) dX9_init_15 fo_9_1 rfl rfl (by decide) (Or.inr rfl) rfl rfl ?_
  refine g_aload_n (pc := 18) dX9_init_18 rfl ?_
  refine g_iconst (v := 0) (pc := 19) dX9_init_19 (by decide) ?_
  refine gw_putI (pc := 20) dX9_init_20 fo_9_2 rfl rfl (by decide) (Or.inr rfl) rfl rfl ?_
  refine g_aload_n (pc := 23) dX9_init_23 rfl ?_
  refine g_iconst (v := (-1)) (pc := 24) dX9_init_24 (by decide) ?_
  refine gw_putI (pc := 25) dX9_init_25 fo_9_3 rfl rfl (by decide) (Or.inr rfl) rfl rfl ?_
  exact g_vret (pc := 28) dX9_init_28 rfl (Nat.le_of_ble_eq_true rfl) (Nat.le_of_ble_eq_true rfl)
def u10 (L : Nat) (xs : Nat → Int32) : Wd := (fun w => sN (sR (n8 (sN (w) (.inl 9))) 7 0 (some 8)) (.inl 5)) (u7 L xs)
def n10 (w : Wd) : Wd := sR (sN (sR (sN (sR (sN (w) (.inr (.int, 116))) 10 0 (some 11)) (.inr (.int, 4))) 10 1 (some 12)) (.inr (.int, 40))) 10 2 (some 13)
set_option maxRecDepth 20000 in
theorem ri_10 {L : Nat} {xs : Nat → Int32} : Runs 1 mX5_init [.ref 10] (u10 L xs) none (n10 (u10 L xs)) 3 160 := by
  refine Runs.of2 [some (.ref 10)] 0 rfl rfl (Nat.le_of_ble_eq_true rfl) (fun l Γ => ?_)
  refine g_aload_n (pc := 0) dX5_init_0 rfl ?_
  refine g_objI (pc := 1) dX5_init_1 mK_X5_3 iM_objI cO_objI ⟨(Nat.le_of_ble_eq_true rfl), (Nat.le_of_ble_eq_true rfl)⟩ ?_
  refine g_aload_n (pc := 4) dX5_init_4 rfl ?_
  refine g_bipush (v := 116) (pc := 5) dX5_init_5 (by decide) ?_
  refine i_newa (x := 11) (N := 116) (pc := 7) dX5_init_7 rfl rfl 0 (fun _ => rfl) (Or.inl rfl) (fun _ _ h => h) aC_int (by decide) (by decide) (by decide) (Nat.le_of_ble_eq_true rfl) (Nat.le_of_ble_eq_true rfl) ?_
  refine gw_putR (pc := 9) dX5_init_9 fo_5_0 rfl rfl (by decide) (Or.inr rfl) ?_
  refine g_aload_n (pc := 12) dX5_init_12 rfl ?_
  refine g_iconst (v := 4) (pc := 13) dX5_init_13 (by decide) ?_
  refine i_newa (x := 12) (N := 4) (pc := 14) dX5_init_14 rfl rfl 0 (fun _ => rfl) (Or.inl rfl) (fun _ _ h => h) aC_int (by decide) (by decide) (by decide) (Nat.le_of_ble_eq_true rfl) (Nat.le_of_ble_eq_true rfl) ?_
  refine gw_putR (pc := 16) dX5_init_16 fo_5_1 rfl rfl (by decide) (Or.inr rfl) ?_
  refine g_aload_n (pc := 19) dX5_init_19 rfl ?_
  refine g_bipush (v := 40) (pc := 20) dX5_init_20 (by decide) ?_
  refine i_newa (x := 13) (N := 40) (pc := 22) dX5_init_22 rfl rfl 0 (fun _ => rfl) (Or.inl rfl) (fun _ _ h => h) aC_int (by decide) (by decide) (by decide) (Nat.le_of_ble_eq_true rfl) (Nat.le_of_ble_eq_true rfl) ?_
  refine gw_putR (pc := 24) dX5_init_24 fo_5_2 rfl rfl (by decide) (Or.inr rfl) ?_
  exact g_vret (pc := 27) dX5_init_27 rfl (Nat.le_of_ble_eq_true rfl) (Nat.le_of_ble_eq_true rfl)
def u14 (L : Nat) (xs : Nat → Int32) : Wd := (fun w => sN (sR (n10 (sN (sR (n8 (sN (w) (.inl 9))) 7 0 (some 8)) (.inl 5))) 7 1 (some 10)) (.inl 5)) (u7 L xs)
def n14 (w : Wd) : Wd := sR (sN (sR (sN (sR (sN (w) (.inr (.int, 116))) 14 0 (some 15)) (.inr (.int, 4))) 14 1 (some 16)) (.inr (.int, 40))) 14 2 (some 17)
set_option maxRecDepth 20000 in
theorem ri_14 {L : Nat} {xs : Nat → Int32} : Runs 1 mX5_init [.ref 14] (u14 L xs) none (n14 (u14 L xs)) 3 160 := by
  refine Runs.of2 [some (.ref 14)] 0 rfl rfl (Nat.le_of_ble_eq_true rfl) (fun l Γ => ?_)
  refine g_aload_n (pc := 0) dX5_init_0 rfl ?_
  refine g_objI (pc := 1) dX5_init_1 mK_X5_3 iM_objI cO_objI ⟨(Nat.le_of_ble_eq_true rfl), (Nat.le_of_ble_eq_true rfl)⟩ ?_
  refine g_aload_n (pc := 4) dX5_init_4 rfl ?_
  refine g_bipush (v := 116) (pc := 5) dX5_init_5 (by decide) ?_
  refine i_newa (x := 15) (N := 116) (pc := 7) dX5_init_7 rfl rfl 0 (fun _ => rfl) (Or.inl rfl) (fun _ _ h => h) aC_int (by decide) (by decide) (by decide) (Nat.le_of_ble_eq_true rfl) (Nat.le_of_ble_eq_true rfl) ?_
  refine gw_putR (pc := 9) dX5_init_9 fo_5_0 rfl rfl (by decide) (Or.inr rfl) ?_
  refine g_aload_n (pc := 12) dX5_init_12 rfl ?_
  refine g_iconst (v := 4) (pc := 13) dX5_init_13 (by decide) ?_
  refine i_newa (x := 16) (N := 4) (pc := 14) dX5_init_14 rfl rfl 0 (fun _ => rfl) (Or.inl rfl) (fun _ _ h => h) aC_int (by decide) (by decide) (by decide) (Nat.le_of_ble_eq_true rfl) (Nat.le_of_ble_eq_true rfl) ?_
  refine gw_putR (pc := 16) dX5_init_16 fo_5_1 rfl rfl (by decide) (Or.inr rfl) ?_
  refine g_aload_n (pc := 19) dX5_init_19 rfl ?_
  refine g_bipush (v := 40) (pc := 20) dX5_init_20 (by decide) ?_
  refine i_newa (x := 17) (N := 40) (pc := 22) dX5_init_22 rfl rfl 0 (fun _ => rfl) (Or.inl rfl) (fun _ _ h => h) aC_int (by decide) (by decide) (by decide) (Nat.le_of_ble_eq_true rfl) (Nat.le_of_ble_eq_true rfl) ?_
  refine gw_putR (pc := 24) dX5_init_24 fo_5_2 rfl rfl (by decide) (Or.inr rfl) ?_
  exact g_vret (pc := 27) dX5_init_27 rfl (Nat.le_of_ble_eq_true rfl) (Nat.le_of_ble_eq_true rfl)
def u18 (L : Nat) (xs : Nat → Int32) : Wd := (fun w => sN (sR (n14 (sN (sR (n10 (sN (sR (n8 (sN (w) (.inl 9))) 7 0 (some 8)) (.inl 5))) 7 1 (some 10)) (.inl 5))) 7 2 (some 14)) (.inl 6)) (u7 L xs)
def n18 (w : Wd) : Wd := sR (sR (sR (sN (w) (.inr (.int, 4))) 18 2 (some 19)) 18 0 (some 8)) 18 1 (some 14)
set_option maxRecDepth 20000 in
theorem ri_18 {L : Nat} {xs : Nat → Int32} : Runs 1 mX6_init [.ref 18, .ref 8, .ref 14] (u18 L xs) none (n18 (u18 L xs)) 1 4 := by
  refine Runs.of2 [some (.ref 18), some (.ref 8), some (.ref 14)] 0 rfl rfl (Nat.le_of_ble_eq_true rfl) (fun l Γ => ?_)
  refine g_aload_n (pc := 0) dX6_init_0 rfl ?_
  refine g_objI (pc := 1) dX6_init_1 mK_X6_3 iM_objI cO_objI ⟨(Nat.le_of_ble_eq_true rfl), (Nat.le_of_ble_eq_true rfl)⟩ ?_
  refine g_aload_n (pc := 4) dX6_init_4 rfl ?_
  refine g_iconst (v := 4) (pc := 5) dX6_init_5 (by decide) ?_
  refine i_newa (x := 19) (N := 4) (pc := 6) dX6_init_6 rfl rfl 0 (fun _ => rfl) (Or.inl rfl) (fun _ _ h => h) aC_int (by decide) (by decide) (by decide) (Nat.le_of_ble_eq_true rfl) (Nat.le_of_ble_eq_true rfl) ?_
  refine gw_putR (pc := 8) dX6_init_8 fo_6_2 rfl rfl (by decide) (Or.inr rfl) ?_
  refine g_aload_n (pc := 11) dX6_init_11 rfl ?_
  refine g_aload_n (pc := 12) dX6_init_12 rfl ?_
  refine gw_putR (pc := 13) dX6_init_13 fo_6_0 rfl rfl (by decide) (Or.inr rfl) ?_
  refine g_aload_n (pc := 16) dX6_init_16 rfl ?_
  refine g_aload_n (pc := 17) dX6_init_17 rfl ?_
  refine gw_putR (pc := 18) dX6_init_18 fo_6_1 rfl rfl (by decide) (Or.inr rfl) ?_
  exact g_vret (pc := 21) dX6_init_21 rfl (Nat.le_of_ble_eq_true rfl) (Nat.le_of_ble_eq_true rfl)
def u20 (L : Nat) (xs : Nat → Int32) : Wd := (fun w => sN (sR (n18 (sN (sR (n14 (sN (sR (n10 (sN (sR (n8 (sN (w) (.inl 9))) 7 0 (some 8)) (.inl 5))) 7 1 (some 10)) (.inl 5))) 7 2 (some 14)) (.inl 6))) 7 3 (some 18)) (.inl 3)) (u7 L xs)
def n20 (w : Wd) : Wd := sI (sI (sI (sR (sN (sR (sN (sR (sN (w) (.inr (.int, 1200))) 20 0 (some 21)) (.inr (.int, 5))) 20 1 (some 22)) (.inr (.int, 64))) 20 2 (some 23)) 20 3 0) 20 4 0) 20 5 (-1)
set_option maxRecDepth 20000 in
theorem ri_20 {L : Nat} {xs : Nat → Int32} : Runs 1 mX3_init [.ref 20] (u20 L xs) none (n20 (u20 L xs)) 3 1269 := by
  refine Runs.of2 [some (.ref 20)] 0 rfl rfl (Nat.le_of_ble_eq_true rfl) (fun l Γ => ?_)
  refine g_aload_n (pc := 0) dX3_init_0 rfl ?_
  refine g_objI (pc := 1) dX3_init_1 mK_X3_3 iM_objI cO_objI ⟨(Nat.le_of_ble_eq_true rfl), (Nat.le_of_ble_eq_true rfl)⟩ ?_
  refine g_aload_n (pc := 4) dX3_init_4 rfl ?_
  refine g_sipush (v := 1200) (pc := 5) dX3_init_5 (by decide) ?_
  refine i_newa (x := 21) (N := 1200) (pc := 8) dX3_init_8 rfl rfl 0 (fun _ => rfl) (Or.inl rfl) (fun _ _ h => h) aC_int (by decide) (by decide) (by decide) (Nat.le_of_ble_eq_true rfl) (Nat.le_of_ble_eq_true rfl) ?_
  refine gw_putR (pc := 10) dX3_init_10 fo_3_0 rfl rfl (by decide) (Or.inr rfl) ?_
  refine g_aload_n (pc := 13) dX3_init_13 rfl ?_
  refine g_iconst (v := 5) (pc := 14) dX3_init_14 (by decide) ?_
  refine i_newa (x := 22) (N := 5) (pc := 15) dX3_init_15 rfl rfl 0 (fun _ => rfl) (Or.inl rfl) (fun _ _ h => h) aC_int (by decide) (by decide) (by decide) (Nat.le_of_ble_eq_true rfl) (Nat.le_of_ble_eq_true rfl) ?_
  refine gw_putR (pc := 17) dX3_init_17 fo_3_1 rfl rfl (by decide) (Or.inr rfl) ?_
  refine g_aload_n (pc := 20) dX3_init_20 rfl ?_
  refine g_bipush (v := 64) (pc := 21) dX3_init_21 (by decide) ?_
  refine i_newa (x := 23) (N := 64) (pc := 23) dX3_init_23 rfl rfl 0 (fun _ => rfl) (Or.inl rfl) (fun _ _ h => h) aC_int (by decide) (by decide) (by decide) (Nat.le_of_ble_eq_true rfl) (Nat.le_of_ble_eq_true rfl) ?_
  refine gw_putR (pc := 25) dX3_init_25 fo_3_2 rfl rfl (by decide) (Or.inr rfl) ?_
  refine g_aload_n (pc := 28) dX3_init_28 rfl ?_
  refine g_iconst (v := 0) (pc := 29) dX3_init_29 (by decide) ?_
  refine gw_putI (pc := 30) dX3_init_30 fo_3_3 rfl rfl (by decide) (Or.inr rfl) rfl rfl ?_
  refine g_aload_n (pc := 33) dX3_init_33 rfl ?_
  refine g_iconst (v := 0) (pc := 34) dX3_init_34 (by decide) ?_
  refine gw_putI (pc := 35) dX3_init_35 fo_3_4 rfl rfl (by decide) (Or.inr rfl) rfl rfl ?_
  refine g_aload_n (pc := 38) dX3_init_38 rfl ?_
  refine g_iconst (v := (-1)) (pc := 39) dX3_init_39 (by decide) ?_
  refine gw_putI (pc := 40) dX3_init_40 fo_3_5 rfl rfl (by decide) (Or.inr rfl) rfl rfl ?_
  exact g_vret (pc := 43) dX3_init_43 rfl (Nat.le_of_ble_eq_true rfl) (Nat.le_of_ble_eq_true rfl)
def u24 (L : Nat) (xs : Nat → Int32) : Wd := (fun w => sN (sR (n20 (sN (sR (n18 (sN (sR (n14 (sN (sR (n10 (sN (sR (n8 (sN (w) (.inl 9))) 7 0 (some 8)) (.inl 5))) 7 1 (some 10)) (.inl 5))) 7 2 (some 14)) (.inl 6))) 7 3 (some 18)) (.inl 3))) 7 4 (some 20)) (.inl 2)) (u7 L xs)
def n24 (w : Wd) : Wd := sR (sR (w) 24 0 (some 8)) 24 1 (some 20)
set_option maxRecDepth 20000 in
theorem ri_24 {L : Nat} {xs : Nat → Int32} : Runs 1 mX2_init [.ref 24, .ref 8, .ref 20] (u24 L xs) none (n24 (u24 L xs)) 0 0 := by
  refine Runs.of2 [some (.ref 24), some (.ref 8), some (.ref 20)] 0 rfl rfl (Nat.le_of_ble_eq_true rfl) (fun l Γ => ?_)
  refine g_aload_n (pc := 0) dX2_init_0 rfl ?_
  refine g_objI (pc := 1) dX2_init_1 mK_X2_1 iM_objI cO_objI ⟨(Nat.le_of_ble_eq_true rfl), (Nat.le_of_ble_eq_true rfl)⟩ ?_
  refine g_aload_n (pc := 4) dX2_init_4 rfl ?_
  refine g_aload_n (pc := 5) dX2_init_5 rfl ?_
  refine gw_putR (pc := 6) dX2_init_6 fo_2_0 rfl rfl (by decide) (Or.inr rfl) ?_
  refine g_aload_n (pc := 9) dX2_init_9 rfl ?_
  refine g_aload_n (pc := 10) dX2_init_10 rfl ?_
  refine gw_putR (pc := 11) dX2_init_11 fo_2_1 rfl rfl (by decide) (Or.inr rfl) ?_
  exact g_vret (pc := 14) dX2_init_14 rfl (Nat.le_of_ble_eq_true rfl) (Nat.le_of_ble_eq_true rfl)
def u25 (L : Nat) (xs : Nat → Int32) : Wd := (fun w => sN (sR (n24 (sN (sR (n20 (sN (sR (n18 (sN (sR (n14 (sN (sR (n10 (sN (sR (n8 (sN (w) (.inl 9))) 7 0 (some 8)) (.inl 5))) 7 1 (some 10)) (.inl 5))) 7 2 (some 14)) (.inl 6))) 7 3 (some 18)) (.inl 3))) 7 4 (some 20)) (.inl 2))) 7 5 (some 24)) (.inl 4)) (u7 L xs)
def n25 (w : Wd) : Wd := sI (sI (sI (sI (sR (sN (sR (sN (sR (sN (sR (sN (w) (.inr (.int, 56))) 25 0 (some 26)) (.inr (.int, 40))) 25 1 (some 27)) (.inr (.int, 8))) 25 2 (some 28)) (.inr (.int, 60))) 25 3 (some 29)) 25 4 0) 25 5 0) 25 6 0) 25 7 0
set_option maxRecDepth 20000 in
theorem ri_25 {L : Nat} {xs : Nat → Int32} : Runs 1 mX4_init [.ref 25] (u25 L xs) none (n25 (u25 L xs)) 4 164 := by
  refine Runs.of2 [some (.ref 25)] 0 rfl rfl (Nat.le_of_ble_eq_true rfl) (fun l Γ => ?_)
  refine g_aload_n (pc := 0) dX4_init_0 rfl ?_
  refine g_objI (pc := 1) dX4_init_1 mK_X4_3 iM_objI cO_objI ⟨(Nat.le_of_ble_eq_true rfl), (Nat.le_of_ble_eq_true rfl)⟩ ?_
  refine g_aload_n (pc := 4) dX4_init_4 rfl ?_
  refine g_bipush (v := 56) (pc := 5) dX4_init_5 (by decide) ?_
  refine i_newa (x := 26) (N := 56) (pc := 7) dX4_init_7 rfl rfl 0 (fun _ => rfl) (Or.inl rfl) (fun _ _ h => h) aC_int (by decide) (by decide) (by decide) (Nat.le_of_ble_eq_true rfl) (Nat.le_of_ble_eq_true rfl) ?_
  refine gw_putR (pc := 9) dX4_init_9 fo_4_0 rfl rfl (by decide) (Or.inr rfl) ?_
  refine g_aload_n (pc := 12) dX4_init_12 rfl ?_
  refine g_bipush (v := 40) (pc := 13) dX4_init_13 (by decide) ?_
  refine i_newa (x := 27) (N := 40) (pc := 15) dX4_init_15 rfl rfl 0 (fun _ => rfl) (Or.inl rfl) (fun _ _ h => h) aC_int (by decide) (by decide) (by decide) (Nat.le_of_ble_eq_true rfl) (Nat.le_of_ble_eq_true rfl) ?_
  refine gw_putR (pc := 17) dX4_init_17 fo_4_1 rfl rfl (by decide) (Or.inr rfl) ?_
  refine g_aload_n (pc := 20) dX4_init_20 rfl ?_
  refine g_bipush (v := 8) (pc := 21) dX4_init_21 (by decide) ?_
  refine i_newa (x := 28) (N := 8) (pc := 23) dX4_init_23 rfl rfl 0 (fun _ => rfl) (Or.inl rfl) (fun _ _ h => h) aC_int (by decide) (by decide) (by decide) (Nat.le_of_ble_eq_true rfl) (Nat.le_of_ble_eq_true rfl) ?_
  refine gw_putR (pc := 25) dX4_init_25 fo_4_2 rfl rfl (by decide) (Or.inr rfl) ?_
  refine g_aload_n (pc := 28) dX4_init_28 rfl ?_
  refine g_bipush (v := 60) (pc := 29) dX4_init_29 (by decide) ?_
  refine i_newa (x := 29) (N := 60) (pc := 31) dX4_init_31 rfl rfl 0 (fun _ => rfl) (Or.inl rfl) (fun _ _ h => h) aC_int (by decide) (by decide) (by decide) (Nat.le_of_ble_eq_true rfl) (Nat.le_of_ble_eq_true rfl) ?_
  refine gw_putR (pc := 33) dX4_init_33 fo_4_3 rfl rfl (by decide) (Or.inr rfl) ?_
  refine g_aload_n (pc := 36) dX4_init_36 rfl ?_
  refine g_iconst (v := 0) (pc := 37) dX4_init_37 (by decide) ?_
  refine gw_putI (pc := 38) dX4_init_38 fo_4_4 rfl rfl (by decide) (Or.inr rfl) rfl rfl ?_
  refine g_aload_n (pc := 41) dX4_init_41 rfl ?_
  refine g_iconst (v := 0) (pc := 42) dX4_init_42 (by decide) ?_
  refine gw_putI (pc := 43) dX4_init_43 fo_4_5 rfl rfl (by decide) (Or.inr rfl) rfl rfl ?_
  refine g_aload_n (pc := 46) dX4_init_46 rfl ?_
  refine g_iconst (v := 0) (pc := 47) dX4_init_47 (by decide) ?_
  refine gw_putI (pc := 48) dX4_init_48 fo_4_6 rfl rfl (by decide) (Or.inr rfl) rfl rfl ?_
  refine g_aload_n (pc := 51) dX4_init_51 rfl ?_
  refine g_iconst (v := 0) (pc := 52) dX4_init_52 (by decide) ?_
  refine gw_putI (pc := 53) dX4_init_53 fo_4_7 rfl rfl (by decide) (Or.inr rfl) rfl rfl ?_
  exact g_vret (pc := 56) dX4_init_56 rfl (Nat.le_of_ble_eq_true rfl) (Nat.le_of_ble_eq_true rfl)
def u30 (L : Nat) (xs : Nat → Int32) : Wd := (fun w => sN (sR (n25 (sN (sR (n24 (sN (sR (n20 (sN (sR (n18 (sN (sR (n14 (sN (sR (n10 (sN (sR (n8 (sN (w) (.inl 9))) 7 0 (some 8)) (.inl 5))) 7 1 (some 10)) (.inl 5))) 7 2 (some 14)) (.inl 6))) 7 3 (some 18)) (.inl 3))) 7 4 (some 20)) (.inl 2))) 7 5 (some 24)) (.inl 4))) 7 6 (some 25)) (.inl 0)) (u7 L xs)
def u32 (L : Nat) (xs : Nat → Int32) : Wd := (fun w => sN (sR (sN (w) (.inr (.object "DarkLamps$Moment", 40))) 30 1 (some 31)) (.inl 4)) (u30 L xs)
def n32 (w : Wd) : Wd := sI (sI (sI (sI (sR (sN (sR (sN (sR (sN (sR (sN (w) (.inr (.int, 56))) 32 0 (some 33)) (.inr (.int, 40))) 32 1 (some 34)) (.inr (.int, 8))) 32 2 (some 35)) (.inr (.int, 60))) 32 3 (some 36)) 32 4 0) 32 5 0) 32 6 0) 32 7 0
set_option maxRecDepth 20000 in
theorem ri_32 {L : Nat} {xs : Nat → Int32} : Runs 1 mX4_init [.ref 32] (u32 L xs) none (n32 (u32 L xs)) 4 164 := by
  refine Runs.of2 [some (.ref 32)] 0 rfl rfl (Nat.le_of_ble_eq_true rfl) (fun l Γ => ?_)
  refine g_aload_n (pc := 0) dX4_init_0 rfl ?_
  refine g_objI (pc := 1) dX4_init_1 mK_X4_3 iM_objI cO_objI ⟨(Nat.le_of_ble_eq_true rfl), (Nat.le_of_ble_eq_true rfl)⟩ ?_
  refine g_aload_n (pc := 4) dX4_init_4 rfl ?_
  refine g_bipush (v := 56) (pc := 5) dX4_init_5 (by decide) ?_
  refine i_newa (x := 33) (N := 56) (pc := 7) dX4_init_7 rfl rfl 0 (fun _ => rfl) (Or.inl rfl) (fun _ _ h => h) aC_int (by decide) (by decide) (by decide) (Nat.le_of_ble_eq_true rfl) (Nat.le_of_ble_eq_true rfl) ?_
  refine gw_putR (pc := 9) dX4_init_9 fo_4_0 rfl rfl (by decide) (Or.inr rfl) ?_
  refine g_aload_n (pc := 12) dX4_init_12 rfl ?_
  refine g_bipush (v := 40) (pc := 13) dX4_init_13 (by decide) ?_
  refine i_newa (x := 34) (N := 40) (pc := 15) dX4_init_15 rfl rfl 0 (fun _ => rfl) (Or.inl rfl) (fun _ _ h => h) aC_int (by decide) (by decide) (by decide) (Nat.le_of_ble_eq_true rfl) (Nat.le_of_ble_eq_true rfl) ?_
  refine gw_putR (pc := 17) dX4_init_17 fo_4_1 rfl rfl (by decide) (Or.inr rfl) ?_
  refine g_aload_n (pc := 20) dX4_init_20 rfl ?_
  refine g_bipush (v := 8) (pc := 21) dX4_init_21 (by decide) ?_
  refine i_newa (x := 35) (N := 8) (pc := 23) dX4_init_23 rfl rfl 0 (fun _ => rfl) (Or.inl rfl) (fun _ _ h => h) aC_int (by decide) (by decide) (by decide) (Nat.le_of_ble_eq_true rfl) (Nat.le_of_ble_eq_true rfl) ?_
  refine gw_putR (pc := 25) dX4_init_25 fo_4_2 rfl rfl (by decide) (Or.inr rfl) ?_
  refine g_aload_n (pc := 28) dX4_init_28 rfl ?_
  refine g_bipush (v := 60) (pc := 29) dX4_init_29 (by decide) ?_
  refine i_newa (x := 36) (N := 60) (pc := 31) dX4_init_31 rfl rfl 0 (fun _ => rfl) (Or.inl rfl) (fun _ _ h => h) aC_int (by decide) (by decide) (by decide) (Nat.le_of_ble_eq_true rfl) (Nat.le_of_ble_eq_true rfl) ?_
  refine gw_putR (pc := 33) dX4_init_33 fo_4_3 rfl rfl (by decide) (Or.inr rfl) ?_
  refine g_aload_n (pc := 36) dX4_init_36 rfl ?_
  refine g_iconst (v := 0) (pc := 37) dX4_init_37 (by decide) ?_
  refine gw_putI (pc := 38) dX4_init_38 fo_4_4 rfl rfl (by decide) (Or.inr rfl) rfl rfl ?_
  refine g_aload_n (pc := 41) dX4_init_41 rfl ?_
  refine g_iconst (v := 0) (pc := 42) dX4_init_42 (by decide) ?_
  refine gw_putI (pc := 43) dX4_init_43 fo_4_5 rfl rfl (by decide) (Or.inr rfl) rfl rfl ?_
  refine g_aload_n (pc := 46) dX4_init_46 rfl ?_
  refine g_iconst (v := 0) (pc := 47) dX4_init_47 (by decide) ?_
  refine gw_putI (pc := 48) dX4_init_48 fo_4_6 rfl rfl (by decide) (Or.inr rfl) rfl rfl ?_
  refine g_aload_n (pc := 51) dX4_init_51 rfl ?_
  refine g_iconst (v := 0) (pc := 52) dX4_init_52 (by decide) ?_
  refine gw_putI (pc := 53) dX4_init_53 fo_4_7 rfl rfl (by decide) (Or.inr rfl) rfl rfl ?_
  exact g_vret (pc := 56) dX4_init_56 rfl (Nat.le_of_ble_eq_true rfl) (Nat.le_of_ble_eq_true rfl)
def n30 (w : Wd) : Wd := sR (sI (sI (sI (sR (n32 (sN (sR (sN (w) (.inr (.object "DarkLamps$Moment", 40))) 30 1 (some 31)) (.inl 4))) 30 2 (some 32)) 30 3 0) 30 4 0) 30 5 0) 30 0 (some 25)
set_option maxRecDepth 20000 in
theorem ri_30 {L : Nat} {xs : Nat → Int32} : Runs 2 mX0_init [.ref 30, .ref 25] (u30 L xs) none (n30 (u30 L xs)) 6 212 := by
  refine Runs.of2 [some (.ref 30), some (.ref 25)] 0 rfl rfl (Nat.le_of_ble_eq_true rfl) (fun l Γ => ?_)
  refine g_aload_n (pc := 0) dX0_init_0 rfl ?_
  refine g_objI (pc := 1) dX0_init_1 mK_X0_3 iM_objI cO_objI ⟨(Nat.le_of_ble_eq_true rfl), (Nat.le_of_ble_eq_true rfl)⟩ ?_
  refine g_aload_n (pc := 4) dX0_init_4 rfl ?_
  refine g_bipush (v := 40) (pc := 5) dX0_init_5 (by decide) ?_
  refine i_anew (x := 31) (N := 40) (pc := 7) dX0_init_7 rfl cK_X0_11 (by decide) (by decide) (by decide) (Nat.le_of_ble_eq_true rfl) (Nat.le_of_ble_eq_true rfl) ?_
  refine gw_putR (pc := 10) dX0_init_10 fo_0_1 rfl rfl (by decide) (Or.inr rfl) ?_
  refine g_aload_n (pc := 13) dX0_init_13 rfl ?_
  refine i_new (x := 32) (ci := 4) (q := (RX4, TX4, 8)) (pc := 14) dX0_init_14 rfl rfl inX4 tyX4_ok (by decide) cK_X0_11 iS_X4 iN_X4 (Nat.le_of_ble_eq_true rfl) (Nat.le_of_ble_eq_true rfl) ?_
  refine g_dup (pc := 17) dX0_init_17 rfl ?_
  refine g_callIN (mc1 := 4) (ms1 := 164) (D := 1) (Mc := mX4_init) (As := []) (rest := [.ref 32, .ref 30]) (b := 32) (pc := 18) dX0_init_18 nl_X0_17 mf_X4_init iM_X4_init rfl rfl rfl rfl (Nat.le_of_ble_eq_true rfl) ⟨(Nat.le_of_ble_eq_true rfl), (Nat.le_of_ble_eq_true rfl)⟩ ⟨(Nat.le_of_ble_eq_true rfl), (Nat.le_of_ble_eq_true rfl)⟩ (ri_32 (L := L) (xs := xs)) ?_
  refine gw_putR (pc := 21) dX0_init_21 fo_0_2 rfl rfl (by decide) (Or.inr rfl) ?_
  refine g_aload_n (pc := 24) dX0_init_24 rfl ?_
  refine g_iconst (v := 0) (pc := 25) dX0_init_25 (by decide) ?_
  refine gw_putI (pc := 26) dX0_init_26 fo_0_3 rfl rfl (by decide) (Or.inr rfl) rfl rfl ?_
  refine g_aload_n (pc := 29) dX0_init_29 rfl ?_
  refine g_iconst (v := 0) (pc := 30) dX0_init_30 (by decide) ?_
  refine gw_putI (pc := 31) dX0_init_31 fo_0_4 rfl rfl (by decide) (Or.inr rfl) rfl rfl ?_
  refine g_aload_n (pc := 34) dX0_init_34 rfl ?_
  refine g_iconst (v := 0) (pc := 35) dX0_init_35 (by decide) ?_
  refine gw_putI (pc := 36) dX0_init_36 fo_0_5 rfl rfl (by decide) (Or.inr rfl) rfl rfl ?_
  refine g_aload_n (pc := 39) dX0_init_39 rfl ?_
  refine g_aload_n (pc := 40) dX0_init_40 rfl ?_
  refine gw_putR (pc := 41) dX0_init_41 fo_0_0 rfl rfl (by decide) (Or.inr rfl) ?_
  exact g_vret (pc := 44) dX0_init_44 rfl (Nat.le_of_ble_eq_true rfl) (Nat.le_of_ble_eq_true rfl)
def u37 (L : Nat) (xs : Nat → Int32) : Wd := (fun w => sN (sR (n30 (sN (sR (n25 (sN (sR (n24 (sN (sR (n20 (sN (sR (n18 (sN (sR (n14 (sN (sR (n10 (sN (sR (n8 (sN (w) (.inl 9))) 7 0 (some 8)) (.inl 5))) 7 1 (some 10)) (.inl 5))) 7 2 (some 14)) (.inl 6))) 7 3 (some 18)) (.inl 3))) 7 4 (some 20)) (.inl 2))) 7 5 (some 24)) (.inl 4))) 7 6 (some 25)) (.inl 0))) 7 7 (some 30)) (.inl 10)) (u7 L xs)
def n37 (w : Wd) : Wd := sR (sR (sR (sR (sN (sR (sN (w) (.inr (.int, 8))) 37 3 (some 38)) (.inr (.int, 8))) 37 4 (some 39)) 37 0 (some 10)) 37 1 (some 20)) 37 2 (some 25)
set_option maxRecDepth 20000 in
theorem ri_37 {L : Nat} {xs : Nat → Int32} : Runs 1 mX10_init [.ref 37, .ref 10, .ref 20, .ref 25] (u37 L xs) none (n37 (u37 L xs)) 2 16 := by
  refine Runs.of2 [some (.ref 37), some (.ref 10), some (.ref 20), some (.ref 25)] 0 rfl rfl (Nat.le_of_ble_eq_true rfl) (fun l Γ => ?_)
  refine g_aload_n (pc := 0) dX10_init_0 rfl ?_
  refine g_objI (pc := 1) dX10_init_1 mK_X10_3 iM_objI cO_objI ⟨(Nat.le_of_ble_eq_true rfl), (Nat.le_of_ble_eq_true rfl)⟩ ?_
  refine g_aload_n (pc := 4) dX10_init_4 rfl ?_
  refine g_bipush (v := 8) (pc := 5) dX10_init_5 (by decide) ?_
  refine i_newa (x := 38) (N := 8) (pc := 7) dX10_init_7 rfl rfl 0 (fun _ => rfl) (Or.inl rfl) (fun _ _ h => h) aC_int (by decide) (by decide) (by decide) (Nat.le_of_ble_eq_true rfl) (Nat.le_of_ble_eq_true rfl) ?_
  refine gw_putR (pc := 9) dX10_init_9 fo_10_3 rfl rfl (by decide) (Or.inr rfl) ?_
  refine g_aload_n (pc := 12) dX10_init_12 rfl ?_
  refine g_bipush (v := 8) (pc := 13) dX10_init_13 (by decide) ?_
  refine i_newa (x := 39) (N := 8) (pc := 15) dX10_init_15 rfl rfl 0 (fun _ => rfl) (Or.inl rfl) (fun _ _ h => h) aC_int (by decide) (by decide) (by decide) (Nat.le_of_ble_eq_true rfl) (Nat.le_of_ble_eq_true rfl) ?_
  refine gw_putR (pc := 17) dX10_init_17 fo_10_4 rfl rfl (by decide) (Or.inr rfl) ?_
  refine g_aload_n (pc := 20) dX10_init_20 rfl ?_
  refine g_aload_n (pc := 21) dX10_init_21 rfl ?_
  refine gw_putR (pc := 22) dX10_init_22 fo_10_0 rfl rfl (by decide) (Or.inr rfl) ?_
  refine g_aload_n (pc := 25) dX10_init_25 rfl ?_
  refine g_aload_n (pc := 26) dX10_init_26 rfl ?_
  refine gw_putR (pc := 27) dX10_init_27 fo_10_1 rfl rfl (by decide) (Or.inr rfl) ?_
  refine g_aload_n (pc := 30) dX10_init_30 rfl ?_
  refine g_aload_n (pc := 31) dX10_init_31 rfl ?_
  refine gw_putR (pc := 32) dX10_init_32 fo_10_2 rfl rfl (by decide) (Or.inr rfl) ?_
  exact g_vret (pc := 35) dX10_init_35 rfl (Nat.le_of_ble_eq_true rfl) (Nat.le_of_ble_eq_true rfl)
def u40 (L : Nat) (xs : Nat → Int32) : Wd := (fun w => sN (sR (n37 (sN (sR (n30 (sN (sR (n25 (sN (sR (n24 (sN (sR (n20 (sN (sR (n18 (sN (sR (n14 (sN (sR (n10 (sN (sR (n8 (sN (w) (.inl 9))) 7 0 (some 8)) (.inl 5))) 7 1 (some 10)) (.inl 5))) 7 2 (some 14)) (.inl 6))) 7 3 (some 18)) (.inl 3))) 7 4 (some 20)) (.inl 2))) 7 5 (some 24)) (.inl 4))) 7 6 (some 25)) (.inl 0))) 7 7 (some 30)) (.inl 10))) 7 8 (some 37)) (.inl 1)) (u7 L xs)
def n40 (w : Wd) : Wd := sR (sR (sR (sR (sL (sI (sR (sN (w) (.inr (.int, 8))) 40 4 (some 41)) 40 5 0) 40 6 0) 40 0 (some 10)) 40 1 (some 25)) 40 2 (some 30)) 40 3 (some 37)
set_option maxRecDepth 20000 in
theorem ri_40 {L : Nat} {xs : Nat → Int32} : Runs 1 mX1_init [.ref 40, .ref 10, .ref 25, .ref 30, .ref 37] (u40 L xs) none (n40 (u40 L xs)) 1 8 := by
  refine Runs.of2 [some (.ref 40), some (.ref 10), some (.ref 25), some (.ref 30), some (.ref 37)] 0 rfl rfl (Nat.le_of_ble_eq_true rfl) (fun l Γ => ?_)
  refine g_aload_n (pc := 0) dX1_init_0 rfl ?_
  refine g_objI (pc := 1) dX1_init_1 mK_X1_3 iM_objI cO_objI ⟨(Nat.le_of_ble_eq_true rfl), (Nat.le_of_ble_eq_true rfl)⟩ ?_
  refine g_aload_n (pc := 4) dX1_init_4 rfl ?_
  refine g_bipush (v := 8) (pc := 5) dX1_init_5 (by decide) ?_
  refine i_newa (x := 41) (N := 8) (pc := 7) dX1_init_7 rfl rfl 0 (fun _ => rfl) (Or.inl rfl) (fun _ _ h => h) aC_int (by decide) (by decide) (by decide) (Nat.le_of_ble_eq_true rfl) (Nat.le_of_ble_eq_true rfl) ?_
  refine gw_putR (pc := 9) dX1_init_9 fo_1_4 rfl rfl (by decide) (Or.inr rfl) ?_
  refine g_aload_n (pc := 12) dX1_init_12 rfl ?_
  refine g_iconst (v := 0) (pc := 13) dX1_init_13 (by decide) ?_
  refine gw_putI (pc := 14) dX1_init_14 fo_1_5 rfl rfl (by decide) (Or.inr rfl) rfl rfl ?_
  refine g_aload_n (pc := 17) dX1_init_17 rfl ?_
  refine g_lconst (v := 0) (pc := 18) dX1_init_18 (by decide) ?_
  refine gw_putL (pc := 19) dX1_init_19 fo_1_6 rfl rfl (by decide) (Or.inr rfl) ?_
  refine g_aload_n (pc := 22) dX1_init_22 rfl ?_
  refine g_aload_n (pc := 23) dX1_init_23 rfl ?_
  refine gw_putR (pc := 24) dX1_init_24 fo_1_0 rfl rfl (by decide) (Or.inr rfl) ?_
  refine g_aload_n (pc := 27) dX1_init_27 rfl ?_
  refine g_aload_n (pc := 28) dX1_init_28 rfl ?_
  refine gw_putR (pc := 29) dX1_init_29 fo_1_1 rfl rfl (by decide) (Or.inr rfl) ?_
  refine g_aload_n (pc := 32) dX1_init_32 rfl ?_
  refine g_aload_n (pc := 33) dX1_init_33 rfl ?_
  refine gw_putR (pc := 34) dX1_init_34 fo_1_2 rfl rfl (by decide) (Or.inr rfl) ?_
  refine g_aload_n (pc := 37) dX1_init_37 rfl ?_
  refine g_aload (pc := 38) dX1_init_38 rfl ?_
  refine gw_putR (pc := 40) dX1_init_40 fo_1_3 rfl rfl (by decide) (Or.inr rfl) ?_
  exact g_vret (pc := 43) dX1_init_43 rfl (Nat.le_of_ble_eq_true rfl) (Nat.le_of_ble_eq_true rfl)
def u42 (L : Nat) (xs : Nat → Int32) : Wd := (fun w => sN (sR (n40 (sN (sR (n37 (sN (sR (n30 (sN (sR (n25 (sN (sR (n24 (sN (sR (n20 (sN (sR (n18 (sN (sR (n14 (sN (sR (n10 (sN (sR (n8 (sN (w) (.inl 9))) 7 0 (some 8)) (.inl 5))) 7 1 (some 10)) (.inl 5))) 7 2 (some 14)) (.inl 6))) 7 3 (some 18)) (.inl 3))) 7 4 (some 20)) (.inl 2))) 7 5 (some 24)) (.inl 4))) 7 6 (some 25)) (.inl 0))) 7 7 (some 30)) (.inl 10))) 7 8 (some 37)) (.inl 1))) 7 9 (some 40)) (.inl 8)) (u7 L xs)
def n42 (w : Wd) : Wd := sR (sR (sI (sI (sR (sN (sR (sN (sR (sN (sR (sN (w) (.inr (.int, 40))) 42 2 (some 43)) (.inr (.int, 4))) 42 3 (some 44)) (.inr (.int, 40))) 42 4 (some 45)) (.inr (.int, 32))) 42 5 (some 46)) 42 6 0) 42 7 0) 42 0 (some 10)) 42 1 (some 25)
set_option maxRecDepth 20000 in
theorem ri_42 {L : Nat} {xs : Nat → Int32} : Runs 1 mX8_init [.ref 42, .ref 10, .ref 25] (u42 L xs) none (n42 (u42 L xs)) 4 116 := by
  refine Runs.of2 [some (.ref 42), some (.ref 10), some (.ref 25)] 0 rfl rfl (Nat.le_of_ble_eq_true rfl) (fun l Γ => ?_)
  refine g_aload_n (pc := 0) dX8_init_0 rfl ?_
  refine g_objI (pc := 1) dX8_init_1 mK_X8_3 iM_objI cO_objI ⟨(Nat.le_of_ble_eq_true rfl), (Nat.le_of_ble_eq_true rfl)⟩ ?_
  refine g_aload_n (pc := 4) dX8_init_4 rfl ?_
  refine g_bipush (v := 40) (pc := 5) dX8_init_5 (by decide) ?_
  refine i_newa (x := 43) (N := 40) (pc := 7) dX8_init_7 rfl rfl 0 (fun _ => rfl) (Or.inl rfl) (fun _ _ h => h) aC_int (by decide) (by decide) (by decide) (Nat.le_of_ble_eq_true rfl) (Nat.le_of_ble_eq_true rfl) ?_
  refine gw_putR (pc := 9) dX8_init_9 fo_8_2 rfl rfl (by decide) (Or.inr rfl) ?_
  refine g_aload_n (pc := 12) dX8_init_12 rfl ?_
  refine g_iconst (v := 4) (pc := 13) dX8_init_13 (by decide) ?_
  refine i_newa (x := 44) (N := 4) (pc := 14) dX8_init_14 rfl rfl 0 (fun _ => rfl) (Or.inl rfl) (fun _ _ h => h) aC_int (by decide) (by decide) (by decide) (Nat.le_of_ble_eq_true rfl) (Nat.le_of_ble_eq_true rfl) ?_
  refine gw_putR (pc := 16) dX8_init_16 fo_8_3 rfl rfl (by decide) (Or.inr rfl) ?_
  refine g_aload_n (pc := 19) dX8_init_19 rfl ?_
  refine g_bipush (v := 40) (pc := 20) dX8_init_20 (by decide) ?_
  refine i_newa (x := 45) (N := 40) (pc := 22) dX8_init_22 rfl rfl 0 (fun _ => rfl) (Or.inl rfl) (fun _ _ h => h) aC_int (by decide) (by decide) (by decide) (Nat.le_of_ble_eq_true rfl) (Nat.le_of_ble_eq_true rfl) ?_
  refine gw_putR (pc := 24) dX8_init_24 fo_8_4 rfl rfl (by decide) (Or.inr rfl) ?_
  refine g_aload_n (pc := 27) dX8_init_27 rfl ?_
  refine g_bipush (v := 32) (pc := 28) dX8_init_28 (by decide) ?_
  refine i_newa (x := 46) (N := 32) (pc := 30) dX8_init_30 rfl rfl 0 (fun _ => rfl) (Or.inl rfl) (fun _ _ h => h) aC_int (by decide) (by decide) (by decide) (Nat.le_of_ble_eq_true rfl) (Nat.le_of_ble_eq_true rfl) ?_
  refine gw_putR (pc := 32) dX8_init_32 fo_8_5 rfl rfl (by decide) (Or.inr rfl) ?_
  refine g_aload_n (pc := 35) dX8_init_35 rfl ?_
  refine g_iconst (v := 0) (pc := 36) dX8_init_36 (by decide) ?_
  refine gw_putI (pc := 37) dX8_init_37 fo_8_6 rfl rfl (by decide) (Or.inr rfl) rfl rfl ?_
  refine g_aload_n (pc := 40) dX8_init_40 rfl ?_
  refine g_iconst (v := 0) (pc := 41) dX8_init_41 (by decide) ?_
  refine gw_putI (pc := 42) dX8_init_42 fo_8_7 rfl rfl (by decide) (Or.inr rfl) rfl rfl ?_
  refine g_aload_n (pc := 45) dX8_init_45 rfl ?_
  refine g_aload_n (pc := 46) dX8_init_46 rfl ?_
  refine gw_putR (pc := 47) dX8_init_47 fo_8_0 rfl rfl (by decide) (Or.inr rfl) ?_
  refine g_aload_n (pc := 50) dX8_init_50 rfl ?_
  refine g_aload_n (pc := 51) dX8_init_51 rfl ?_
  refine gw_putR (pc := 52) dX8_init_52 fo_8_1 rfl rfl (by decide) (Or.inr rfl) ?_
  exact g_vret (pc := 55) dX8_init_55 rfl (Nat.le_of_ble_eq_true rfl) (Nat.le_of_ble_eq_true rfl)
def u47 (L : Nat) (xs : Nat → Int32) : Wd := (fun w => sN (sR (n42 (sN (sR (n40 (sN (sR (n37 (sN (sR (n30 (sN (sR (n25 (sN (sR (n24 (sN (sR (n20 (sN (sR (n18 (sN (sR (n14 (sN (sR (n10 (sN (sR (n8 (sN (w) (.inl 9))) 7 0 (some 8)) (.inl 5))) 7 1 (some 10)) (.inl 5))) 7 2 (some 14)) (.inl 6))) 7 3 (some 18)) (.inl 3))) 7 4 (some 20)) (.inl 2))) 7 5 (some 24)) (.inl 4))) 7 6 (some 25)) (.inl 0))) 7 7 (some 30)) (.inl 10))) 7 8 (some 37)) (.inl 1))) 7 9 (some 40)) (.inl 8))) 7 10 (some 42)) (.inl 7)) (u7 L xs)
def n47 (w : Wd) : Wd := sR (sR (sI (sI (sR (sN (sR (sN (sR (sN (sR (sN (sR (sN (w) (.inr (.int, 6))) 47 2 (some 48)) (.inr (.int, 18))) 47 3 (some 49)) (.inr (.int, 18))) 47 4 (some 50)) (.inr (.int, 36))) 47 5 (some 51)) (.inr (.int, 6))) 47 6 (some 52)) 47 7 1000) 47 8 (-1)) 47 0 (some 10)) 47 1 (some 37)
set_option maxRecDepth 20000 in
theorem ri_47 {L : Nat} {xs : Nat → Int32} : Runs 1 mX7_init [.ref 47, .ref 10, .ref 37] (u47 L xs) none (n47 (u47 L xs)) 5 84 := by
  refine Runs.of2 [some (.ref 47), some (.ref 10), some (.ref 37)] 0 rfl rfl (Nat.le_of_ble_eq_true rfl) (fun l Γ => ?_)
  refine g_aload_n (pc := 0) dX7_init_0 rfl ?_
  refine g_objI (pc := 1) dX7_init_1 mK_X7_3 iM_objI cO_objI ⟨(Nat.le_of_ble_eq_true rfl), (Nat.le_of_ble_eq_true rfl)⟩ ?_
  refine g_aload_n (pc := 4) dX7_init_4 rfl ?_
  refine g_bipush (v := 6) (pc := 5) dX7_init_5 (by decide) ?_
  refine i_newa (x := 48) (N := 6) (pc := 7) dX7_init_7 rfl rfl 0 (fun _ => rfl) (Or.inl rfl) (fun _ _ h => h) aC_int (by decide) (by decide) (by decide) (Nat.le_of_ble_eq_true rfl) (Nat.le_of_ble_eq_true rfl) ?_
  refine gw_putR (pc := 9) dX7_init_9 fo_7_2 rfl rfl (by decide) (Or.inr rfl) ?_
  refine g_aload_n (pc := 12) dX7_init_12 rfl ?_
  refine g_bipush (v := 18) (pc := 13) dX7_init_13 (by decide) ?_
  refine i_newa (x := 49) (N := 18) (pc := 15) dX7_init_15 rfl rfl 0 (fun _ => rfl) (Or.inl rfl) (fun _ _ h => h) aC_int (by decide) (by decide) (by decide) (Nat.le_of_ble_eq_true rfl) (Nat.le_of_ble_eq_true rfl) ?_
  refine gw_putR (pc := 17) dX7_init_17 fo_7_3 rfl rfl (by decide) (Or.inr rfl) ?_
  refine g_aload_n (pc := 20) dX7_init_20 rfl ?_
  refine g_bipush (v := 18) (pc := 21) dX7_init_21 (by decide) ?_
  refine i_newa (x := 50) (N := 18) (pc := 23) dX7_init_23 rfl rfl 0 (fun _ => rfl) (Or.inl rfl) (fun _ _ h => h) aC_int (by decide) (by decide) (by decide) (Nat.le_of_ble_eq_true rfl) (Nat.le_of_ble_eq_true rfl) ?_
  refine gw_putR (pc := 25) dX7_init_25 fo_7_4 rfl rfl (by decide) (Or.inr rfl) ?_
  refine g_aload_n (pc := 28) dX7_init_28 rfl ?_
  refine g_bipush (v := 36) (pc := 29) dX7_init_29 (by decide) ?_
  refine i_newa (x := 51) (N := 36) (pc := 31) dX7_init_31 rfl rfl 0 (fun _ => rfl) (Or.inl rfl) (fun _ _ h => h) aC_int (by decide) (by decide) (by decide) (Nat.le_of_ble_eq_true rfl) (Nat.le_of_ble_eq_true rfl) ?_
  refine gw_putR (pc := 33) dX7_init_33 fo_7_5 rfl rfl (by decide) (Or.inr rfl) ?_
  refine g_aload_n (pc := 36) dX7_init_36 rfl ?_
  refine g_bipush (v := 6) (pc := 37) dX7_init_37 (by decide) ?_
  refine i_newa (x := 52) (N := 6) (pc := 39) dX7_init_39 rfl rfl 0 (fun _ => rfl) (Or.inl rfl) (fun _ _ h => h) aC_int (by decide) (by decide) (by decide) (Nat.le_of_ble_eq_true rfl) (Nat.le_of_ble_eq_true rfl) ?_
  refine gw_putR (pc := 41) dX7_init_41 fo_7_6 rfl rfl (by decide) (Or.inr rfl) ?_
  refine g_aload_n (pc := 44) dX7_init_44 rfl ?_
  refine g_sipush (v := 1000) (pc := 45) dX7_init_45 (by decide) ?_
  refine gw_putI (pc := 48) dX7_init_48 fo_7_7 rfl rfl (by decide) (Or.inr rfl) rfl rfl ?_
  refine g_aload_n (pc := 51) dX7_init_51 rfl ?_
  refine g_iconst (v := (-1)) (pc := 52) dX7_init_52 (by decide) ?_
  refine gw_putI (pc := 53) dX7_init_53 fo_7_8 rfl rfl (by decide) (Or.inr rfl) rfl rfl ?_
  refine g_aload_n (pc := 56) dX7_init_56 rfl ?_
  refine g_aload_n (pc := 57) dX7_init_57 rfl ?_
  refine gw_putR (pc := 58) dX7_init_58 fo_7_0 rfl rfl (by decide) (Or.inr rfl) ?_
  refine g_aload_n (pc := 61) dX7_init_61 rfl ?_
  refine g_aload_n (pc := 62) dX7_init_62 rfl ?_
  refine gw_putR (pc := 63) dX7_init_63 fo_7_1 rfl rfl (by decide) (Or.inr rfl) ?_
  exact g_vret (pc := 66) dX7_init_66 rfl (Nat.le_of_ble_eq_true rfl) (Nat.le_of_ble_eq_true rfl)
def n7 (w : Wd) : Wd := sR (n47 (sN (sR (n42 (sN (sR (n40 (sN (sR (n37 (sN (sR (n30 (sN (sR (n25 (sN (sR (n24 (sN (sR (n20 (sN (sR (n18 (sN (sR (n14 (sN (sR (n10 (sN (sR (n8 (sN (w) (.inl 9))) 7 0 (some 8)) (.inl 5))) 7 1 (some 10)) (.inl 5))) 7 2 (some 14)) (.inl 6))) 7 3 (some 18)) (.inl 3))) 7 4 (some 20)) (.inl 2))) 7 5 (some 24)) (.inl 4))) 7 6 (some 25)) (.inl 0))) 7 7 (some 30)) (.inl 10))) 7 8 (some 37)) (.inl 1))) 7 9 (some 40)) (.inl 8))) 7 10 (some 42)) (.inl 7))) 7 11 (some 47)
set_option maxRecDepth 20000 in
theorem ri_7 {L : Nat} {xs : Nat → Int32} : Runs 3 mX11_init [.ref 7] (u7 L xs) none (n7 (u7 L xs)) 45 2497 := by
  refine Runs.of2 [some (.ref 7)] 0 rfl rfl (Nat.le_of_ble_eq_true rfl) (fun l Γ => ?_)
  refine g_aload_n (pc := 0) dX11_init_0 rfl ?_
  refine g_objI (pc := 1) dX11_init_1 mK_X11_1 iM_objI cO_objI ⟨(Nat.le_of_ble_eq_true rfl), (Nat.le_of_ble_eq_true rfl)⟩ ?_
  refine g_aload_n (pc := 4) dX11_init_4 rfl ?_
  refine i_new (x := 8) (ci := 9) (q := (RX9, TX9, 4)) (pc := 5) dX11_init_5 rfl rfl inX9 tyX9_ok (by decide) cK_X11_7 iS_X9 iN_X9 (Nat.le_of_ble_eq_true rfl) (Nat.le_of_ble_eq_true rfl) ?_
  refine g_dup (pc := 8) dX11_init_8 rfl ?_
  refine g_callIN (mc1 := 1) (ms1 := 240) (D := 1) (Mc := mX9_init) (As := []) (rest := [.ref 8, .ref 7]) (b := 8) (pc := 9) dX11_init_9 nl_X11_9 mf_X9_init iM_X9_init rfl rfl rfl rfl (Nat.le_of_ble_eq_true rfl) ⟨(Nat.le_of_ble_eq_true rfl), (Nat.le_of_ble_eq_true rfl)⟩ ⟨(Nat.le_of_ble_eq_true rfl), (Nat.le_of_ble_eq_true rfl)⟩ (ri_8 (L := L) (xs := xs)) ?_
  refine gw_putR (pc := 12) dX11_init_12 fo_11_0 rfl rfl (by decide) (Or.inr rfl) ?_
  refine g_aload_n (pc := 15) dX11_init_15 rfl ?_
  refine i_new (x := 10) (ci := 5) (q := (RX5, TX5, 3)) (pc := 16) dX11_init_16 rfl rfl inX5 tyX5_ok (by decide) cK_X11_16 iS_X5 iN_X5 (Nat.le_of_ble_eq_true rfl) (Nat.le_of_ble_eq_true rfl) ?_
  refine g_dup (pc := 19) dX11_init_19 rfl ?_
  refine g_callIN (mc1 := 3) (ms1 := 160) (D := 1) (Mc := mX5_init) (As := []) (rest := [.ref 10, .ref 7]) (b := 10) (pc := 20) dX11_init_20 nl_X11_18 mf_X5_init iM_X5_init rfl rfl rfl rfl (Nat.le_of_ble_eq_true rfl) ⟨(Nat.le_of_ble_eq_true rfl), (Nat.le_of_ble_eq_true rfl)⟩ ⟨(Nat.le_of_ble_eq_true rfl), (Nat.le_of_ble_eq_true rfl)⟩ (ri_10 (L := L) (xs := xs)) ?_
  refine gw_putR (pc := 23) dX11_init_23 fo_11_1 rfl rfl (by decide) (Or.inr rfl) ?_
  refine g_aload_n (pc := 26) dX11_init_26 rfl ?_
  refine i_new (x := 14) (ci := 5) (q := (RX5, TX5, 3)) (pc := 27) dX11_init_27 rfl rfl inX5 tyX5_ok (by decide) cK_X11_16 iS_X5 iN_X5 (Nat.le_of_ble_eq_true rfl) (Nat.le_of_ble_eq_true rfl) ?_
  refine g_dup (pc := 30) dX11_init_30 rfl ?_
  refine g_callIN (mc1 := 3) (ms1 := 160) (D := 1) (Mc := mX5_init) (As := []) (rest := [.ref 14, .ref 7]) (b := 14) (pc := 31) dX11_init_31 nl_X11_18 mf_X5_init iM_X5_init rfl rfl rfl rfl (Nat.le_of_ble_eq_true rfl) ⟨(Nat.le_of_ble_eq_true rfl), (Nat.le_of_ble_eq_true rfl)⟩ ⟨(Nat.le_of_ble_eq_true rfl), (Nat.le_of_ble_eq_true rfl)⟩ (ri_14 (L := L) (xs := xs)) ?_
  refine gw_putR (pc := 34) dX11_init_34 fo_11_2 rfl rfl (by decide) (Or.inr rfl) ?_
  refine g_aload_n (pc := 37) dX11_init_37 rfl ?_
  refine i_new (x := 18) (ci := 6) (q := (RX6, TX6, 3)) (pc := 38) dX11_init_38 rfl rfl inX6 tyX6_ok (by decide) cK_X11_26 iS_X6 iN_X6 (Nat.le_of_ble_eq_true rfl) (Nat.le_of_ble_eq_true rfl) ?_
  refine g_dup (pc := 41) dX11_init_41 rfl ?_
  refine g_aload_n (pc := 42) dX11_init_42 rfl ?_
  refine gw_getR (x := 8) (pc := 43) dX11_init_43 fo_11_0 rfl rfl rfl ?_
  refine g_aload_n (pc := 46) dX11_init_46 rfl ?_
  refine gw_getR (x := 14) (pc := 47) dX11_init_47 fo_11_2 rfl rfl rfl ?_
  refine g_callI (mc1 := 1) (ms1 := 4) (D := 1) (Mc := mX6_init) (As := [.ref 8, .ref 14]) (rest := [.ref 18, .ref 7]) (b := 18) (pc := 50) dX11_init_50 mK_X11_28 mf_X6_init iM_X6_init rfl rfl rfl rfl (Nat.le_of_ble_eq_true rfl) ⟨(Nat.le_of_ble_eq_true rfl), (Nat.le_of_ble_eq_true rfl)⟩ ⟨(Nat.le_of_ble_eq_true rfl), (Nat.le_of_ble_eq_true rfl)⟩ (ri_18 (L := L) (xs := xs)) ?_
  refine gw_putR (pc := 53) dX11_init_53 fo_11_3 rfl rfl (by decide) (Or.inr rfl) ?_
  refine g_aload_n (pc := 56) dX11_init_56 rfl ?_
  refine i_new (x := 20) (ci := 3) (q := (RX3, TX3, 6)) (pc := 57) dX11_init_57 rfl rfl inX3 tyX3_ok (by decide) cK_X11_35 iS_X3 iN_X3 (Nat.le_of_ble_eq_true rfl) (Nat.le_of_ble_eq_true rfl) ?_
  refine g_dup (pc := 60) dX11_init_60 rfl ?_
  refine g_callIN (mc1 := 3) (ms1 := 1269) (D := 1) (Mc := mX3_init) (As := []) (rest := [.ref 20, .ref 7]) (b := 20) (pc := 61) dX11_init_61 nl_X11_37 mf_X3_init iM_X3_init rfl rfl rfl rfl (Nat.le_of_ble_eq_true rfl) ⟨(Nat.le_of_ble_eq_true rfl), (Nat.le_of_ble_eq_true rfl)⟩ ⟨(Nat.le_of_ble_eq_true rfl), (Nat.le_of_ble_eq_true rfl)⟩ (ri_20 (L := L) (xs := xs)) ?_
  refine gw_putR (pc := 64) dX11_init_64 fo_11_4 rfl rfl (by decide) (Or.inr rfl) ?_
  refine g_aload_n (pc := 67) dX11_init_67 rfl ?_
  refine i_new (x := 24) (ci := 2) (q := (RX2, TX2, 2)) (pc := 68) dX11_init_68 rfl rfl inX2 tyX2_ok (by decide) cK_X11_42 iS_X2 iN_X2 (Nat.le_of_ble_eq_true rfl) (Nat.le_of_ble_eq_true rfl) ?_
  refine g_dup (pc := 71) dX11_init_71 rfl ?_
  refine g_aload_n (pc := 72) dX11_init_72 rfl ?_
  refine gw_getR (x := 8) (pc := 73) dX11_init_73 fo_11_0 rfl rfl rfl ?_
  refine g_aload_n (pc := 76) dX11_init_76 rfl ?_
  refine gw_getR (x := 20) (pc := 77) dX11_init_77 fo_11_4 rfl rfl rfl ?_
  refine g_callI (mc1 := 0) (ms1 := 0) (D := 1) (Mc := mX2_init) (As := [.ref 8, .ref 20]) (rest := [.ref 24, .ref 7]) (b := 24) (pc := 80) dX11_init_80 mK_X11_44 mf_X2_init iM_X2_init rfl rfl rfl rfl (Nat.le_of_ble_eq_true rfl) ⟨(Nat.le_of_ble_eq_true rfl), (Nat.le_of_ble_eq_true rfl)⟩ ⟨(Nat.le_of_ble_eq_true rfl), (Nat.le_of_ble_eq_true rfl)⟩ (ri_24 (L := L) (xs := xs)) ?_
  refine gw_putR (pc := 83) dX11_init_83 fo_11_5 rfl rfl (by decide) (Or.inr rfl) ?_
  refine g_aload_n (pc := 86) dX11_init_86 rfl ?_
  refine i_new (x := 25) (ci := 4) (q := (RX4, TX4, 8)) (pc := 87) dX11_init_87 rfl rfl inX4 tyX4_ok (by decide) cK_X11_51 iS_X4 iN_X4 (Nat.le_of_ble_eq_true rfl) (Nat.le_of_ble_eq_true rfl) ?_
  refine g_dup (pc := 90) dX11_init_90 rfl ?_
  refine g_callIN (mc1 := 4) (ms1 := 164) (D := 1) (Mc := mX4_init) (As := []) (rest := [.ref 25, .ref 7]) (b := 25) (pc := 91) dX11_init_91 nl_X11_53 mf_X4_init iM_X4_init rfl rfl rfl rfl (Nat.le_of_ble_eq_true rfl) ⟨(Nat.le_of_ble_eq_true rfl), (Nat.le_of_ble_eq_true rfl)⟩ ⟨(Nat.le_of_ble_eq_true rfl), (Nat.le_of_ble_eq_true rfl)⟩ (ri_25 (L := L) (xs := xs)) ?_
  refine gw_putR (pc := 94) dX11_init_94 fo_11_6 rfl rfl (by decide) (Or.inr rfl) ?_
  refine g_aload_n (pc := 97) dX11_init_97 rfl ?_
  refine i_new (x := 30) (ci := 0) (q := (RX0, TX0, 6)) (pc := 98) dX11_init_98 rfl rfl inX0 tyX0_ok (by decide) cK_X11_58 iS_X0 iN_X0 (Nat.le_of_ble_eq_true rfl) (Nat.le_of_ble_eq_true rfl) ?_
  refine g_dup (pc := 101) dX11_init_101 rfl ?_
  refine g_aload_n (pc := 102) dX11_init_102 rfl ?_
  refine gw_getR (x := 25) (pc := 103) dX11_init_103 fo_11_6 rfl rfl rfl ?_
  refine g_callI (mc1 := 6) (ms1 := 212) (D := 2) (Mc := mX0_init) (As := [.ref 25]) (rest := [.ref 30, .ref 7]) (b := 30) (pc := 106) dX11_init_106 mK_X11_60 mf_X0_init iM_X0_init rfl rfl rfl rfl (Nat.le_of_ble_eq_true rfl) ⟨(Nat.le_of_ble_eq_true rfl), (Nat.le_of_ble_eq_true rfl)⟩ ⟨(Nat.le_of_ble_eq_true rfl), (Nat.le_of_ble_eq_true rfl)⟩ (ri_30 (L := L) (xs := xs)) ?_
  refine gw_putR (pc := 109) dX11_init_109 fo_11_7 rfl rfl (by decide) (Or.inr rfl) ?_
  refine g_aload_n (pc := 112) dX11_init_112 rfl ?_
  refine i_new (x := 37) (ci := 10) (q := (RX10, TX10, 5)) (pc := 113) dX11_init_113 rfl rfl inX10 tyX10_ok (by decide) cK_X11_67 iS_X10 iN_X10 (Nat.le_of_ble_eq_true rfl) (Nat.le_of_ble_eq_true rfl) ?_
  refine g_dup (pc := 116) dX11_init_116 rfl ?_
  refine g_aload_n (pc := 117) dX11_init_117 rfl ?_
  refine gw_getR (x := 10) (pc := 118) dX11_init_118 fo_11_1 rfl rfl rfl ?_
  refine g_aload_n (pc := 121) dX11_init_121 rfl ?_
  refine gw_getR (x := 20) (pc := 122) dX11_init_122 fo_11_4 rfl rfl rfl ?_
  refine g_aload_n (pc := 125) dX11_init_125 rfl ?_
  refine gw_getR (x := 25) (pc := 126) dX11_init_126 fo_11_6 rfl rfl rfl ?_
  refine g_callI (mc1 := 2) (ms1 := 16) (D := 1) (Mc := mX10_init) (As := [.ref 10, .ref 20, .ref 25]) (rest := [.ref 37, .ref 7]) (b := 37) (pc := 129) dX11_init_129 mK_X11_69 mf_X10_init iM_X10_init rfl rfl rfl rfl (Nat.le_of_ble_eq_true rfl) ⟨(Nat.le_of_ble_eq_true rfl), (Nat.le_of_ble_eq_true rfl)⟩ ⟨(Nat.le_of_ble_eq_true rfl), (Nat.le_of_ble_eq_true rfl)⟩ (ri_37 (L := L) (xs := xs)) ?_
  refine gw_putR (pc := 132) dX11_init_132 fo_11_8 rfl rfl (by decide) (Or.inr rfl) ?_
  refine g_aload_n (pc := 135) dX11_init_135 rfl ?_
  refine i_new (x := 40) (ci := 1) (q := (RX1, TX1, 7)) (pc := 136) dX11_init_136 rfl rfl inX1 tyX1_ok (by decide) cK_X11_76 iS_X1 iN_X1 (Nat.le_of_ble_eq_true rfl) (Nat.le_of_ble_eq_true rfl) ?_
  refine g_dup (pc := 139) dX11_init_139 rfl ?_
  refine g_aload_n (pc := 140) dX11_init_140 rfl ?_
  refine gw_getR (x := 10) (pc := 141) dX11_init_141 fo_11_1 rfl rfl rfl ?_
  refine g_aload_n (pc := 144) dX11_init_144 rfl ?_
  refine gw_getR (x := 25) (pc := 145) dX11_init_145 fo_11_6 rfl rfl rfl ?_
  refine g_aload_n (pc := 148) dX11_init_148 rfl ?_
  refine gw_getR (x := 30) (pc := 149) dX11_init_149 fo_11_7 rfl rfl rfl ?_
  refine g_aload_n (pc := 152) dX11_init_152 rfl ?_
  refine gw_getR (x := 37) (pc := 153) dX11_init_153 fo_11_8 rfl rfl rfl ?_
  refine g_callI (mc1 := 1) (ms1 := 8) (D := 1) (Mc := mX1_init) (As := [.ref 10, .ref 25, .ref 30, .ref 37]) (rest := [.ref 40, .ref 7]) (b := 40) (pc := 156) dX11_init_156 mK_X11_78 mf_X1_init iM_X1_init rfl rfl rfl rfl (Nat.le_of_ble_eq_true rfl) ⟨(Nat.le_of_ble_eq_true rfl), (Nat.le_of_ble_eq_true rfl)⟩ ⟨(Nat.le_of_ble_eq_true rfl), (Nat.le_of_ble_eq_true rfl)⟩ (ri_40 (L := L) (xs := xs)) ?_
  refine gw_putR (pc := 159) dX11_init_159 fo_11_9 rfl rfl (by decide) (Or.inr rfl) ?_
  refine g_aload_n (pc := 162) dX11_init_162 rfl ?_
  refine i_new (x := 42) (ci := 8) (q := (RX8, TX8, 8)) (pc := 163) dX11_init_163 rfl rfl inX8 tyX8_ok (by decide) cK_X11_85 iS_X8 iN_X8 (Nat.le_of_ble_eq_true rfl) (Nat.le_of_ble_eq_true rfl) ?_
  refine g_dup (pc := 166) dX11_init_166 rfl ?_
  refine g_aload_n (pc := 167) dX11_init_167 rfl ?_
  refine gw_getR (x := 10) (pc := 168) dX11_init_168 fo_11_1 rfl rfl rfl ?_
  refine g_aload_n (pc := 171) dX11_init_171 rfl ?_
  refine gw_getR (x := 25) (pc := 172) dX11_init_172 fo_11_6 rfl rfl rfl ?_
  refine g_callI (mc1 := 4) (ms1 := 116) (D := 1) (Mc := mX8_init) (As := [.ref 10, .ref 25]) (rest := [.ref 42, .ref 7]) (b := 42) (pc := 175) dX11_init_175 mK_X11_87 mf_X8_init iM_X8_init rfl rfl rfl rfl (Nat.le_of_ble_eq_true rfl) ⟨(Nat.le_of_ble_eq_true rfl), (Nat.le_of_ble_eq_true rfl)⟩ ⟨(Nat.le_of_ble_eq_true rfl), (Nat.le_of_ble_eq_true rfl)⟩ (ri_42 (L := L) (xs := xs)) ?_
  refine gw_putR (pc := 178) dX11_init_178 fo_11_10 rfl rfl (by decide) (Or.inr rfl) ?_
  refine g_aload_n (pc := 181) dX11_init_181 rfl ?_
  refine i_new (x := 47) (ci := 7) (q := (RX7, TX7, 9)) (pc := 182) dX11_init_182 rfl rfl inX7 tyX7_ok (by decide) cK_X11_94 iS_X7 iN_X7 (Nat.le_of_ble_eq_true rfl) (Nat.le_of_ble_eq_true rfl) ?_
  refine g_dup (pc := 185) dX11_init_185 rfl ?_
  refine g_aload_n (pc := 186) dX11_init_186 rfl ?_
  refine gw_getR (x := 10) (pc := 187) dX11_init_187 fo_11_1 rfl rfl rfl ?_
  refine g_aload_n (pc := 190) dX11_init_190 rfl ?_
  refine gw_getR (x := 37) (pc := 191) dX11_init_191 fo_11_8 rfl rfl rfl ?_
  refine g_callI (mc1 := 5) (ms1 := 84) (D := 1) (Mc := mX7_init) (As := [.ref 10, .ref 37]) (rest := [.ref 47, .ref 7]) (b := 47) (pc := 194) dX11_init_194 mK_X11_96 mf_X7_init iM_X7_init rfl rfl rfl rfl (Nat.le_of_ble_eq_true rfl) ⟨(Nat.le_of_ble_eq_true rfl), (Nat.le_of_ble_eq_true rfl)⟩ ⟨(Nat.le_of_ble_eq_true rfl), (Nat.le_of_ble_eq_true rfl)⟩ (ri_47 (L := L) (xs := xs)) ?_
  refine gw_putR (pc := 197) dX11_init_197 fo_11_11 rfl rfl (by decide) (Or.inr rfl) ?_
  exact g_vret (pc := 200) dX11_init_200 rfl (Nat.le_of_ble_eq_true rfl) (Nat.le_of_ble_eq_true rfl)
def u53 (L : Nat) (xs : Nat → Int32) : Wd := sN (n7 (u7 L xs)) (.inl 12)
def n53 (w : Wd) : Wd := sR (sN (sR (sN (sR (sN (sR (sN (sR (sN (sR (sN (sR (sN (sR (sN (sR (sN (sR (sN (sR (sN (sR (sN (sR (sN (sR (sN (sR (sN (sR (sN (sR (sN (sI (sR (sN (sR (sN (sR (sN (sR (sN (sR (sN (sR (sN (sR (sN (sR (sN (sR (sN (sR (sN (sR (sN (sR (sN (sR (sN (sR (sN (sR (sN (sR (sN (sR (sN (sR (sN (sR (sN (w) (.inr (.int, 240))) 53 1 (some 54)) (.inr (.int, 2600))) 53 6 (some 55)) (.inr (.int, 2600))) 53 7 (some 56)) (.inr (.int, 5))) 53 8 (some 57)) (.inr (.int, 5))) 53 9 (some 58)) (.inr (.int, 700))) 53 10 (some 59)) (.inr (.int, 700))) 53 11 (some 60)) (.inr (.int, 700))) 53 12 (some 61)) (.inr (.int, 5))) 53 15 (some 62)) (.inr (.int, 80))) 53 16 (some 63)) (.inr (.int, 4))) 53 17 (some 64)) (.inr (.int, 72))) 53 18 (some 65)) (.inr (.int, 24))) 53 19 (some 66)) (.inr (.int, 4))) 53 20 (some 67)) (.inr (.int, 4))) 53 24 (some 68)) (.inr (.int, 24))) 53 25 (some 69)) (.inr (.int, 320))) 53 27 (some 70)) (.inr (.int, 4))) 53 28 (some 71)) (.inr (.int, 4))) 53 29 (some 72)) 53 31 (-1)) (.inr (.int, 12800))) 53 33 (some 73)) (.inr (.int, 8))) 53 36 (some 74)) (.inr (.int, 40))) 53 37 (some 75)) (.inr (.int, 8))) 53 38 (some 76)) (.inr (.int, 90))) 53 39 (some 77)) (.inr (.int, 90))) 53 40 (some 78)) (.inr (.int, 90))) 53 41 (some 79)) (.inr (.int, 6))) 53 42 (some 80)) (.inr (.int, 10))) 53 45 (some 81)) (.inr (.int, 10))) 53 46 (some 82)) (.inr (.int, 10))) 53 47 (some 83)) (.inr (.int, 10))) 53 48 (some 84)) (.inr (.int, 4))) 53 50 (some 85)) (.inr (.int, 32))) 53 51 (some 86)) (.inr (.boolean, 64))) 53 54 (some 87)) (.inr (.boolean, 64))) 53 55 (some 88)) (.inr (.int, 320))) 53 56 (some 89)
set_option maxRecDepth 20000 in
theorem ri_53 {L : Nat} {xs : Nat → Int32} : Runs 1 mX12_init [.ref 53] (u53 L xs) none (n53 (u53 L xs)) 36 21751 := by
  refine Runs.of2 [some (.ref 53)] 0 rfl rfl (Nat.le_of_ble_eq_true rfl) (fun l Γ => ?_)
  refine g_aload_n (pc := 0) dX12_init_0 rfl ?_
  refine g_objI (pc := 1) dX12_init_1 mK_X12_3 iM_objI cO_objI ⟨(Nat.le_of_ble_eq_true rfl), (Nat.le_of_ble_eq_true rfl)⟩ ?_
  refine g_aload_n (pc := 4) dX12_init_4 rfl ?_
  refine g_sipush (v := 240) (pc := 5) dX12_init_5 (by decide) ?_
  refine i_newa (x := 54) (N := 240) (pc := 8) dX12_init_8 rfl rfl 0 (fun _ => rfl) (Or.inl rfl) (fun _ _ h => h) aC_int (by decide) (by decide) (by decide) (Nat.le_of_ble_eq_true rfl) (Nat.le_of_ble_eq_true rfl) ?_
  refine gw_putR (pc := 10) dX12_init_10 fo_12_1 rfl rfl (by decide) (Or.inr rfl) ?_
  refine g_aload_n (pc := 13) dX12_init_13 rfl ?_
  refine g_sipush (v := 2600) (pc := 14) dX12_init_14 (by decide) ?_
  refine i_newa (x := 55) (N := 2600) (pc := 17) dX12_init_17 rfl rfl 0 (fun _ => rfl) (Or.inl rfl) (fun _ _ h => h) aC_int (by decide) (by decide) (by decide) (Nat.le_of_ble_eq_true rfl) (Nat.le_of_ble_eq_true rfl) ?_
  refine gw_putR (pc := 19) dX12_init_19 fo_12_6 rfl rfl (by decide) (Or.inr rfl) ?_
  refine g_aload_n (pc := 22) dX12_init_22 rfl ?_
  refine g_sipush (v := 2600) (pc := 23) dX12_init_23 (by decide) ?_
  refine i_newa (x := 56) (N := 2600) (pc := 26) dX12_init_26 rfl rfl 0 (fun _ => rfl) (Or.inl rfl) (fun _ _ h => h) aC_int (by decide) (by decide) (by decide) (Nat.le_of_ble_eq_true rfl) (Nat.le_of_ble_eq_true rfl) ?_
  refine gw_putR (pc := 28) dX12_init_28 fo_12_7 rfl rfl (by decide) (Or.inr rfl) ?_
  refine g_aload_n (pc := 31) dX12_init_31 rfl ?_
  refine g_iconst (v := 5) (pc := 32) dX12_init_32 (by decide) ?_
  refine i_newa (x := 57) (N := 5) (pc := 33) dX12_init_33 rfl rfl 0 (fun _ => rfl) (Or.inl rfl) (fun _ _ h => h) aC_int (by decide) (by decide) (by decide) (Nat.le_of_ble_eq_true rfl) (Nat.le_of_ble_eq_true rfl) ?_
  refine gw_putR (pc := 35) dX12_init_35 fo_12_8 rfl rfl (by decide) (Or.inr rfl) ?_
  refine g_aload_n (pc := 38) dX12_init_38 rfl ?_
  refine g_iconst (v := 5) (pc := 39) dX12_init_39 (by decide) ?_
  refine i_newa (x := 58) (N := 5) (pc := 40) dX12_init_40 rfl rfl 0 (fun _ => rfl) (Or.inl rfl) (fun _ _ h => h) aC_int (by decide) (by decide) (by decide) (Nat.le_of_ble_eq_true rfl) (Nat.le_of_ble_eq_true rfl) ?_
  refine gw_putR (pc := 42) dX12_init_42 fo_12_9 rfl rfl (by decide) (Or.inr rfl) ?_
  refine g_aload_n (pc := 45) dX12_init_45 rfl ?_
  refine g_sipush (v := 700) (pc := 46) dX12_init_46 (by decide) ?_
  refine i_newa (x := 59) (N := 700) (pc := 49) dX12_init_49 rfl rfl 0 (fun _ => rfl) (Or.inl rfl) (fun _ _ h => h) aC_int (by decide) (by decide) (by decide) (Nat.le_of_ble_eq_true rfl) (Nat.le_of_ble_eq_true rfl) ?_
  refine gw_putR (pc := 51) dX12_init_51 fo_12_10 rfl rfl (by decide) (Or.inr rfl) ?_
  refine g_aload_n (pc := 54) dX12_init_54 rfl ?_
  refine g_sipush (v := 700) (pc := 55) dX12_init_55 (by decide) ?_
  refine i_newa (x := 60) (N := 700) (pc := 58) dX12_init_58 rfl rfl 0 (fun _ => rfl) (Or.inl rfl) (fun _ _ h => h) aC_int (by decide) (by decide) (by decide) (Nat.le_of_ble_eq_true rfl) (Nat.le_of_ble_eq_true rfl) ?_
  refine gw_putR (pc := 60) dX12_init_60 fo_12_11 rfl rfl (by decide) (Or.inr rfl) ?_
  refine g_aload_n (pc := 63) dX12_init_63 rfl ?_
  refine g_sipush (v := 700) (pc := 64) dX12_init_64 (by decide) ?_
  refine i_newa (x := 61) (N := 700) (pc := 67) dX12_init_67 rfl rfl 0 (fun _ => rfl) (Or.inl rfl) (fun _ _ h => h) aC_int (by decide) (by decide) (by decide) (Nat.le_of_ble_eq_true rfl) (Nat.le_of_ble_eq_true rfl) ?_
  refine gw_putR (pc := 69) dX12_init_69 fo_12_12 rfl rfl (by decide) (Or.inr rfl) ?_
  refine g_aload_n (pc := 72) dX12_init_72 rfl ?_
  refine g_iconst (v := 5) (pc := 73) dX12_init_73 (by decide) ?_
  refine i_newa (x := 62) (N := 5) (pc := 74) dX12_init_74 rfl rfl 0 (fun _ => rfl) (Or.inl rfl) (fun _ _ h => h) aC_int (by decide) (by decide) (by decide) (Nat.le_of_ble_eq_true rfl) (Nat.le_of_ble_eq_true rfl) ?_
  refine gw_putR (pc := 76) dX12_init_76 fo_12_15 rfl rfl (by decide) (Or.inr rfl) ?_
  refine g_aload_n (pc := 79) dX12_init_79 rfl ?_
  refine g_bipush (v := 80) (pc := 80) dX12_init_80 (by decide) ?_
  refine i_newa (x := 63) (N := 80) (pc := 82) dX12_init_82 rfl rfl 0 (fun _ => rfl) (Or.inl rfl) (fun _ _ h => h) aC_int (by decide) (by decide) (by decide) (Nat.le_of_ble_eq_true rfl) (Nat.le_of_ble_eq_true rfl) ?_
  refine gw_putR (pc := 84) dX12_init_84 fo_12_16 rfl rfl (by decide) (Or.inr rfl) ?_
  refine g_aload_n (pc := 87) dX12_init_87 rfl ?_
  refine g_iconst (v := 4) (pc := 88) dX12_init_88 (by decide) ?_
  refine i_newa (x := 64) (N := 4) (pc := 89) dX12_init_89 rfl rfl 0 (fun _ => rfl) (Or.inl rfl) (fun _ _ h => h) aC_int (by decide) (by decide) (by decide) (Nat.le_of_ble_eq_true rfl) (Nat.le_of_ble_eq_true rfl) ?_
  refine gw_putR (pc := 91) dX12_init_91 fo_12_17 rfl rfl (by decide) (Or.inr rfl) ?_
  refine g_aload_n (pc := 94) dX12_init_94 rfl ?_
  refine g_bipush (v := 72) (pc := 95) dX12_init_95 (by decide) ?_
  refine i_newa (x := 65) (N := 72) (pc := 97) dX12_init_97 rfl rfl 0 (fun _ => rfl) (Or.inl rfl) (fun _ _ h => h) aC_int (by decide) (by decide) (by decide) (Nat.le_of_ble_eq_true rfl) (Nat.le_of_ble_eq_true rfl) ?_
  refine gw_putR (pc := 99) dX12_init_99 fo_12_18 rfl rfl (by decide) (Or.inr rfl) ?_
  refine g_aload_n (pc := 102) dX12_init_102 rfl ?_
  refine g_bipush (v := 24) (pc := 103) dX12_init_103 (by decide) ?_
  refine i_newa (x := 66) (N := 24) (pc := 105) dX12_init_105 rfl rfl 0 (fun _ => rfl) (Or.inl rfl) (fun _ _ h => h) aC_int (by decide) (by decide) (by decide) (Nat.le_of_ble_eq_true rfl) (Nat.le_of_ble_eq_true rfl) ?_
  refine gw_putR (pc := 107) dX12_init_107 fo_12_19 rfl rfl (by decide) (Or.inr rfl) ?_
  refine g_aload_n (pc := 110) dX12_init_110 rfl ?_
  refine g_iconst (v := 4) (pc := 111) dX12_init_111 (by decide) ?_
  refine i_newa (x := 67) (N := 4) (pc := 112) dX12_init_112 rfl rfl 0 (fun _ => rfl) (Or.inl rfl) (fun _ _ h => h) aC_int (by decide) (by decide) (by decide) (Nat.le_of_ble_eq_true rfl) (Nat.le_of_ble_eq_true rfl) ?_
  refine gw_putR (pc := 114) dX12_init_114 fo_12_20 rfl rfl (by decide) (Or.inr rfl) ?_
  refine g_aload_n (pc := 117) dX12_init_117 rfl ?_
  refine g_iconst (v := 4) (pc := 118) dX12_init_118 (by decide) ?_
  refine i_newa (x := 68) (N := 4) (pc := 119) dX12_init_119 rfl rfl 0 (fun _ => rfl) (Or.inl rfl) (fun _ _ h => h) aC_int (by decide) (by decide) (by decide) (Nat.le_of_ble_eq_true rfl) (Nat.le_of_ble_eq_true rfl) ?_
  refine gw_putR (pc := 121) dX12_init_121 fo_12_24 rfl rfl (by decide) (Or.inr rfl) ?_
  refine g_aload_n (pc := 124) dX12_init_124 rfl ?_
  refine g_bipush (v := 24) (pc := 125) dX12_init_125 (by decide) ?_
  refine i_newa (x := 69) (N := 24) (pc := 127) dX12_init_127 rfl rfl 0 (fun _ => rfl) (Or.inl rfl) (fun _ _ h => h) aC_int (by decide) (by decide) (by decide) (Nat.le_of_ble_eq_true rfl) (Nat.le_of_ble_eq_true rfl) ?_
  refine gw_putR (pc := 129) dX12_init_129 fo_12_25 rfl rfl (by decide) (Or.inr rfl) ?_
  refine g_aload_n (pc := 132) dX12_init_132 rfl ?_
  refine g_sipush (v := 320) (pc := 133) dX12_init_133 (by decide) ?_
  refine i_newa (x := 70) (N := 320) (pc := 136) dX12_init_136 rfl rfl 0 (fun _ => rfl) (Or.inl rfl) (fun _ _ h => h) aC_int (by decide) (by decide) (by decide) (Nat.le_of_ble_eq_true rfl) (Nat.le_of_ble_eq_true rfl) ?_
  refine gw_putR (pc := 138) dX12_init_138 fo_12_27 rfl rfl (by decide) (Or.inr rfl) ?_
  refine g_aload_n (pc := 141) dX12_init_141 rfl ?_
  refine g_iconst (v := 4) (pc := 142) dX12_init_142 (by decide) ?_
  refine i_newa (x := 71) (N := 4) (pc := 143) dX12_init_143 rfl rfl 0 (fun _ => rfl) (Or.inl rfl) (fun _ _ h => h) aC_int (by decide) (by decide) (by decide) (Nat.le_of_ble_eq_true rfl) (Nat.le_of_ble_eq_true rfl) ?_
  refine gw_putR (pc := 145) dX12_init_145 fo_12_28 rfl rfl (by decide) (Or.inr rfl) ?_
  refine g_aload_n (pc := 148) dX12_init_148 rfl ?_
  refine g_iconst (v := 4) (pc := 149) dX12_init_149 (by decide) ?_
  refine i_newa (x := 72) (N := 4) (pc := 150) dX12_init_150 rfl rfl 0 (fun _ => rfl) (Or.inl rfl) (fun _ _ h => h) aC_int (by decide) (by decide) (by decide) (Nat.le_of_ble_eq_true rfl) (Nat.le_of_ble_eq_true rfl) ?_
  refine gw_putR (pc := 152) dX12_init_152 fo_12_29 rfl rfl (by decide) (Or.inr rfl) ?_
  refine g_aload_n (pc := 155) dX12_init_155 rfl ?_
  refine g_iconst (v := (-1)) (pc := 156) dX12_init_156 (by decide) ?_
  refine gw_putI (pc := 157) dX12_init_157 fo_12_31 rfl rfl (by decide) (Or.inr rfl) rfl rfl ?_
  refine g_aload_n (pc := 160) dX12_init_160 rfl ?_
  refine g_sipush (v := 12800) (pc := 161) dX12_init_161 (by decide) ?_
  refine i_newa (x := 73) (N := 12800) (pc := 164) dX12_init_164 rfl rfl 0 (fun _ => rfl) (Or.inl rfl) (fun _ _ h => h) aC_int (by decide) (by decide) (by decide) (Nat.le_of_ble_eq_true rfl) (Nat.le_of_ble_eq_true rfl) ?_
  refine gw_putR (pc := 166) dX12_init_166 fo_12_33 rfl rfl (by decide) (Or.inr rfl) ?_
  refine g_aload_n (pc := 169) dX12_init_169 rfl ?_
  refine g_bipush (v := 8) (pc := 170) dX12_init_170 (by decide) ?_
  refine i_newa (x := 74) (N := 8) (pc := 172) dX12_init_172 rfl rfl 0 (fun _ => rfl) (Or.inl rfl) (fun _ _ h => h) aC_int (by decide) (by decide) (by decide) (Nat.le_of_ble_eq_true rfl) (Nat.le_of_ble_eq_true rfl) ?_
  refine gw_putR (pc := 174) dX12_init_174 fo_12_36 rfl rfl (by decide) (Or.inr rfl) ?_
  refine g_aload_n (pc := 177) dX12_init_177 rfl ?_
  refine g_bipush (v := 40) (pc := 178) dX12_init_178 (by decide) ?_
  refine i_newa (x := 75) (N := 40) (pc := 180) dX12_init_180 rfl rfl 0 (fun _ => rfl) (Or.inl rfl) (fun _ _ h => h) aC_int (by decide) (by decide) (by decide) (Nat.le_of_ble_eq_true rfl) (Nat.le_of_ble_eq_true rfl) ?_
  refine gw_putR (pc := 182) dX12_init_182 fo_12_37 rfl rfl (by decide) (Or.inr rfl) ?_
  refine g_aload_n (pc := 185) dX12_init_185 rfl ?_
  refine g_bipush (v := 8) (pc := 186) dX12_init_186 (by decide) ?_
  refine i_newa (x := 76) (N := 8) (pc := 188) dX12_init_188 rfl rfl 0 (fun _ => rfl) (Or.inl rfl) (fun _ _ h => h) aC_int (by decide) (by decide) (by decide) (Nat.le_of_ble_eq_true rfl) (Nat.le_of_ble_eq_true rfl) ?_
  refine gw_putR (pc := 190) dX12_init_190 fo_12_38 rfl rfl (by decide) (Or.inr rfl) ?_
  refine g_aload_n (pc := 193) dX12_init_193 rfl ?_
  refine g_bipush (v := 90) (pc := 194) dX12_init_194 (by decide) ?_
  refine i_newa (x := 77) (N := 90) (pc := 196) dX12_init_196 rfl rfl 0 (fun _ => rfl) (Or.inl rfl) (fun _ _ h => h) aC_int (by decide) (by decide) (by decide) (Nat.le_of_ble_eq_true rfl) (Nat.le_of_ble_eq_true rfl) ?_
  refine gw_putR (pc := 198) dX12_init_198 fo_12_39 rfl rfl (by decide) (Or.inr rfl) ?_
  refine g_aload_n (pc := 201) dX12_init_201 rfl ?_
  refine g_bipush (v := 90) (pc := 202) dX12_init_202 (by decide) ?_
  refine i_newa (x := 78) (N := 90) (pc := 204) dX12_init_204 rfl rfl 0 (fun _ => rfl) (Or.inl rfl) (fun _ _ h => h) aC_int (by decide) (by decide) (by decide) (Nat.le_of_ble_eq_true rfl) (Nat.le_of_ble_eq_true rfl) ?_
  refine gw_putR (pc := 206) dX12_init_206 fo_12_40 rfl rfl (by decide) (Or.inr rfl) ?_
  refine g_aload_n (pc := 209) dX12_init_209 rfl ?_
  refine g_bipush (v := 90) (pc := 210) dX12_init_210 (by decide) ?_
  refine i_newa (x := 79) (N := 90) (pc := 212) dX12_init_212 rfl rfl 0 (fun _ => rfl) (Or.inl rfl) (fun _ _ h => h) aC_int (by decide) (by decide) (by decide) (Nat.le_of_ble_eq_true rfl) (Nat.le_of_ble_eq_true rfl) ?_
  refine gw_putR (pc := 214) dX12_init_214 fo_12_41 rfl rfl (by decide) (Or.inr rfl) ?_
  refine g_aload_n (pc := 217) dX12_init_217 rfl ?_
  refine g_bipush (v := 6) (pc := 218) dX12_init_218 (by decide) ?_
  refine i_newa (x := 80) (N := 6) (pc := 220) dX12_init_220 rfl rfl 0 (fun _ => rfl) (Or.inl rfl) (fun _ _ h => h) aC_int (by decide) (by decide) (by decide) (Nat.le_of_ble_eq_true rfl) (Nat.le_of_ble_eq_true rfl) ?_
  refine gw_putR (pc := 222) dX12_init_222 fo_12_42 rfl rfl (by decide) (Or.inr rfl) ?_
  refine g_aload_n (pc := 225) dX12_init_225 rfl ?_
  refine g_bipush (v := 10) (pc := 226) dX12_init_226 (by decide) ?_
  refine i_newa (x := 81) (N := 10) (pc := 228) dX12_init_228 rfl rfl 0 (fun _ => rfl) (Or.inl rfl) (fun _ _ h => h) aC_int (by decide) (by decide) (by decide) (Nat.le_of_ble_eq_true rfl) (Nat.le_of_ble_eq_true rfl) ?_
  refine gw_putR (pc := 230) dX12_init_230 fo_12_45 rfl rfl (by decide) (Or.inr rfl) ?_
  refine g_aload_n (pc := 233) dX12_init_233 rfl ?_
  refine g_bipush (v := 10) (pc := 234) dX12_init_234 (by decide) ?_
  refine i_newa (x := 82) (N := 10) (pc := 236) dX12_init_236 rfl rfl 0 (fun _ => rfl) (Or.inl rfl) (fun _ _ h => h) aC_int (by decide) (by decide) (by decide) (Nat.le_of_ble_eq_true rfl) (Nat.le_of_ble_eq_true rfl) ?_
  refine gw_putR (pc := 238) dX12_init_238 fo_12_46 rfl rfl (by decide) (Or.inr rfl) ?_
  refine g_aload_n (pc := 241) dX12_init_241 rfl ?_
  refine g_bipush (v := 10) (pc := 242) dX12_init_242 (by decide) ?_
  refine i_newa (x := 83) (N := 10) (pc := 244) dX12_init_244 rfl rfl 0 (fun _ => rfl) (Or.inl rfl) (fun _ _ h => h) aC_int (by decide) (by decide) (by decide) (Nat.le_of_ble_eq_true rfl) (Nat.le_of_ble_eq_true rfl) ?_
  refine gw_putR (pc := 246) dX12_init_246 fo_12_47 rfl rfl (by decide) (Or.inr rfl) ?_
  refine g_aload_n (pc := 249) dX12_init_249 rfl ?_
  refine g_bipush (v := 10) (pc := 250) dX12_init_250 (by decide) ?_
  refine i_newa (x := 84) (N := 10) (pc := 252) dX12_init_252 rfl rfl 0 (fun _ => rfl) (Or.inl rfl) (fun _ _ h => h) aC_int (by decide) (by decide) (by decide) (Nat.le_of_ble_eq_true rfl) (Nat.le_of_ble_eq_true rfl) ?_
  refine gw_putR (pc := 254) dX12_init_254 fo_12_48 rfl rfl (by decide) (Or.inr rfl) ?_
  refine g_aload_n (pc := 257) dX12_init_257 rfl ?_
  refine g_iconst (v := 4) (pc := 258) dX12_init_258 (by decide) ?_
  refine i_newa (x := 85) (N := 4) (pc := 259) dX12_init_259 rfl rfl 0 (fun _ => rfl) (Or.inl rfl) (fun _ _ h => h) aC_int (by decide) (by decide) (by decide) (Nat.le_of_ble_eq_true rfl) (Nat.le_of_ble_eq_true rfl) ?_
  refine gw_putR (pc := 261) dX12_init_261 fo_12_50 rfl rfl (by decide) (Or.inr rfl) ?_
  refine g_aload_n (pc := 264) dX12_init_264 rfl ?_
  refine g_bipush (v := 32) (pc := 265) dX12_init_265 (by decide) ?_
  refine i_newa (x := 86) (N := 32) (pc := 267) dX12_init_267 rfl rfl 0 (fun _ => rfl) (Or.inl rfl) (fun _ _ h => h) aC_int (by decide) (by decide) (by decide) (Nat.le_of_ble_eq_true rfl) (Nat.le_of_ble_eq_true rfl) ?_
  refine gw_putR (pc := 269) dX12_init_269 fo_12_51 rfl rfl (by decide) (Or.inr rfl) ?_
  refine g_aload_n (pc := 272) dX12_init_272 rfl ?_
  refine g_bipush (v := 64) (pc := 273) dX12_init_273 (by decide) ?_
  refine i_newa (x := 87) (N := 64) (pc := 275) dX12_init_275 rfl rfl 1 (fun _ => rfl) (Or.inl rfl) (fun _ _ h => h) aC_boolean (by decide) (by decide) (by decide) (Nat.le_of_ble_eq_true rfl) (Nat.le_of_ble_eq_true rfl) ?_
  refine gw_putR (pc := 277) dX12_init_277 fo_12_54 rfl rfl (by decide) (Or.inr rfl) ?_
  refine g_aload_n (pc := 280) dX12_init_280 rfl ?_
  refine g_bipush (v := 64) (pc := 281) dX12_init_281 (by decide) ?_
  refine i_newa (x := 88) (N := 64) (pc := 283) dX12_init_283 rfl rfl 1 (fun _ => rfl) (Or.inl rfl) (fun _ _ h => h) aC_boolean (by decide) (by decide) (by decide) (Nat.le_of_ble_eq_true rfl) (Nat.le_of_ble_eq_true rfl) ?_
  refine gw_putR (pc := 285) dX12_init_285 fo_12_55 rfl rfl (by decide) (Or.inr rfl) ?_
  refine g_aload_n (pc := 288) dX12_init_288 rfl ?_
  refine g_sipush (v := 320) (pc := 289) dX12_init_289 (by decide) ?_
  refine i_newa (x := 89) (N := 320) (pc := 292) dX12_init_292 rfl rfl 0 (fun _ => rfl) (Or.inl rfl) (fun _ _ h => h) aC_int (by decide) (by decide) (by decide) (Nat.le_of_ble_eq_true rfl) (Nat.le_of_ble_eq_true rfl) ?_
  refine gw_putR (pc := 294) dX12_init_294 fo_12_56 rfl rfl (by decide) (Or.inr rfl) ?_
  exact g_vret (pc := 297) dX12_init_297 rfl (Nat.le_of_ble_eq_true rfl) (Nat.le_of_ble_eq_true rfl)
/-- the world when both sides and the out array are made -/
def wFin (L : Nat) (xs : Nat → Int32) : Wd := sN (n53 (u53 L xs)) (.inr (.long, 1))
