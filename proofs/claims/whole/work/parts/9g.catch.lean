/-! ===== the law's train: the value, or caught ===== -/
def LtM : Mt := (yL_train, cL_train, 5, some .int)
def LtW : Cond := Cond.codeWith yL_train cL_train 5 (some .int) [(0, 10, 13, 13)]
theorem lt_in : LtW ∈ WS := by decide +kernel
def tabX (args : Array Value) (below : List Frame) (s : State) : Prop := ∀ m meth c, s.frames = Frame.invoking m args :: below → s.vm.method? m = some meth → meth.code = some c → c.exceptionTable.toList.map (fun h => (h.startPc, h.endPc, h.handlerPc, h.catchType)) = [(0, 10, 13, 13)]
def tQ (Γ : Gm) (r : Option Value) (w : Wd) : QT := fun below args s t => tabX args below s → MQ below (Qc0 Γ r w) args s 1 6 (fun q => Γ.2.2.2 ≤ q) t
theorem g_imp {M : Mt} {l : Launch} {Γ : Gm} {R : Room} {Q Q' : QT} {cells slots pc : Nat} {ls : List (Option Value)} {st : List Value} {w : Wd} (h : G M l Γ R Q cells slots pc ls st w) (hq : ∀ b a s t, Q b a s t → Q' b a s t) : G M l Γ R Q' cells slots pc ls st w := by
  intro p e s m args below meth c H locs la X hS hl T hT Xs
  obtain ⟨t, a, b⟩ := h p e s m args below meth c H locs la X hS hl T hT Xs
  exact ⟨t, a, hq _ _ _ _ b⟩
section CX
variable {p : Program} {l : Launch} {e : Env} {R : Room} {s : State} {m : MethodId} {args a : Array Value} {below : List Frame} {meth : Method} {c : Code} {H : Heap} {locs : List Loc} {cells slots mc ms pc : Nat} {la : Array Slot} {st0 rest : List Value} {r1 : Option Value} {w w1 : Wd} {Q1 : State → Prop} {Γ : Gm}
/-- a call that always throws -/
theorem W_callx (hr : vx_Run p l e R s m args below meth c H locs cells slots mc ms (F0 m pc la st0) rest (Qn a) (XCt Γ w1) (fun q => Γ.2.2.2 ≤ q)) (hS : HS Γ s H locs w)
    (kx : ∀ (q9 : Addr) (ce : Cell) (H1 : Heap) (locs1 : List Loc), HS Γ s H1 locs1 w1 → H1[q9]? = some ce → ce.vm = .none → s.vm.findClass nsE = some ce.cls → vx_W p l e R s m args below meth c H1 locs1 (cells + mc) (slots + ms) Q1 (F0 m pc la rest) q9) : W p l e R s m args below meth c H locs cells slots Q1 (F0 m pc la st0) := by
  intro T hT X
  rcases hr T hT X with ⟨v, st₀, t, T', L, h0, X', hL, e1, e2, hq, st⟩ | ⟨q, st₀, t, T', L, E, ce, h0, X', hL, e1, e2, ⟨hE, hrep, hfr⟩, hce, hcv, hcl, st⟩
  · exact hq.elim
  · subst hE
    rw [h0] at hfr
    obtain ⟨t2, a1, b1⟩ := kx q ce T'.heap (locs ++ L) ⟨by rw [e1]; exact hrep, fun q hq => by rw [e1, hfr q hq]; exact hS.2.1 q hq, fun z hz => (List.mem_append.mp hz).elim (hS.2.2 z) (hL z)⟩ (by rw [e1]; exact hce) hcv hcl T' rfl X'
    exact ⟨t2, st.trans a1, b1⟩
/-- a call that never throws, though its contract is of the other kind -/
theorem W_callkx (hr : vx_Run p l e R s m args below meth c H locs cells slots mc ms (F0 m pc la st0) rest (Qc0 Γ r1 w1 a) (fun _ _ _ => False) (fun q => Γ.2.2.2 ≤ q)) (hS : HS Γ s H locs w)
    (kk : ∀ (H1 : Heap) (locs1 : List Loc), HS Γ s H1 locs1 w1 → W p l e R s m args below meth c H1 locs1 (cells + mc) (slots + ms) Q1 (F0 m (pc + 3) la ((r1.map (rv Γ)).toList ++ rest))) : W p l e R s m args below meth c H locs cells slots Q1 (F0 m pc la st0) := by
  intro T hT X
  rcases hr T hT X with ⟨v, st₀, t, T', L, h0, X', hL, e1, e2, ⟨hv, hrep, hfr⟩, st⟩ | ⟨q, st₀, t, T', L, E, ce, h0, X', hL, e1, e2, hx, hce, hcv, hcl, st⟩
  · have hv := Outcome.returned.inj hv
    subst hv
    rw [h0] at hfr
    obtain ⟨t2, a1, b1⟩ := kk T'.heap (locs ++ L) ⟨by rw [e1]; exact hrep, fun q hq => by rw [e1, hfr q hq]; exact hS.2.1 q hq, fun z hz => (List.mem_append.mp hz).elim (hS.2.2 z) (hL z)⟩ T' rfl X'
    exact ⟨t2, st t2 a1, b1⟩
  · exact hx.elim
end CX
/-- the contract out of the walk -/
theorem lt_met {l : Launch} {Γ : Gm} {w w' : Wd} {r : Option Value} {a b : Int32} (walk : G LtM l Γ (rmD 10 1 6) (tQ Γ r w') 0 0 0 [some (.ref 7), some (.int a), some (.int b), some (.ref 90)] [] w) : vx_Met l yL_train (LtW :: WS) (rmD 10 1 6) (Pc0 Γ w [.ref 7, .int a, .int b, .ref 90]) (Qc0 Γ r w') (fun _ _ _ => False) 1 6 (fun q => Γ.2.2.2 ≤ q) := by
  refine vx_ofWH (cc := cL_train) (maxL := 5) (ret := some .int) (hh := [(0, 10, 13, 13)]) (ws' := WS) rfl rfl ?_
  intro p e s m args below meth c s₁ B hml hv
  obtain ⟨rfl, hK, hZ, hR⟩ := hv
  have hts := atoms_spec (ws := LtW :: WS) B.pre
  have hown : s.vm.findClass LtM.1.cls = some m.cls := findClass_of_methodNamed B.named
  have hin : meth.name = LtM.1.name := (name_of_methodNamed B.named B.method).1
  have hl := entL_has Γ [Value.ref 7, .int a, .int b, .ref 90] (n := 5) (Nat.le_of_ble_eq_true rfl)
  have h1 := hR.1
  have h2 := hR.2.2.2.1
  have K := walk p e s m _ below meth c s.heap [] _ ⟨B.exec, B.bytes, hml, hown, fun w hw => hts w (List.mem_cons_of_mem _ hw), B.returns, B.notSynchronized, hin, hK, hZ, by omega⟩ ⟨hR, fun _ _ => rfl, fun _ h => by cases h⟩ (show hLs Γ _ LtM.2.2.1 [some (.ref 7), some (.int a), some (.int b), some (.ref 90)] from hl)
  rw [lg_entry_eq]
  refine vx_ret ?_
  intro T hT X
  obtain ⟨t, a1, b1⟩ := K T hT X
  refine ⟨t, a1, b1 fun m1 meth1 c1 e1 e2 e3 => ?_⟩
  obtain ⟨m2, meth2, c2, f1, f2, f3, -, -, f4, -⟩ := Cond.codeWith_spec (hts LtW List.mem_cons_self)
  have em : m1 = m := by
    have := B.frames.symm.trans e1
    have := (List.cons.inj this).1
    injection this with h1 h2
    exact h1.symm
  subst em
  have em2 : m2 = m1 := Option.some.inj (f1.symm.trans B.named)
  subst em2
  have e4 : meth1 = meth2 := Option.some.inj (e2.symm.trans f2)
  subst e4
  have e5 : c1 = c2 := Option.some.inj (e3.symm.trans f3)
  subst e5
  exact f4
/-- the value -/
theorem lt_norm {L : Sc} {T S : Sm} {a b v : Int32} (hok : trOK a b S) (h : Dk_trainV a b S = some v) (l : Launch) (Γ : Gm) : vx_Met l yL_train (LtW :: WS) (rmD 10 1 6) (Pc0 Γ (cw L T S) [.ref 7, .int a, .int b, .ref 90]) (Qc0 Γ (some (.int 0)) (cw L T (sl S 90 0 (Int32.toInt64 v)))) (fun _ _ _ => False) 1 6 (fun q => Γ.2.2.2 ≤ q) := by
  refine lt_met (g_imp (Q := mQ Γ (some (.int 0)) (cw L T (sl S 90 0 (Int32.toInt64 v))) 1 6) ?_ fun b a s t h _ => h)
  refine g_aload_n (pc := 0) dL_train_0 rfl ?_
  refine g_iconst (v := 0) (pc := 1) dL_train_1 (by decide) ?_
  refine g_aload_n (pc := 2) dL_train_2 rfl ?_
  refine g_iload_n (pc := 3) dL_train_3 rfl ?_
  refine g_iload_n (pc := 4) dL_train_4 rfl ?_
  refine k_callVi (cw_ok L T) (S := S) (Mc := mX11_train) (v := v) (S1 := S) (As := [.int a, .int b]) (rest := [.int 0, .ref 90]) (q := (RX11, TX11, 12)) (pc := 5) dL_train_5 mK_L_7 mf_X11_train rfl k0_7 rfl rfl rfl (Nat.le_of_ble_eq_true rfl) ⟨Nat.le_of_ble_eq_true rfl, Nat.le_of_ble_eq_true rfl⟩ (r_Dk_trainN (cw_ok L T) hok h) ?_ ⟨Nat.zero_le _, Nat.zero_le _⟩
  refine g_i2l (pc := 8) dL_train_8 ?_
  refine gw_last (n := 1) (pc := 9) dL_train_9 (show gK (cw L T S) 90 = some (.inr (.long, 1)) from rfl) (by decide) (by unfold vp_in; decide) ?_
  rw [cw_sL (Or.inr (Nat.le_refl 90))]
  refine g_goto (tgt := 17) (pc := 10) dL_train_10 (by decide) ?_
  refine g_iconst (v := 0) (pc := 17) dL_train_17 (by decide) ?_
  exact g_iret (pc := 18) dL_train_18 rfl rfl (Nat.zero_le _) (Nat.zero_le _)
/-- caught -/
theorem lt_x {L : Sc} {T S : Sm} {a b : Int32} (hno : ¬ trOK a b S) (hN : gNs S < 1000000) (l : Launch) (hst : l.stackTraces = false) (Γ : Gm) : vx_Met l yL_train (LtW :: WS) (rmD 10 1 6) (Pc0 Γ (cw L T S) [.ref 7, .int a, .int b, .ref 90]) (Qc0 Γ (some (.int 1)) (cw L T (exS S))) (fun _ _ _ => False) 1 6 (fun q => Γ.2.2.2 ≤ q) := by
  have fin : G LtM l Γ (rmD 10 1 6) (tQ Γ (some (.int 1)) (cw L T (exS S))) 1 6 15 [] [] (cw L T (exS S)) := by
    refine g_imp (Q := mQ Γ (some (.int 1)) (cw L T (exS S)) 1 6) ?_ fun b a s t h _ => h
    refine g_iconst (v := 1) (pc := 15) dL_train_15 (by decide) ?_
    exact g_iret (pc := 16) dL_train_16 rfl rfl (Nat.le_refl _) (Nat.le_refl _)
  refine lt_met ?_
  refine g_aload_n (pc := 0) dL_train_0 rfl ?_
  refine g_iconst (v := 0) (pc := 1) dL_train_1 (by decide) ?_
  refine g_aload_n (pc := 2) dL_train_2 rfl ?_
  refine g_iload_n (pc := 3) dL_train_3 rfl ?_
  refine g_iload_n (pc := 4) dL_train_4 rfl ?_
  intro p e s m args below meth c H locs la X hS hl T1 hT Xs
  by_cases htab : tabX args below s
  · have hts := X.2.2.2.2.1
    have hM := mf_X11_train
    obtain ⟨q', hq', cell, g1, g2, g3, -⟩ := hS.1.obj (show gK (cw L T S) 7 = _ from k0_7)
    have hcls := (X.2.2.2.2.2.2.2.2.1.1.1 _ _ hq').2.1
    cases hq'
    have ht := htab m meth c Xs.frames Xs.method Xs.code
    refine W_callx (mc := 1) (ms := 6) (rest := [.int 0, .ref (ad Γ 90)]) (vx_runV (nL := 5) (Ts := WS) (own := RL) (index := 7) (bytes := mX11_train.2.1) (maxL := mX11_train.2.2.1) (ret := mX11_train.2.2.2) (As := [.int a, .int b]) (C := mX11_train.1.cls) (n := 2) ⟨X.1, X.2.1, X.2.2.1, X.2.2.2.1, hts⟩ (r_train_x (cw_ok L T) hno l hst Γ) ⟨⟨rfl, rfl, Nat.le_of_ble_eq_true rfl, Nat.le_of_ble_eq_true rfl, pay_in hts hM.1.good, List.mem_cons_self, hts _ hM.1.1, hts _ hM.1.2.1, hM.1.2.2.1, hM.1.len, hts _ mK_L_7⟩, hts _ hM.2.1, hts _ hM.2.2⟩ ⟨Pc0_blind Γ (cw L T S) _, ⟨cell, g1, by rw [g3]; rfl, by rw [g2]; exact hcls⟩, pre_call X hS [.ref 7, .int a, .int b]⟩ rfl rfl hl.1 rfl (Nat.le_of_ble_eq_true rfl) dL_train_5 ⟨Nat.le_refl _, Nat.le_refl _⟩) hS (fun q9 ce H1 locs1 hS1 hce hcv hcl => ?_) T1 hT Xs
    obtain ⟨x, hx1, hx2⟩ : ∃ x, c.exceptionTable.toList = [x] ∧ x = ⟨0, 10, 13, 13⟩ := by
      cases hL : c.exceptionTable.toList with
      | nil => rw [hL] at ht; cases ht
      | cons x r =>
        rw [hL] at ht
        have h1 := (List.cons.inj ht).1
        have h2 := (List.cons.inj ht).2
        cases r with
        | nil =>
          refine ⟨x, rfl, ?_⟩
          obtain ⟨x1, x2, x3, x4⟩ := x
          injection h1 with i1 i2
          injection i2 with i2 i3
          injection i3 with i3 i4
          subst i1 i2 i3 i4
          rfl
        | cons y r => cases h2
    subst hx2
    refine vx_catch (own := RL) (name := nsE) (E := nsE) X.2.2.2.1 [] ⟨0, 10, 13, 13⟩ [] hx1 (fun z hz => by cases hz) (by decide) (by decide) (hts _ cK_L_13) (castable_self hcl) hce hcv hcl ?_
    intro T2 hT2 X2
    obtain ⟨la', e', h'⟩ := lv_store1 (v := .ref q9) hl.nil (i := 4) (by show 4 < 5; decide) rfl
    rw [cw_exS hN] at hS1
    obtain ⟨t, a1, b1⟩ := fin p e s m args below meth c H1 locs1 la' X hS1 ⟨h'.1, h'.2.1, fun i v hi => by cases hi⟩ T2 hT2 X2
    refine ⟨t, ?_, b1⟩
    have hx1 := X.1
    have hb1 : c.code = cL_train := X.2.1
    show Steps p.tables e below (T2.setTop (F0 m 13 la [.ref q9])) t
    jvm_step X2.here [X2.here.top, ↓top_set X2.here.top, hx1, hb1, dL_train_13, e', Value.isRef]
    exact a1
  · exact ⟨_, Steps.refl _, fun h => absurd h htab⟩
