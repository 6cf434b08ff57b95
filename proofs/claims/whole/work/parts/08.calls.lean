/-! ===== calls and ends ===== -/
def MfS (M : Mt) (n : Nat) : Prop := wdM M ∈ WS ∧ Cond.initialized M.1.cls ∈ WS ∧ (M.1.cls ≠ "java/lang/invoke/MethodHandle" ∧ M.1.cls ≠ "java/lang/invoke/VarHandle") ∧ (parseMethodDescriptor M.1.desc).map (fun d => d.parameters.length) = some n
theorem MfS.len {M : Mt} {n : Nat} (h : MfS M n) : ∀ sig, parseMethodDescriptor M.1.desc = some sig → n = sig.parameters.length := by
  intro sig hs
  have h2 := h.2.2.2
  rw [hs] at h2
  exact (Option.some.inj h2).symm
theorem MfS.good {M : Mt} {n : Nat} (h : MfS M n) : GoodIn WS (wdM M :: WS) := by
  intro w hw
  rcases List.mem_cons.mp hw with e | hw
  · rw [e]; exact ⟨h.1, good_of_word (WS_good _ h.1)⟩
  · exact ⟨hw, good_of_word (WS_good _ hw)⟩
theorem Pc0_blind (Γ : Gm) (w : Wd) (av : List Value) : FrameBlind (Pc0 Γ w av) := fun a U g mk q => ⟨q.1, q.2.1.same (U := U.calling g mk a) rfl, q.2.2.1.moved (U := U.calling g mk a) (Vm.Alike.refl U.vm), q.2.2.2⟩
section CR
variable {M : Mt} {l : Launch} {Γ : Gm} {R : Room} {Q : QT} {cells slots pc : Nat} {ls : List (Option Value)} {w : Wd}
theorem W_callk {p : Program} {e : Env} {s : State} {m : MethodId} {args a : Array Value} {below : List Frame} {meth : Method} {c : Code} {H : Heap} {locs : List Loc} {mc ms : Nat} {la : Array Slot} {st0 rest : List Value} {r1 : Option Value} {w1 : Wd} {Q1 : State → Prop} (hr : va_Run p l e R s m args below meth c H locs cells slots mc ms (F0 m pc la st0) rest (Qc0 Γ r1 w1 a) (fun q => Γ.2.2.2 ≤ q)) (hS : HS Γ s H locs w)
    (kk : ∀ (H1 : Heap) (locs1 : List Loc), HS Γ s H1 locs1 w1 → W p l e R s m args below meth c H1 locs1 (cells + mc) (slots + ms) Q1 (F0 m (pc + 3) la ((r1.map (rv Γ)).toList ++ rest))) : W p l e R s m args below meth c H locs cells slots Q1 (F0 m pc la st0) := by
  intro T hT X
  obtain ⟨v, st₀, t, T', L, h0, X', hL, e1, e2, ⟨hv, hrep, hfr⟩, st⟩ := hr T hT X
  have hv := Outcome.returned.inj hv
  subst hv
  rw [h0] at hfr
  obtain ⟨t2, a1, b1⟩ := kk T'.heap (locs ++ L) ⟨by rw [e1]; exact hrep, fun q hq => by rw [e1, hfr q hq]; exact hS.2.1 q hq, fun z hz => (List.mem_append.mp hz).elim (hS.2.2 z) (hL z)⟩ T' rfl X'
  exact ⟨t2, st t2 a1, b1⟩
theorem pre_call {s : State} {H : Heap} {locs : List Loc} {p : Program} {m : MethodId} {args : Array Value} {meth : Method} {c : Code} (X : Cx M Γ p s m args meth c) (hS : HS Γ s H locs w) (av : List Value) : ∀ U : State, U.heap = H → s.WarmedH U.vm → Pc0 Γ w av (av.map (rv Γ)).toArray U := by
  intro U hU hW
  refine ⟨rfl, X.2.2.2.2.2.2.2.2.1.warm hW, ?_, by rw [hU]; exact hS.1⟩
  rw [hU]
  exact (X.2.2.2.2.2.2.2.2.2.1.kept hS.2.1).moved hW.alike
theorem stk_map (As rest : List Value) (b : Value) : (As.reverse ++ b :: rest).map (rv Γ) = (As.map (rv Γ)).reverse ++ rv Γ b :: rest.map (rv Γ) := by simp
theorem stk_map0 (As rest : List Value) : (As.reverse ++ rest).map (rv Γ) = (As.map (rv Γ)).reverse ++ rest.map (rv Γ) := by simp
theorem cat_map (rest : List Value) : ((rest.map (rv Γ)).map fun v => v.category).sum = (rest.map fun v => v.category).sum := by
  rw [List.map_map]
  congr 1
  exact List.map_congr_left fun v _ => rv_cat Γ v
theorem ret_map (r1 : Option Value) (rest : List Value) : (r1.toList ++ rest).map (rv Γ) = (r1.map (rv Γ)).toList ++ rest.map (rv Γ) := by cases r1 <;> rfl
theorem g_callV {Mc : Mt} {n i ci D mc1 ms1 b : Nat} {As rest stk : List Value} {r1 : Option Value} {w1 : Wd} {q : vw_C} (hd : decode M.2.1 pc = .ok (.invokevirtual i, 3)) (hl : Cond.methodLink M.1.cls i Mc.1 ∈ WS) (hM : MfS Mc n) (hi : Cond.instanceMethod Mc.1 ∈ WS) (hse : Cond.selects Mc.1.cls Mc.1 Mc.1 ∈ WS) (hn : As.length = n) (hk : gK w b = some (.inl ci)) (hc : vwCl[ci]? = some q) (hq : q.1 = Mc.1.cls) (hs : As.reverse ++ .ref b :: rest = stk) (h8 : (rest.map fun v => v.category).sum ≤ 8)
    (hR : D + 1 ≤ R.frames ∧ 8 + (Mc.2.2.1 + 11) + 64 * D ≤ R.locals) (hcs : cells + mc1 ≤ R.cells ∧ slots + ms1 ≤ R.slots) (hr : Runs D Mc (.ref b :: As) w r1 w1 mc1 ms1)
    (kk : G M l Γ R Q (cells + mc1) (slots + ms1) (pc + 3) ls (r1.toList ++ rest) w1) : G M l Γ R Q cells slots pc ls stk w := by
  subst hs
  intro p e s m args below meth c H locs la X hS hl'
  have hts := X.2.2.2.2.1
  obtain ⟨q', hq', cell, g1, g2, g3, -⟩ := hS.1.obj hk
  cases hc.symm.trans hq'
  have hcls := (X.2.2.2.2.2.2.2.2.1.1.1 ci _ hc).2.1
  rw [hq] at hcls
  rw [stk_map]
  refine W_callk (va_runV (nL := M.2.2.1) (Ts := WS) (own := M.1.cls) (index := i) (bytes := Mc.2.1) (maxL := Mc.2.2.1) (ret := Mc.2.2.2) (As := As.map (rv Γ)) (rest := rest.map (rv Γ)) (C := Mc.1.cls) (n := n) ⟨X.1, X.2.1, X.2.2.1, X.2.2.2.1, hts⟩ (hr l Γ) ⟨⟨rfl, rfl, hR.1, hR.2, pay_in hts hM.good, List.mem_cons_self, hts _ hM.1, hts _ hM.2.1, hM.2.2.1, hM.len, hts _ hl⟩, hts _ hi, hts _ hse⟩
    ⟨Pc0_blind Γ w _, ⟨cell, g1, by rw [g3]; rfl, by rw [g2]; exact hcls⟩, pre_call X hS (.ref b :: As)⟩ rfl (by rw [List.length_map]; exact hn) hl'.1 rfl (lv_room (by rw [cat_map]; exact h8)) hd hcs) hS fun H1 locs1 hS1 => ?_
  have := kk p e s m args below meth c H1 locs1 la X hS1 hl'
  rw [ret_map] at this
  exact this
theorem g_callS {Mc : Mt} {n i D mc1 ms1 : Nat} {As rest stk : List Value} {r1 : Option Value} {w1 : Wd} (hd : decode M.2.1 pc = .ok (.invokestatic i, 3)) (hl : Cond.methodLink M.1.cls i Mc.1 ∈ WS) (hM : MfS Mc n) (hi : Cond.static Mc.1 ∈ WS) (hn : As.length = n) (hs : As.reverse ++ rest = stk) (h8 : (rest.map fun v => v.category).sum ≤ 8)
    (hR : D + 1 ≤ R.frames ∧ 8 + (Mc.2.2.1 + 11) + 64 * D ≤ R.locals) (hcs : cells + mc1 ≤ R.cells ∧ slots + ms1 ≤ R.slots) (hr : Runs D Mc As w r1 w1 mc1 ms1)
    (kk : G M l Γ R Q (cells + mc1) (slots + ms1) (pc + 3) ls (r1.toList ++ rest) w1) : G M l Γ R Q cells slots pc ls stk w := by
  subst hs
  intro p e s m args below meth c H locs la X hS hl'
  have hts := X.2.2.2.2.1
  rw [stk_map0]
  refine W_callk (va_runS (nL := M.2.2.1) (Ts := WS) (own := M.1.cls) (index := i) (bytes := Mc.2.1) (maxL := Mc.2.2.1) (ret := Mc.2.2.2) (As := As.map (rv Γ)) (rest := rest.map (rv Γ)) (n := n) ⟨X.1, X.2.1, X.2.2.1, X.2.2.2.1, hts⟩ (hr l Γ) ⟨⟨rfl, rfl, hR.1, hR.2, pay_in hts hM.good, List.mem_cons_self, hts _ hM.1, hts _ hM.2.1, hM.2.2.1, hM.len, hts _ hl⟩, hts _ hi⟩
    ⟨Pc0_blind Γ w _, pre_call X hS As⟩ rfl (by rw [List.length_map]; exact hn) hl'.1 rfl (lv_room (by rw [cat_map]; exact h8)) hd hcs) hS fun H1 locs1 hS1 => ?_
  have := kk p e s m args below meth c H1 locs1 la X hS1 hl'
  rw [ret_map] at this
  exact this
theorem g_callSN {Mc : Mt} {n i D mc1 ms1 : Nat} {host : String} {As rest stk : List Value} {r1 : Option Value} {w1 : Wd} (hd : decode M.2.1 pc = .ok (.invokestatic i, 3)) (hl : (M.1.cls, i, Mc.1, host) ∈ nestL) (hM : MfS Mc n) (hi : Cond.static Mc.1 ∈ WS) (hn : As.length = n) (hs : As.reverse ++ rest = stk) (h8 : (rest.map fun v => v.category).sum ≤ 8)
    (hR : D + 1 ≤ R.frames ∧ 8 + (Mc.2.2.1 + 11) + 64 * D ≤ R.locals) (hcs : cells + mc1 ≤ R.cells ∧ slots + ms1 ≤ R.slots) (hr : Runs D Mc As w r1 w1 mc1 ms1)
    (kk : G M l Γ R Q (cells + mc1) (slots + ms1) (pc + 3) ls (r1.toList ++ rest) w1) : G M l Γ R Q cells slots pc ls stk w := by
  subst hs
  intro p e s m args below meth c H locs la X hS hl'
  have hts := X.2.2.2.2.1
  rw [stk_map0]
  refine W_callk (va_runSN (nL := M.2.2.1) (Ts := WS) (own := M.1.cls) (index := i) (bytes := Mc.2.1) (maxL := Mc.2.2.1) (ret := Mc.2.2.2) (As := As.map (rv Γ)) (rest := rest.map (rv Γ)) (n := n) (host := host) ⟨X.1, X.2.1, X.2.2.1, X.2.2.2.1, hts⟩ (hr l Γ) ⟨⟨⟨rfl, rfl, hR.1, hR.2, pay_in hts hM.good, List.mem_cons_self⟩, hts _ hM.1, hts _ hM.2.1, hM.2.2.1, hM.len, va_Nw.use rfl (X.2.2.2.2.2.2.2.2.1.2.1 _ hl)⟩, hts _ hi, trivial⟩
    ⟨Pc0_blind Γ w _, pre_call X hS As⟩ rfl (by rw [List.length_map]; exact hn) hl'.1 rfl (lv_room (by rw [cat_map]; exact h8)) hd hcs) hS fun H1 locs1 hS1 => ?_
  have := kk p e s m args below meth c H1 locs1 la X hS1 hl'
  rw [ret_map] at this
  exact this
theorem g_callI {Mc : Mt} {n i D mc1 ms1 b : Nat} {As rest stk : List Value} {w1 : Wd} (hd : decode M.2.1 pc = .ok (.invokespecial i, 3)) (hl : Cond.methodLink M.1.cls i Mc.1 ∈ WS) (hM : MfS Mc n) (hi : Cond.instanceMethod Mc.1 ∈ WS) (hin : Mc.1.name = "<init>") (hrt : Mc.2.2.2 = none) (hn : As.length = n) (hs : As.reverse ++ .ref b :: rest = stk) (h8 : (rest.map fun v => v.category).sum ≤ 8)
    (hR : D + 1 ≤ R.frames ∧ 8 + (Mc.2.2.1 + 11) + 64 * D ≤ R.locals) (hcs : cells + mc1 ≤ R.cells ∧ slots + ms1 ≤ R.slots) (hr : Runs D Mc (.ref b :: As) w none w1 mc1 ms1)
    (kk : G M l Γ R Q (cells + mc1) (slots + ms1) (pc + 3) ls rest w1) : G M l Γ R Q cells slots pc ls stk w := by
  subst hs
  obtain ⟨yc, bc, nc, rc⟩ := Mc
  cases hrt
  intro p e s m args below meth c H locs la X hS hl'
  have hts := X.2.2.2.2.1
  rw [stk_map]
  exact W_callk (va_runI (nL := M.2.2.1) (Ts := WS) (own := M.1.cls) (index := i) (bytes := bc) (maxL := nc) (As := As.map (rv Γ)) (rest := rest.map (rv Γ)) (n := n) ⟨X.1, X.2.1, X.2.2.1, X.2.2.2.1, hts⟩ (hr l Γ) ⟨⟨rfl, rfl, hR.1, hR.2, pay_in hts hM.good, List.mem_cons_self, hts _ hM.1, hts _ hM.2.1, hM.2.2.1, hM.len, hts _ hl⟩, hin, hts _ hi⟩
    ⟨Pc0_blind Γ w _, pre_call X hS (.ref b :: As)⟩ rfl (by rw [List.length_map]; exact hn) hl'.1 rfl (lv_room (by rw [cat_map]; exact h8)) hd hcs) hS fun H1 locs1 hS1 => kk p e s m args below meth c H1 locs1 la X hS1 hl'
theorem g_callIN {Mc : Mt} {n i D mc1 ms1 b : Nat} {host : String} {As rest stk : List Value} {w1 : Wd} (hd : decode M.2.1 pc = .ok (.invokespecial i, 3)) (hl : (M.1.cls, i, Mc.1, host) ∈ nestL) (hM : MfS Mc n) (hi : Cond.instanceMethod Mc.1 ∈ WS) (hin : Mc.1.name = "<init>") (hrt : Mc.2.2.2 = none) (hn : As.length = n) (hs : As.reverse ++ .ref b :: rest = stk) (h8 : (rest.map fun v => v.category).sum ≤ 8)
    (hR : D + 1 ≤ R.frames ∧ 8 + (Mc.2.2.1 + 11) + 64 * D ≤ R.locals) (hcs : cells + mc1 ≤ R.cells ∧ slots + ms1 ≤ R.slots) (hr : Runs D Mc (.ref b :: As) w none w1 mc1 ms1)
    (kk : G M l Γ R Q (cells + mc1) (slots + ms1) (pc + 3) ls rest w1) : G M l Γ R Q cells slots pc ls stk w := by
  subst hs
  obtain ⟨yc, bc, nc, rc⟩ := Mc
  cases hrt
  intro p e s m args below meth c H locs la X hS hl'
  have hts := X.2.2.2.2.1
  rw [stk_map]
  exact W_callk (va_runIN (nL := M.2.2.1) (Ts := WS) (own := M.1.cls) (index := i) (bytes := bc) (maxL := nc) (As := As.map (rv Γ)) (rest := rest.map (rv Γ)) (n := n) (host := host) ⟨X.1, X.2.1, X.2.2.1, X.2.2.2.1, hts⟩ (hr l Γ) ⟨⟨⟨rfl, rfl, hR.1, hR.2, pay_in hts hM.good, List.mem_cons_self⟩, hts _ hM.1, hts _ hM.2.1, hM.2.2.1, hM.len, va_Nw.use rfl (X.2.2.2.2.2.2.2.2.1.2.1 _ hl)⟩, hin, hts _ hi⟩
    ⟨Pc0_blind Γ w _, pre_call X hS (.ref b :: As)⟩ rfl (by rw [List.length_map]; exact hn) hl'.1 rfl (lv_room (by rw [cat_map]; exact h8)) hd hcs) hS fun H1 locs1 hS1 => kk p e s m args below meth c H1 locs1 la X hS1 hl'
theorem g_objI {i b : Nat} {st : List Value} (hd : decode M.2.1 pc = .ok (.invokespecial i, 3)) (hl : Cond.methodLink M.1.cls i objectInit ∈ WS) (hi : Cond.instanceMethod objectInit ∈ WS) (hc : Cond.code objectInit ⟨#[0xb1]⟩ 1 none ∈ WS) (hR : 1 ≤ R.frames ∧ (st.map fun v => v.category).sum + 12 ≤ R.locals) (kk : G M l Γ R Q cells slots (pc + 3) ls st w) : G M l Γ R Q cells slots pc ls (.ref b :: st) w := by
  intro p e s m args below meth c H locs la X hS hl'
  have hts := X.2.2.2.2.1
  refine W.objInit X.1 X.2.1 X.2.2.2.1 (hts _ hl) (hts _ hi) (hts _ hc) rfl (by rw [X.2.2.1]; exact hl'.1) rfl hd hR.1 ?_ (kk p e s m args below meth c H locs la X hS hl')
  show 2 * 0 + _ + 12 ≤ _
  rw [cat_map]
  omega
theorem W_nret {p : Program} {e : Env} {s : State} {m : MethodId} {args : Array Value} {below : List Frame} {meth : Method} {c : Code} {H : Heap} {locs : List Loc} {cc : ByteArray} {Qc : Array Value → State → Outcome → State → Prop} {free : Addr → Prop} {v u : Int32} {ty : FieldType} (hexec : p.tables.exec = Jvm.exec) (hb : c.code = cc) (hr : meth.sig.returnType = some ty) (hn : narrow ty (.int v) = .int u)
    (hq : ∀ t : State, t.heap = H → s.WarmedH t.vm → Qc args s (.returned (some (.int u))) t) (hf : ∀ q ∈ locs, free q.base)
    {la : Array Slot} (hdg : decode cc pc = .ok (.ireturn, 1)) (hlocks : meth.locks = false) : W p l e R s m args below meth c H locs cells slots (MQ below Qc args s cells slots free) (F0 m pc la [.int v]) := by
  intro T hT X
  obtain ⟨fs, hret, hrun, hended, hW, hframe⟩ := X.leave (v := some (.int u)) (fun h => by rw [hr] at h; cases h)
  have hmeth' : T.vm.method? m = some meth := X.method'
  refine ⟨T.setFrames fs, ?_, .returned (some (.int u)), hrun, hended, hq _ hT hW, locs, ⟨⟨_, rfl⟩, hW, hframe⟩, hf⟩
  jvm_step X.here [X.here.top, hexec, hb, hdg, hmeth', hr, hn]
  (try refine ⟨rfl, ?_⟩); (try refine ⟨rfl, ?_⟩)
  first | (intro acts; rw [hret _ acts rfl rfl rfl]) | rw [hret _ _ rfl rfl rfl]
  exact Steps.refl _
theorem g_iret {v u : Int32} {ty : FieldType} {mc ms : Nat} (hd : decode M.2.1 pc = .ok (.ireturn, 1)) (hr : M.2.2.2 = some ty) (hn : narrow ty (.int v) = .int u) (h1 : cells ≤ mc) (h2 : slots ≤ ms) : G M l Γ R (mQ Γ (some (.int u)) w mc ms) cells slots pc ls [.int v] w := by
  intro p e s m args below meth c H locs la X hS hl
  refine W.widen h1 h2 ?_
  exact W_nret X.1 X.2.1 (X.2.2.2.2.2.1.trans hr) hn (fun t ht hW => ⟨rfl, by rw [ht]; exact hS.1, fun q hq => by rw [ht]; exact hS.2.1 q hq⟩) hS.2.2 hd X.2.2.2.2.2.2.1
theorem g_lret {v : Int64} {mc ms : Nat} (hd : decode M.2.1 pc = .ok (.lreturn, 1)) (hr : M.2.2.2 = some .long) (h1 : cells ≤ mc) (h2 : slots ≤ ms) : G M l Γ R (mQ Γ (some (.long v)) w mc ms) cells slots pc ls [.long v] w := by
  intro p e s m args below meth c H locs la X hS hl
  refine W.widen h1 h2 ?_
  exact W.lret X.1 X.2.1 (X.2.2.2.2.2.1.trans hr) (fun t ht hW => ⟨rfl, by rw [ht]; exact hS.1, fun q hq => by rw [ht]; exact hS.2.1 q hq⟩) hS.2.2 hd X.2.2.2.2.2.2.1
theorem g_vret {mc ms : Nat} (hd : decode M.2.1 pc = .ok (.return_, 1)) (hr : M.2.2.2 = none) (h1 : cells ≤ mc) (h2 : slots ≤ ms) : G M l Γ R (mQ Γ none w mc ms) cells slots pc ls [] w := by
  intro p e s m args below meth c H locs la X hS hl
  refine W.widen h1 h2 ?_
  exact W.vret X.1 X.2.1 (X.2.2.2.2.2.1.trans hr) (fun t ht hW => ⟨rfl, by rw [ht]; exact hS.1, fun q hq => by rw [ht]; exact hS.2.1 q hq⟩) hS.2.2 hd X.2.2.2.2.2.2.1
theorem g_aret {x : Nat} {n : String} {mc ms : Nat} (hd : decode M.2.1 pc = .ok (.areturn, 1)) (hr : M.2.2.2 = some (.object n)) (h1 : cells ≤ mc) (h2 : slots ≤ ms) : G M l Γ R (mQ Γ (some (.ref x)) w mc ms) cells slots pc ls [.ref x] w := by
  intro p e s m args below meth c H locs la X hS hl
  refine W.widen h1 h2 ?_
  exact W.aret X.1 X.2.1 (X.2.2.2.2.2.1.trans hr) (Or.inl ⟨n, rfl⟩) (Or.inr ⟨_, rfl⟩) (fun t ht hW => ⟨rfl, by rw [ht]; exact hS.1, fun q hq => by rw [ht]; exact hS.2.1 q hq⟩) hS.2.2 hd X.2.2.2.2.2.2.1
/-- System.arraycopy(a, 0, b, 0, n) of ints -/
theorem g_copy {i a b n0 n1 N : Nat} {n : Int32} {st : List Value} (hd : decode M.2.1 pc = .ok (.invokestatic i, 3)) (hl : Cond.methodLink M.1.cls i arraycopyName ∈ WS) (hna : Cond.native arraycopyName ∈ WS) (hst : Cond.static arraycopyName ∈ WS) (hini : Cond.initialized "java/lang/System" ∈ WS) (hka : gK w a = some (.inr (.int, n0))) (hkb : gK w b = some (.inr (.int, n1))) (h7a : 7 ≤ a) (h7 : 7 ≤ b) (hn : ¬ n < 0) (hN : n.toNatClampNeg = N) (h0 : N ≤ n0) (h1 : N ≤ n1) (hR : 1 ≤ R.frames ∧ (st.map fun v => v.category).sum + (nativeFrameWords "java/lang/System" "arraycopy" 5 + 11) ≤ R.locals)
    (kk : G M l Γ R Q cells slots (pc + 3) ls st (sC w a b N)) : G M l Γ R Q cells slots pc ls (.int n :: .int 0 :: .ref b :: .int 0 :: .ref a :: st) w := by
  subst hN
  intro p e s m args below meth c H locs la X hS hl'
  have hts := X.2.2.2.2.1
  have hzero : (0 : Int32).toNatClampNeg = 0 := rfl
  have nn : n.toInt = (n.toNatClampNeg : Int) := by
    have hz0 : (0 : Int) ≤ n.toInt := by
      have := Int32.not_lt.mp hn
      simpa using Int32.le_iff_toInt_le.mp this
    show n.toInt = ((n.toInt.toNat : Nat) : Int)
    omega
  intro T hT Xs
  have hc0 := hS.1.arr h7a hka
  have hc1 := hS.1.arr h7 hkb
  obtain ⟨-, k0, hk0, cm0, hkk0⟩ := ar_of X.2.2.2.2.2.2.2.2.1 0 rfl n0 (fun k => fv Γ w .int a k)
  obtain ⟨-, k1, hk1, cm1, hkk1⟩ := ar_of X.2.2.2.2.2.2.2.2.1 0 rfl n1 (fun k => fv Γ w .int b k)
  obtain ⟨vm', X', step⟩ := Xs.arraycopy X.1 X.2.2.2.1 (hts _ hl) (hts _ hna) (hts _ hst) (hts _ hini) (src := ad Γ a) (dst := ad Γ b) (cs := arrV (Γ.2.1 .int) n0 (fun k => fv Γ w .int a k)) (cd := arrV (Γ.2.1 .int) n1 (fun k => fv Γ w .int b k)) (srcPos := 0) (destPos := 0) (n := n) (by rw [hT]; exact hc0) (by rw [hT]; exact hc1)
    (fun _ h => by cases h) (fun _ h => by cases h) (fun h => by cases h) (fun h => by cases h) hk0 hk1 hkk0 hkk1 (by simp [refKind]) (by decide) (by decide) hn
    (by rw [nn, arrV_size]; show ¬ (0 : Int) + _ > _; omega)
    (by rw [nn, arrV_size]; show ¬ (0 : Int) + _ > _; omega)
    (fun vm₁ _ i hi => by
      have e : (arrV (Γ.2.1 .int) n0 (fun k => fv Γ w .int a k)).slots.getD ((0 : Int32).toNatClampNeg + i) .null = .int (gI w a ((0 : Int32).toNatClampNeg + i)) := by
        rw [Array.getD_eq_getD_getElem?, arrV_read _ _ (by rw [hzero]; omega)]
        rfl
      refine ⟨?_, ?_⟩
      · rw [e]; rfl
      · rw [e]; exact trivial)
    (g := F0 m pc la (.int n :: .int 0 :: .ref (ad Γ b) :: .int 0 :: .ref (ad Γ a) :: st.map (rv Γ))) rfl (by rw [X.2.2.1]; exact hl'.1) (rest := st.map (rv Γ)) rfl (by rw [X.2.1]; exact hd) hR.1 (by show 2 * 0 + _ + _ ≤ _; rw [cat_map]; have := hR.2; omega)
  have e1 : copied (arrV (Γ.2.1 .int) n0 (fun k => fv Γ w .int a k)) (arrV (Γ.2.1 .int) n1 (fun k => fv Γ w .int b k)) 0 0 n = arrV (Γ.2.1 .int) n1 (fun j => .int (va_cpy (gI w a) (gI w b) (0 : Int32).toNatClampNeg (0 : Int32).toNatClampNeg n.toNatClampNeg j)) := va_copied (fun z => .int z) (Γ.2.1 .int) (Γ.2.1 .int) (gI w a) (gI w b) (by rw [hzero]; omega)
  rw [e1] at X' step
  have hl1 : ad Γ b < H.size := (Array.getElem?_eq_some_iff.mp hc1).1
  have oq : ∀ (x : Cell) (q : Nat), q ≠ ad Γ b → (H.setIfInBounds (ad Γ b) x)[q]? = H[q]? := fun x q hq => by simp [Array.getElem?_setIfInBounds, Ne.symm hq]
  have hg : Γ.2.2.2 ≤ ad Γ b := ad_ge h7
  have hR1 : Rep Γ (sC w a b n.toNatClampNeg) (H.setIfInBounds (ad Γ b) (arrV (Γ.2.1 .int) n1 (fun j => .int (va_cpy (gI w a) (gI w b) (0 : Int32).toNatClampNeg (0 : Int32).toNatClampNeg n.toNatClampNeg j)))) := by
    refine hS.1.put h7 rfl (fun x hx y => ⟨if_neg fun z => hx z.1, rfl, rfl⟩) (by simp) (oq _) ?_
    unfold cellAt
    rw [show gK (sC w a b n.toNatClampNeg) b = gK w b from rfl, hkb]
    show arrAt Γ b .int n1 _ (H.setIfInBounds (ad Γ b) _)
    rw [arrAt_7 h7, show (H.setIfInBounds (ad Γ b) (arrV (Γ.2.1 .int) n1 (fun j => .int (va_cpy (gI w a) (gI w b) (0 : Int32).toNatClampNeg (0 : Int32).toNatClampNeg n.toNatClampNeg j))))[ad Γ b]? = some (arrV (Γ.2.1 .int) n1 (fun j => .int (va_cpy (gI w a) (gI w b) (0 : Int32).toNatClampNeg (0 : Int32).toNatClampNeg n.toNatClampNeg j))) by simp [Array.getElem?_setIfInBounds, hl1]]
    congr 2
    funext j
    show Value.int _ = Value.int (if b = b ∧ j < n.toNatClampNeg then gI w a j else gI w b j)
    rw [hzero]
    by_cases q : j < n.toNatClampNeg
    · rw [if_pos ⟨rfl, q⟩, pk_cpy_in (Nat.zero_le _) (by omega)]
      simp
    · rw [if_neg (fun z => q z.2), pk_cpy_out (Or.inr (by omega))]
  have hheap : ((T.setVm vm').setCell (ad Γ b) (arrV (Γ.2.1 .int) n1 (fun j => .int (va_cpy (gI w a) (gI w b) (0 : Int32).toNatClampNeg (0 : Int32).toNatClampNeg n.toNatClampNeg j)))).heap = H.setIfInBounds (ad Γ b) (arrV (Γ.2.1 .int) n1 (fun j => .int (va_cpy (gI w a) (gI w b) (0 : Int32).toNatClampNeg (0 : Int32).toNatClampNeg n.toNatClampNeg j))) := by rw [← hT]; rfl
  obtain ⟨t, a1, b1⟩ := kk p e s m args below meth c _ _ la X ⟨hR1, fun q hq => by rw [oq _ q (by omega)]; exact hS.2.1 q hq, fun z hz => by
      rcases List.mem_append.mp hz with h | h
      · exact hS.2.2 z h
      · obtain ⟨y, -, hy⟩ := List.mem_map.mp h
        rw [← hy]
        exact hg⟩ hl' _ hheap X'
  exact ⟨t, step t a1, b1⟩
end CR
