/-! ===== DarkLamps.train throws: a contract (the row th_throw follows vx_throw0, with the heap's size told) ===== -/
theorem th_throw {p : Program} {l : Launch} {e : Env} {R : Room} {s : State} {m : MethodId} {args : Array Value} {below : List Frame} {meth : Method} {c : Code} {H : Heap} {locs : List Loc} {cells slots : Nat} {ls : Array Slot} {rest : List Value} {Qc : Array Value → State → Outcome → State → Prop} {XC : String → State → State → Prop} {free : Addr → Prop} {cc : ByteArray} {pc : Nat} (hexec : p.tables.exec = Jvm.exec) (hb : c.code = cc) (hl : l.stackTraces = false) {own cls : String} {names : List String} {ik ic mc ms : Nat} {A : Nat → Prop}
    (hown : s.vm.findClass own = some m.cls) (hcls : Bundle.fit cls = true) (hnames : ∀ n ∈ names, Bundle.fit n = true)
    (hk : (Cond.classLink own ik cls).before args s = true) (hini : (Cond.initialized cls).before args s = true) (hat : ∀ w ∈ vx_at0 own ic cls names, w.before args s = true)
    (hgood : ∀ w ∈ Cond.classLink own ik cls :: Cond.initialized cls :: vx_at0 own ic cls names, vx_ot w = true)
    (hU : vx_Zq Bundle.tN "UNASSIGNED_STACK" Bundle.steD A s s.heap) (hN : vx_Zq Bundle.tN "SUPPRESSED_SENTINEL" Bundle.listD A s s.heap) (hS : va_S A s.heap H locs) (hsize : ls.size = c.maxLocals)
    (d0 : decode cc pc = .ok (.new ik, 3)) (d3 : decode cc (pc + 3) = .ok (.dup, 1)) (d4 : decode cc (pc + 4) = .ok (.invokespecial ic, 3)) (d7 : decode cc (pc + 7) = .ok (.athrow, 1))
    (hout : ∀ x ∈ c.exceptionTable.toList, covers x (pc + 7) = false)
    (hRframes : names.length + 3 < R.frames) (hRlocals : (rest.map fun v => v.category).sum + (13 * (names.length + 1) + 42) ≤ R.locals) (hRcells : cells + 1 ≤ R.cells) (hRslots : slots + 6 ≤ R.slots) (hlocks : meth.locks = false)
    (hx : ∀ t : State, s.vm.Alike t.vm → t.heap.size = H.size + 1 → (∀ q : Nat, q < H.size → t.heap[q]? = H[q]?) → XC cls s t)
    (hf : ∀ z ∈ locs, free z.base) (hc : cells + 1 ≤ mc) (hs : slots + 6 ≤ ms) :
    W p l e R s m args below meth c H locs cells slots (vx_MQ below Qc XC args s mc ms free) (F0 m pc ls rest) := by
  intro T hT X
  have htr : e.platform.stackTraces = false := (show e.platform.stackTraces = l.stackTraces by rw [X.admits.platform]).trans hl
  have Y := vx_rebase X (R' := { frames := R.frames, locals := R.locals, cells := 1, slots := 6 }) (Nat.le_refl _) (Nat.le_refl _) hRcells hRslots
  obtain ⟨s', hA⟩ : ∃ z, z = (T.setVm s.vm).setFrames (.invoking m args :: below) := ⟨_, rfl⟩
  rw [← hA] at Y
  have hvm : s'.vm = s.vm := by rw [hA]; rfl
  have hhp : s'.heap = H := by rw [hA]; exact hT
  have hW0 : s.WarmedH s'.vm := by rw [hvm]; exact State.WarmedH.refl s
  have hat' : ∀ w ∈ vx_at0 own ic cls names, w.before args s' = true := fun w hw => vx_ot_at hW0 hvm.symm (hgood w (List.mem_cons_of_mem _ (List.mem_cons_of_mem _ hw))) (hat w hw)
  have hk' : (Cond.classLink own ik cls).before args s' = true := vx_ot_at hW0 hvm.symm (hgood _ List.mem_cons_self) hk
  have hini' : (Cond.initialized cls).before args s' = true := vx_ot_at hW0 hvm.symm (hgood _ (List.mem_cons_of_mem _ List.mem_cons_self)) hini
  have hU' : vx_Zq Bundle.tN "UNASSIGNED_STACK" Bundle.steD A s' s'.heap := by rw [hhp]; exact vx_Zq.moved hW0.alike (hU.kept hS.2.1)
  have hN' : vx_Zq Bundle.tN "SUPPRESSED_SENTINEL" Bundle.listD A s' s'.heap := by rw [hhp]; exact vx_Zq.moved hW0.alike (hN.kept hS.2.1)
  have h : ∀ w ∈ Bundle.ownAtoms0 own ic cls names, w.before args s' = true := vx_own hat' (vx_isRefq hU'.1) (vx_isRefq hN'.1) hU'.2.word hN'.2.word
  have hown' : s'.vm.findClass own = some m.cls := by rw [hvm]; exact hown
  have hins : (Cond.instantiable cls 6).before args s' = true := h _ (by simp [Bundle.ownAtoms0])
  obtain ⟨vm₁, cX, kX, hfX, hkX, -, -, X₁, st1⟩ := Y.newCold hexec (own := own) (C := cls) (index := ik) (n := 6) hown' hk' hins hini'
    (g := F0 m pc ls rest) rfl (by rw [hb]; exact d0) (Nat.le_refl _) (Nat.le_refl _)
  generalize hT1 : (T.setVm vm₁).pushCell { cls := cX, slots := kX.instanceTypes.map defaultValue, vm := .none } = T1 at X₁ st1
  have hcat : (Value.ref T.heap.size).category = 1 := rfl
  have hcellA : T1.heap[T.heap.size]? = some (freshCell cX kX) := by rw [← hT1]; exact State.heap_pushCell_size _ _
  have d3' : decode c.code (pc + 3) = .ok (.dup, 1) := by rw [hb]; exact d3
  obtain ⟨U, hsteps, hrun, hend, hW, hsame, ce, hce, hO⟩ := X₁.ctorThrow0 hexec htr (own := own) (cls := cls) (names := names) (ic := ic) hown' hcls hnames h (fun x hx => nomatch hx) hfX hkX hcellA (by rw [hhp, hT]; exact Nat.le_refl _)
    (g := { method := m, pc := pc + 4, locals := ls, stack := .ref T.heap.size :: .ref T.heap.size :: rest, locked := none }) rfl hsize rfl rfl (rest := rest) rfl
    (by rw [hb]; exact d4) (by rw [hb]; exact d7) hout hRframes (by simp only [List.map_cons, List.sum_cons, hcat]; omega) hlocks
  obtain ⟨f1, f2⟩ := vx_frame hsame
  rw [hhp] at f1 f2
  have hz1 : U.heap.size = H.size + 1 := by
    have z1 : T.heap.size < U.heap.size := (Array.getElem?_eq_some_iff.mp hce).1
    have z2 := hsame.2.2.1
    rw [hT] at z1
    have z3 : U.heap.size ≤ s'.heap.size + (0 + 1) := z2
    rw [hhp] at z3
    omega
  have hWs : s.WarmedH U.vm := State.WarmedH.trans hW0 hW
  have hcl : s.vm.findClass cls = some ce.cls := by
    have h9 := hO.cls
    rw [hvm] at h9
    exact h9
  have hall : s.sameButNew ({ U with vm := s.vm } : State) locs mc ms := by
    subst hA
    obtain ⟨e1, e2⟩ := hsame
    rw [State.setFrames_setFrames] at e1
    have h2 : (T.setVm s.vm).sameButNew ({ U with vm := s.vm } : State) [] (0 + 1) (0 + 6) := ⟨e1, e2⟩
    have h3 := X.same.trans h2
    rw [List.append_nil] at h3
    exact h3.mono hc hs
  refine ⟨U, ?_, .threw T.heap.size, hrun, hend, Or.inr ⟨T.heap.size, rfl, cls, ce, locs, hx U hWs.alike hz1 (fun q hq => f2 q hq (fun z hz => nomatch hz)), hce, hO.vm, hcl, hWs, hall, hf⟩⟩
  refine st1 _ ?_
  show Steps p.tables e below (T1.setTop { method := m, pc := pc + 3, locals := ls, stack := .ref T.heap.size :: rest, locked := none }) _
  jvm_step X₁.here [X₁.here.top, hexec, d3', Value.category]
  exact hsteps
theorem th_ins : Cond.instantiable nsE 6 ∈ WS := List.mem_filter.mpr ⟨th_in _ (by decide +kernel), by decide +kernel⟩
theorem th_all {args : Array Value} {s : State} (hts : ∀ w ∈ WS, w.before args s = true) : ∀ w ∈ thW, w.before args s = true := by
  obtain ⟨c, k, hc, -⟩ := Cond.instantiable_spec (hts _ th_ins)
  intro w hw
  by_cases g : goodWord w = true
  · exact hts w (List.mem_filter.mpr ⟨th_in w hw, g⟩)
  · have hb := th_bad w (List.mem_filter.mpr ⟨hw, by simp only [g]; rfl⟩)
    simp only [List.mem_cons, List.not_mem_nil, or_false] at hb
    rcases hb with rfl | rfl | rfl | rfl
    · exact th_code hts th_w1.1 th_w1.2
    · exact th_code hts th_w2.1 th_w2.2
    · exact th_code hts th_w3.1 th_w3.2
    · exact castable_self hc
def XCt (Γ : Gm) (w : Wd) : String → State → State → Prop := fun E st t => E = nsE ∧ Rep Γ w t.heap ∧ ∀ q : Nat, q < Γ.2.2.2 → t.heap[q]? = st.heap[q]?
def Qn : Array Value → State → Outcome → State → Prop := fun _ _ _ _ => False
def noX (args : Array Value) (below : List Frame) (s : State) : Prop := ∀ m meth c, s.frames = Frame.invoking m args :: below → s.vm.method? m = some meth → meth.code = some c → ∀ x ∈ c.exceptionTable.toList, False
def xQ (Γ : Gm) (w : Wd) : QT := fun below args s t => noX args below s → vx_MQ below Qn (XCt Γ w) args s 1 6 (fun q => Γ.2.2.2 ≤ q) t
/-- new; dup; invokespecial; athrow at pc 20 -/
theorem g_throw {l : Launch} {Γ : Gm} {R : Room} {ls : List (Option Value)} {w : Wd} (hst : l.stackTraces = false) (hR : 6 ≤ R.frames ∧ 100 ≤ R.locals ∧ 1 ≤ R.cells ∧ 6 ≤ R.slots) : G mX11_train l Γ R (xQ Γ (sE w)) 0 0 20 ls [] w := by
  intro p e s m args below meth c H locs la X hS hl T hT Xs
  by_cases hno : noX args below s
  · obtain ⟨r1, r2, r3, r4⟩ := hR
    have hts := X.2.2.2.2.1
    have hw := th_all hts
    have hz := hS.1.1
    have h7 := hS.1.2.2.2.1
    have hle : Γ.2.2.2 ≤ H.size := by omega
    have hss : s.heap.size ≤ H.size := by rw [← hT]; exact Xs.same.2.1
    have hK := X.2.2.2.2.2.2.2.2.2.1
    have htab := hno m meth c Xs.frames Xs.method Xs.code
    obtain ⟨t, t1, t2⟩ := th_throw (names := thN) (own := RX11) (cls := nsE) (ik := 164) (ic := 166) (A := fun a => Γ.2.2.2 ≤ a) (Qc := Qn) (XC := XCt Γ (sE w)) (mc := 1) (ms := 6) (free := fun q => Γ.2.2.2 ≤ q) (rest := []) (ls := la) X.1 X.2.1 hst X.2.2.2.1 (by decide +kernel) (by decide +kernel) (hw _ List.mem_cons_self) (hw _ (List.mem_cons_of_mem _ List.mem_cons_self)) (fun w h => hw w (List.mem_cons_of_mem _ (List.mem_cons_of_mem _ h))) th_ot hK.2.1 hK.2.2 ⟨hss, fun q hq hA => hS.2.1 q (Nat.not_le.mp hA), fun z hz => hS.2.2 z hz⟩ (by rw [X.2.2.1]; exact hl.1) dX11_train_20 dX11_train_23 dX11_train_24 dX11_train_27 (fun x hx => (htab x hx).elim) (by show 2 + 3 < _; omega) (by show 0 + (13 * (2 + 1) + 42) ≤ _; omega) (by omega) (by omega) X.2.2.2.2.2.2.1 (fun t hv hsz hq => ⟨rfl, hS.1.ex hsz hq, fun q hq1 => (hq q (by omega)).trans (hS.2.1 q hq1)⟩) hS.2.2 (by omega) (by omega) T hT Xs
    exact ⟨t, t1, fun _ => t2⟩
  · exact ⟨_, Steps.refl _, fun h => absurd h hno⟩
/-- train where there is no such -/
theorem r_train_x {V : Sm → Wd} (hV : VwC V) {a b : Int32} {S : Sm} (hno : ¬ trOK a b S) (l : Launch) (hst : l.stackTraces = false) (Γ : Gm) : vx_Met l mX11_train.1 (wdM mX11_train :: WS) (rmD 8 1 6) (Pc0 Γ (V S) [.ref 7, .int a, .int b]) Qn (XCt Γ (sE (V S))) 1 6 (fun q => Γ.2.2.2 ≤ q) := by
  have walk : G mX11_train l Γ (rmD 8 1 6) (xQ Γ (sE (V S))) 0 0 0 [some (.ref 7), some (.int a), some (.int b)] [] (V S) := by
    have thr : ∀ ls, G mX11_train l Γ (rmD 8 1 6) (xQ Γ (sE (V S))) 0 0 20 ls [] (V S) := fun ls => g_throw hst ⟨Nat.le_of_ble_eq_true rfl, Nat.le_of_ble_eq_true rfl, Nat.le_refl _, Nat.le_refl _⟩
    refine g_aload_n (pc := 0) dX11_train_0 rfl ?_
    refine v_getR hV (pc := 1) dX11_train_1 fo_11_6 rfl k0_7 r0_7_6 ?_
    refine g_iload_n (pc := 4) dX11_train_4 rfl ?_
    refine v_callVi hV (Mc := mX4_hasTrain) (v := Mo_hasTrain a S) (S1 := S) (As := [.int a]) (rest := []) (q := (RX4, TX4, 8)) (pc := 5) dX11_train_5 mK_X11_161 mf_X4_hasTrain rfl k0_25 rfl rfl rfl (Nat.le_of_ble_eq_true rfl) ⟨Nat.le_of_ble_eq_true rfl, Nat.le_of_ble_eq_true rfl⟩ (r_Mo_hasTrain hV rfl) ?_
    refine g_if_eq (tgt := 20) (pc := 8) dX11_train_8 (by decide) (fun _ => thr _) (fun o1 => ?_)
    refine g_iload_n (pc := 11) dX11_train_11 rfl ?_
    refine g_if_lt (tgt := 20) (pc := 12) dX11_train_12 (by decide) (fun _ => thr _) (fun o2 => ?_)
    refine g_iload_n (pc := 15) dX11_train_15 rfl ?_
    refine g_iconst (v := 3) (pc := 16) dX11_train_16 (by decide) ?_
    refine g_icmp_le (tgt := 28) (pc := 17) dX11_train_17 (by decide) (fun c => ?_) (fun _ => thr _)
    exact absurd ⟨o1, o2, Int32.not_lt.mpr c⟩ hno
  refine vx_ofW (cc := mX11_train.2.1) (maxL := mX11_train.2.2.1) (ret := mX11_train.2.2.2) (ws' := WS) rfl rfl ?_
  intro p e s m args below meth c s₁ B hml htab hv
  obtain ⟨rfl, hK, hZ, hR⟩ := hv
  have hts := atoms_spec (ws := wdM mX11_train :: WS) B.pre
  have hown : s.vm.findClass mX11_train.1.cls = some m.cls := findClass_of_methodNamed B.named
  have hin : meth.name = mX11_train.1.name := (name_of_methodNamed B.named B.method).1
  have hl := entL_has Γ [Value.ref 7, .int a, .int b] (n := mX11_train.2.2.1) (Nat.le_of_ble_eq_true rfl)
  have h1 := hR.1
  have h2 := hR.2.2.2.1
  have K := walk p e s m _ below meth c s.heap [] _ ⟨B.exec, B.bytes, hml, hown, fun w hw => hts w (List.mem_cons_of_mem _ hw), B.returns, B.notSynchronized, hin, hK, hZ, by omega⟩ ⟨hR, fun _ _ => rfl, fun _ h => by cases h⟩ (show hLs Γ _ mX11_train.2.2.1 [some (.ref 7), some (.int a), some (.int b)] from hl)
  rw [lg_entry_eq]
  intro T hT X
  obtain ⟨t, a1, b1⟩ := K T hT X
  refine ⟨t, a1, b1 fun m' meth' c' e1 e2 e3 x hx => htab x ?_⟩
  have em : m' = m := by
    have := B.frames.symm.trans e1
    have := (List.cons.inj this).1
    injection this with h1 h2
    exact h1.symm
  subst em
  have e4 : meth' = meth := Option.some.inj (e2.symm.trans B.method)
  subst e4
  have e5 : c' = c := Option.some.inj (e3.symm.trans X.code)
  subst e5
  exact hx
