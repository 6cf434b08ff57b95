/-! ===== the walk of a body over a typed world: G; a row an instruction; contracts: Runs ===== -/
def WS : List Cond := lw_tbl.filter goodWord
theorem WS_good : ∀ w ∈ WS, goodWord w = true := fun w h => (List.mem_filter.mp h).2
def nestL : List (String × Nat × MethodName × String) := [(RX11, 9, yX9_init, RX11), (RX11, 18, yX5_init, RX11), (RX11, 37, yX3_init, RX11), (RX11, 53, yX4_init, RX11), (RX0, 17, yX4_init, RX11), (RX9, 33, yX11_put, RX11), (RX5, 31, yX11_put, RX11), (RX5, 24, yX11_at, RX11), (RX6, 68, yX11_at, RX11), (RX6, 72, yX11_put, RX11), (RX6, 106, yX11_holds, RX11), (RX9, 57, yX11_at, RX11), (RX5, 60, yX11_darkOf, RX11), (RX3, 33, yX11_put, RX11), (RX3, 37, yX11_at, RX11), (RX5, 35, yX11_copy, RX11), (RX4, 87, yX11_darkOf, RX11), (RX4, 62, yX11_put, RX11), (RX4, 76, yX11_at, RX11), (RX4, 37, yX11_copy, RX11), (RX1, 54, yX11_faded, RX11), (RX1, 91, yX11_put, RX11), (RX1, 108, yX11_at, RX11), (RX10, 76, yX11_holds, RX11), (RX10, 108, yX11_put, RX11), (RX10, 116, yX11_at, RX11), (RX7, 69, yX11_faded, RX11), (RX7, 80, yX11_put, RX11), (RX7, 84, yX11_at, RX11), (RX7, 108, yX11_holds, RX11), (RX8, 39, yX11_put, RX11), (RX8, 69, yX11_at, RX11), (RX8, 77, yX11_darkOf, RX11)]
def statL : List (String × String × String × Nat) := [("DarkLamps$NetReader", "KINDS", "[C", 0), ("DarkLamps$Net", "FIRST", "[I", 1), ("DarkLamps$NetReader", "USUAL", "[I", 2), ("DarkLamps$NetReader", "LETTERS", "[I", 3), ("DarkLamps$NetReader", "LEAST", "[I", 4), ("DarkLamps$NetReader", "MOST", "[I", 5)]
def StOK (Γ : Gm) (U : State) : Prop := va_K Γ.1 vwCl (tyl Γ.2.1) U ∧ (∀ q ∈ nestL, va_Nw (.methodLinkNest q.1 q.2.1 q.2.2.1 q.2.2.2) U) ∧ va_AO "DarkLamps$Moment" U ∧ ∀ i, i < 7 → U.isArrayOf (Γ.2.2.1 i).2 (oty i) ∧ (Γ.2.2.1 i).2.vm ≠ .unknown
def SZ (Γ : Gm) (U : State) (H : Heap) : Prop := (∀ q ∈ statL, va_Z q.1 q.2.1 q.2.2.1 (.ref (ad Γ q.2.2.2)) (fun a => Γ.2.2.2 ≤ a) U H) ∧ vx_Zq Bundle.tN "UNASSIGNED_STACK" Bundle.steD (fun a => Γ.2.2.2 ≤ a) U H ∧ vx_Zq Bundle.tN "SUPPRESSED_SENTINEL" Bundle.listD (fun a => Γ.2.2.2 ≤ a) U H
theorem StOK.warm {Γ : Gm} {s U : State} (hW : s.WarmedH U.vm) (h : StOK Γ s) : StOK Γ U := ⟨va_K.moved hW.alike h.1, fun q hq => va_Nw.warmM hW (h.2.1 q hq), va_AO.moved hW.alike h.2.2.1, fun i hi => ⟨State.isArrayOf_alike hW.alike (h.2.2.2 i hi).1, (h.2.2.2 i hi).2⟩⟩
theorem StOK.same {Γ : Gm} {s U : State} (hv : s.vm = U.vm) (h : StOK Γ s) : StOK Γ U := h.warm (by rw [← hv]; exact State.WarmedH.refl s)
theorem SZ.moved {Γ : Gm} {s U : State} {H : Heap} (hW : s.vm.Alike U.vm) (h : SZ Γ s H) : SZ Γ U H := ⟨fun q hq => (h.1 q hq).moved hW, vx_Zq.moved hW h.2.1, vx_Zq.moved hW h.2.2⟩
theorem SZ.kept {Γ : Gm} {s : State} {H H1 : Heap} (h : SZ Γ s H) (hq : ∀ q : Nat, q < Γ.2.2.2 → H1[q]? = H[q]?) : SZ Γ s H1 := ⟨fun q hm => (h.1 q hm).kept (fun a _ ha => hq a (Nat.not_le.mp ha)), vx_Zq.kept h.2.1 (fun a _ ha => hq a (Nat.not_le.mp ha)), vx_Zq.kept h.2.2 (fun a _ ha => hq a (Nat.not_le.mp ha))⟩
abbrev Mt : Type := MethodName × ByteArray × Nat × Option FieldType
def rmD (D mc ms : Nat) : Room := { frames := D, cells := mc, slots := ms, locals := 64 * D }
def Pc0 (Γ : Gm) (w : Wd) (av : List Value) : Array Value → State → Prop := va_Pc (av.map (rv Γ)) (fun U => StOK Γ U ∧ SZ Γ U U.heap ∧ Rep Γ w U.heap)
def Qc0 (Γ : Gm) (r : Option Value) (w' : Wd) : Array Value → State → Outcome → State → Prop := fun _ st o t => o = .returned (r.map (rv Γ)) ∧ Rep Γ w' t.heap ∧ ∀ q : Nat, q < Γ.2.2.2 → t.heap[q]? = st.heap[q]?
abbrev wdM (M : Mt) : Cond := .code M.1 M.2.1 M.2.2.1 M.2.2.2
def Runs (D : Nat) (M : Mt) (av : List Value) (w : Wd) (r : Option Value) (w' : Wd) (mc ms : Nat) : Prop := ∀ (l : Launch) (Γ : Gm), Met l M.1 (wdM M :: WS) (rmD D mc ms) (Pc0 Γ w av) (Qc0 Γ r w') mc ms (fun q => Γ.2.2.2 ≤ q)
def Cx (M : Mt) (Γ : Gm) (p : Program) (s : State) (m : MethodId) (args : Array Value) (meth : Method) (c : Code) : Prop :=
  p.tables.exec = Jvm.exec ∧ c.code = M.2.1 ∧ c.maxLocals = M.2.2.1 ∧ s.vm.findClass M.1.cls = some m.cls ∧ (∀ w ∈ WS, w.before args s = true) ∧ meth.sig.returnType = M.2.2.2 ∧ meth.locks = false ∧ meth.name = M.1.name ∧ StOK Γ s ∧ SZ Γ s s.heap ∧ Γ.2.2.2 ≤ s.heap.size
def HS (Γ : Gm) (s : State) (H : Heap) (locs : List Loc) (w : Wd) : Prop := Rep Γ w H ∧ (∀ q : Nat, q < Γ.2.2.2 → H[q]? = s.heap[q]?) ∧ ∀ z ∈ locs, Γ.2.2.2 ≤ z.base
abbrev QT : Type := List Frame → Array Value → State → State → Prop
def G (M : Mt) (l : Launch) (Γ : Gm) (R : Room) (Q : QT) (cells slots pc : Nat) (ls : List (Option Value)) (st : List Value) (w : Wd) : Prop :=
  ∀ (p : Program) (e : Env) (s : State) (m : MethodId) (args : Array Value) (below : List Frame) (meth : Method) (c : Code) (H : Heap) (locs : List Loc) (la : Array Slot), Cx M Γ p s m args meth c → HS Γ s H locs w → hLs Γ la M.2.2.1 ls → W p l e R s m args below meth c H locs cells slots (Q below args s) (F0 m pc la (st.map (rv Γ)))
def mQ (Γ : Gm) (r : Option Value) (w' : Wd) (mc ms : Nat) : QT := fun below args s => MQ below (Qc0 Γ r w') args s mc ms (fun q => Γ.2.2.2 ≤ q)
theorem Runs.of {M : Mt} {D mc ms : Nat} {av : List Value} {w w' : Wd} {r : Option Value} (ls : List (Option Value)) (hls : entL av = ls) (hy : plainName M.1.cls = true) (hn : (lg_sl av).length ≤ M.2.2.1)
    (k : ∀ (l : Launch) (Γ : Gm), G M l Γ (rmD D mc ms) (mQ Γ r w' mc ms) 0 0 0 ls [] w) : Runs D M av w r w' mc ms := by
  intro l Γ
  refine Met.ofW (cc := M.2.1) (maxL := M.2.2.1) (ret := M.2.2.2) (ws' := WS) hy rfl ?_
  intro p e s m args below meth c s₁ B hml hv
  obtain ⟨rfl, hK, hZ, hR⟩ := hv
  have hts := atoms_spec (ws := wdM M :: WS) B.pre
  have hown : s.vm.findClass M.1.cls = some m.cls := findClass_of_methodNamed B.named
  have hin : meth.name = M.1.name := (name_of_methodNamed B.named B.method).1
  rw [lg_entry_eq]
  have hlen : (lg_sl (av.map (rv Γ))).length ≤ M.2.2.1 := by
    have e : ∀ vs : List Value, (lg_sl (vs.map (rv Γ))).length = (lg_sl vs).length := by
      intro vs
      induction vs with
      | nil => rfl
      | cons v t ih =>
        unfold lg_sl at ih ⊢
        rw [List.map_cons, List.flatMap_cons, List.flatMap_cons, List.length_append, List.length_append, ih, rv_cat]
        split <;> rfl
    rw [e]; exact hn
  have hl := entL_has Γ av hlen
  rw [hls] at hl
  refine k l Γ p e s m _ below meth c s.heap [] _ ⟨B.exec, B.bytes, hml, hown, fun w hw => hts w (List.mem_cons_of_mem _ hw), B.returns, B.notSynchronized, hin, hK, hZ, ?_⟩ ⟨hR, fun _ _ => rfl, fun _ h => by cases h⟩ hl
  have := hR.1
  have := hR.2.2.2.1
  omega
section GR
variable {M : Mt} {l : Launch} {Γ : Gm} {R : Room} {Q : QT} {cells slots pc : Nat} {ls : List (Option Value)} {st : List Value} {w : Wd}
theorem g_wk (m : List Bool) {ls' : List (Option Value)} (h : wkL m ls = ls') (k : G M l Γ R Q cells slots pc ls' st w) : G M l Γ R Q cells slots pc ls st w := by
  subst h
  intro p e s m args below meth c H locs la X hS hl
  exact k p e s m args below meth c H locs la X hS (hl.wk _)
theorem g_widen {c1 s1 : Nat} (h1 : cells ≤ c1) (h2 : slots ≤ s1) (k : G M l Γ R Q c1 s1 pc ls st w) : G M l Γ R Q cells slots pc ls st w := by
  intro p e s m args below meth c H locs la X hS hl
  exact W.widen h1 h2 (k p e s m args below meth c H locs la X hS hl)
def iRem (x y : Int32) : Int32 := x - x / y * y
def iShl (x y : Int32) : Int32 := x <<< (y &&& 31)
def iShr (x y : Int32) : Int32 := x >>> (y &&& 31)
def iUsh (x y : Int32) : Int32 := (x.toUInt32 >>> (y.toUInt32 &&& Int32.toUInt32 31)).toInt32
def lRem (x y : Int64) : Int64 := x - x / y * y
def lShl (x : Int64) (y : Int32) : Int64 := x <<< (y.toInt64 &&& 63)
def lUsh (x : Int64) (y : Int32) : Int64 := (x.toUInt64 >>> (y.toInt64.toUInt64 &&& Int64.toUInt64 63)).toInt64

theorem g_iconst {n : Int} {v : Int32} (hd : decode M.2.1 pc = .ok (.iconst n, 1)) (hv : Int32.ofInt n = v) (kk : G M l Γ R Q cells slots (pc + 1) ls (.int v :: st) w) : G M l Γ R Q cells slots pc ls (st) w := by
  intro p e s m args below meth c H locs la X hS hl
  exact lv_iconst X.1 X.2.1 hd hv (kk p e s m args below meth c H locs la X hS hl)
theorem g_bipush {n : Int} {v : Int32} (hd : decode M.2.1 pc = .ok (.bipush n, 2)) (hv : (Int8.ofInt n).toInt32 = v) (kk : G M l Γ R Q cells slots (pc + 2) ls (.int v :: st) w) : G M l Γ R Q cells slots pc ls (st) w := by
  intro p e s m args below meth c H locs la X hS hl
  exact lv_bipush X.1 X.2.1 hd hv (kk p e s m args below meth c H locs la X hS hl)
theorem g_sipush {n : Int} {v : Int32} (hd : decode M.2.1 pc = .ok (.sipush n, 3)) (hv : (Int16.ofInt n).toInt32 = v) (kk : G M l Γ R Q cells slots (pc + 3) ls (.int v :: st) w) : G M l Γ R Q cells slots pc ls (st) w := by
  intro p e s m args below meth c H locs la X hS hl
  exact lv_sipush X.1 X.2.1 hd hv (kk p e s m args below meth c H locs la X hS hl)
theorem g_lconst {n : Fin 2} {v : Int64} (hd : decode M.2.1 pc = .ok (.lconst n, 1)) (hv : Int64.ofNat (n : Nat) = v) (kk : G M l Γ R Q cells slots (pc + 1) ls (.long v :: st) w) : G M l Γ R Q cells slots pc ls (st) w := by
  intro p e s m args below meth c H locs la X hS hl
  exact lv_lconst X.1 X.2.1 hd hv (kk p e s m args below meth c H locs la X hS hl)
theorem g_ldc {i : Nat} {v : Int32} (hd : decode M.2.1 pc = .ok (.ldc i, 2)) (hw : Cond.constant M.1.cls i v ∈ WS) (kk : G M l Γ R Q cells slots (pc + 2) ls (.int v :: st) w) : G M l Γ R Q cells slots pc ls (st) w := by
  intro p e s m args below meth c H locs la X hS hl
  exact lv_ldc X.1 X.2.1 X.2.2.2.1 (X.2.2.2.2.1 _ hw) hd (kk p e s m args below meth c H locs la X hS hl)
theorem g_ldcw {i : Nat} {v : Int32} (hd : decode M.2.1 pc = .ok (.ldc_w i, 3)) (hw : Cond.constant M.1.cls i v ∈ WS) (kk : G M l Γ R Q cells slots (pc + 3) ls (.int v :: st) w) : G M l Γ R Q cells slots pc ls (st) w := by
  intro p e s m args below meth c H locs la X hS hl
  exact lv_ldcw X.1 X.2.1 X.2.2.2.1 (X.2.2.2.2.1 _ hw) hd (kk p e s m args below meth c H locs la X hS hl)
theorem g_ldc2 {i : Nat} {v : Int64} (hd : decode M.2.1 pc = .ok (.ldc2_w i, 3)) (hw : Cond.constantLong M.1.cls i v ∈ WS) (kk : G M l Γ R Q cells slots (pc + 3) ls (.long v :: st) w) : G M l Γ R Q cells slots pc ls (st) w := by
  intro p e s m args below meth c H locs la X hS hl
  exact lv_ldc2 X.1 X.2.1 X.2.2.2.1 (X.2.2.2.2.1 _ hw) hd (kk p e s m args below meth c H locs la X hS hl)
theorem g_null  (hd : decode M.2.1 pc = .ok (.aconst_null, 1))  (kk : G M l Γ R Q cells slots (pc + 1) ls (.null :: st) w) : G M l Γ R Q cells slots pc ls (st) w := by
  intro p e s m args below meth c H locs la X hS hl
  exact lv_null X.1 X.2.1 hd (kk p e s m args below meth c H locs la X hS hl)
theorem g_iload_n {k : Fin 4} {x : Int32} (hd : decode M.2.1 pc = .ok (.iload_n k, 1)) (hx : ls[(k : Nat)]? = some (some (.int x))) (kk : G M l Γ R Q cells slots (pc + 1) ls (.int x :: st) w) : G M l Γ R Q cells slots pc ls (st) w := by
  intro p e s m args below meth c H locs la X hS hl
  exact lv_iload_n X.1 X.2.1 hd rfl (hl.2.2 _ _ hx) (kk p e s m args below meth c H locs la X hS hl)
theorem g_iload {i : Nat} {x : Int32} (hd : decode M.2.1 pc = .ok (.iload i, 2)) (hx : ls[i]? = some (some (.int x))) (kk : G M l Γ R Q cells slots (pc + 2) ls (.int x :: st) w) : G M l Γ R Q cells slots pc ls (st) w := by
  intro p e s m args below meth c H locs la X hS hl
  exact lv_iload X.1 X.2.1 hd (hl.2.2 _ _ hx) (kk p e s m args below meth c H locs la X hS hl)
theorem g_lload_n {k : Fin 4} {x : Int64} (hd : decode M.2.1 pc = .ok (.lload_n k, 1)) (hx : ls[(k : Nat)]? = some (some (.long x))) (kk : G M l Γ R Q cells slots (pc + 1) ls (.long x :: st) w) : G M l Γ R Q cells slots pc ls (st) w := by
  intro p e s m args below meth c H locs la X hS hl
  exact lv_lload_n X.1 X.2.1 hd rfl (hl.2.2 _ _ hx) (kk p e s m args below meth c H locs la X hS hl)
theorem g_lload {i : Nat} {x : Int64} (hd : decode M.2.1 pc = .ok (.lload i, 2)) (hx : ls[i]? = some (some (.long x))) (kk : G M l Γ R Q cells slots (pc + 2) ls (.long x :: st) w) : G M l Γ R Q cells slots pc ls (st) w := by
  intro p e s m args below meth c H locs la X hS hl
  exact lv_lload X.1 X.2.1 hd (hl.2.2 _ _ hx) (kk p e s m args below meth c H locs la X hS hl)
theorem g_aload_n {k : Fin 4} {x : Nat} (hd : decode M.2.1 pc = .ok (.aload_n k, 1)) (hx : ls[(k : Nat)]? = some (some (.ref x))) (kk : G M l Γ R Q cells slots (pc + 1) ls (.ref x :: st) w) : G M l Γ R Q cells slots pc ls (st) w := by
  intro p e s m args below meth c H locs la X hS hl
  exact lv_aload_n X.1 X.2.1 hd rfl (hl.2.2 _ _ hx) (kk p e s m args below meth c H locs la X hS hl)
theorem g_aload {i : Nat} {x : Nat} (hd : decode M.2.1 pc = .ok (.aload i, 2)) (hx : ls[i]? = some (some (.ref x))) (kk : G M l Γ R Q cells slots (pc + 2) ls (.ref x :: st) w) : G M l Γ R Q cells slots pc ls (st) w := by
  intro p e s m args below meth c H locs la X hS hl
  exact lv_aload X.1 X.2.1 hd (hl.2.2 _ _ hx) (kk p e s m args below meth c H locs la X hS hl)
theorem g_istore_n {k : Fin 4} {x : Int32} {ls1 : List (Option Value)} (hd : decode M.2.1 pc = .ok (.istore_n k, 1)) (hi : (k : Nat) < M.2.2.1) (hs : st1 ls (k : Nat) (.int x) = ls1) (kk : G M l Γ R Q cells slots (pc + 1) ls1 st w) : G M l Γ R Q cells slots pc ls (.int x :: st) w := by
  intro p e s m args below meth c H locs la X hS hl
  subst hs
  obtain ⟨la', e', h'⟩ := hl.put1 (v := .int x) hi rfl
  intro T hT Xs
  obtain ⟨t, a, b⟩ := kk p e s m args below meth c H locs la' X hS h' T hT Xs
  refine ⟨t, ?_, b⟩
  have hx1 := X.1
  have hb1 := X.2.1
  have e2 : storeLocals la (k : Nat) (rv Γ (.int x)) = some la' := e'
  simp only [rv] at e2
  show Steps p.tables e below (T.setTop (F0 m pc la (rv Γ (.int x) :: st.map (rv Γ)))) t
  simp only [rv]
  jvm_step Xs.here [Xs.here.top, ↓top_set Xs.here.top, hx1, hb1, hd, e2]
  exact a
theorem g_istore {i : Nat} {x : Int32} {ls1 : List (Option Value)} (hd : decode M.2.1 pc = .ok (.istore i, 2)) (hi : i < M.2.2.1) (hs : st1 ls i (.int x) = ls1) (kk : G M l Γ R Q cells slots (pc + 2) ls1 st w) : G M l Γ R Q cells slots pc ls (.int x :: st) w := by
  intro p e s m args below meth c H locs la X hS hl
  subst hs
  obtain ⟨la', e', h'⟩ := hl.put1 (v := .int x) hi rfl
  intro T hT Xs
  obtain ⟨t, a, b⟩ := kk p e s m args below meth c H locs la' X hS h' T hT Xs
  refine ⟨t, ?_, b⟩
  have hx1 := X.1
  have hb1 := X.2.1
  have e2 : storeLocals la i (rv Γ (.int x)) = some la' := e'
  simp only [rv] at e2
  show Steps p.tables e below (T.setTop (F0 m pc la (rv Γ (.int x) :: st.map (rv Γ)))) t
  simp only [rv]
  jvm_step Xs.here [Xs.here.top, ↓top_set Xs.here.top, hx1, hb1, hd, e2]
  exact a
theorem g_lstore_n {k : Fin 4} {x : Int64} {ls1 : List (Option Value)} (hd : decode M.2.1 pc = .ok (.lstore_n k, 1)) (hi : (k : Nat) + 1 < M.2.2.1) (hs : st2 ls (k : Nat) (.long x) = ls1) (kk : G M l Γ R Q cells slots (pc + 1) ls1 st w) : G M l Γ R Q cells slots pc ls (.long x :: st) w := by
  intro p e s m args below meth c H locs la X hS hl
  subst hs
  obtain ⟨la', e', h'⟩ := hl.put2 (v := .long x) hi rfl
  intro T hT Xs
  obtain ⟨t, a, b⟩ := kk p e s m args below meth c H locs la' X hS h' T hT Xs
  refine ⟨t, ?_, b⟩
  have hx1 := X.1
  have hb1 := X.2.1
  have e2 : storeLocals la (k : Nat) (rv Γ (.long x)) = some la' := e'
  simp only [rv] at e2
  show Steps p.tables e below (T.setTop (F0 m pc la (rv Γ (.long x) :: st.map (rv Γ)))) t
  simp only [rv]
  jvm_step Xs.here [Xs.here.top, ↓top_set Xs.here.top, hx1, hb1, hd, e2]
  exact a
theorem g_lstore {i : Nat} {x : Int64} {ls1 : List (Option Value)} (hd : decode M.2.1 pc = .ok (.lstore i, 2)) (hi : i + 1 < M.2.2.1) (hs : st2 ls i (.long x) = ls1) (kk : G M l Γ R Q cells slots (pc + 2) ls1 st w) : G M l Γ R Q cells slots pc ls (.long x :: st) w := by
  intro p e s m args below meth c H locs la X hS hl
  subst hs
  obtain ⟨la', e', h'⟩ := hl.put2 (v := .long x) hi rfl
  intro T hT Xs
  obtain ⟨t, a, b⟩ := kk p e s m args below meth c H locs la' X hS h' T hT Xs
  refine ⟨t, ?_, b⟩
  have hx1 := X.1
  have hb1 := X.2.1
  have e2 : storeLocals la i (rv Γ (.long x)) = some la' := e'
  simp only [rv] at e2
  show Steps p.tables e below (T.setTop (F0 m pc la (rv Γ (.long x) :: st.map (rv Γ)))) t
  simp only [rv]
  jvm_step Xs.here [Xs.here.top, ↓top_set Xs.here.top, hx1, hb1, hd, e2]
  exact a
theorem g_astore_n {k : Fin 4} {x : Nat} {ls1 : List (Option Value)} (hd : decode M.2.1 pc = .ok (.astore_n k, 1)) (hi : (k : Nat) < M.2.2.1) (hs : st1 ls (k : Nat) (.ref x) = ls1) (kk : G M l Γ R Q cells slots (pc + 1) ls1 st w) : G M l Γ R Q cells slots pc ls (.ref x :: st) w := by
  intro p e s m args below meth c H locs la X hS hl
  subst hs
  obtain ⟨la', e', h'⟩ := hl.put1 (v := .ref x) hi rfl
  intro T hT Xs
  obtain ⟨t, a, b⟩ := kk p e s m args below meth c H locs la' X hS h' T hT Xs
  refine ⟨t, ?_, b⟩
  have hx1 := X.1
  have hb1 := X.2.1
  have e2 : storeLocals la (k : Nat) (rv Γ (.ref x)) = some la' := e'
  simp only [rv] at e2
  show Steps p.tables e below (T.setTop (F0 m pc la (rv Γ (.ref x) :: st.map (rv Γ)))) t
  simp only [rv]
  jvm_step Xs.here [Xs.here.top, ↓top_set Xs.here.top, hx1, hb1, hd, e2, Value.isRef]
  exact a
theorem g_astore {i : Nat} {x : Nat} {ls1 : List (Option Value)} (hd : decode M.2.1 pc = .ok (.astore i, 2)) (hi : i < M.2.2.1) (hs : st1 ls i (.ref x) = ls1) (kk : G M l Γ R Q cells slots (pc + 2) ls1 st w) : G M l Γ R Q cells slots pc ls (.ref x :: st) w := by
  intro p e s m args below meth c H locs la X hS hl
  subst hs
  obtain ⟨la', e', h'⟩ := hl.put1 (v := .ref x) hi rfl
  intro T hT Xs
  obtain ⟨t, a, b⟩ := kk p e s m args below meth c H locs la' X hS h' T hT Xs
  refine ⟨t, ?_, b⟩
  have hx1 := X.1
  have hb1 := X.2.1
  have e2 : storeLocals la i (rv Γ (.ref x)) = some la' := e'
  simp only [rv] at e2
  show Steps p.tables e below (T.setTop (F0 m pc la (rv Γ (.ref x) :: st.map (rv Γ)))) t
  simp only [rv]
  jvm_step Xs.here [Xs.here.top, ↓top_set Xs.here.top, hx1, hb1, hd, e2, Value.isRef]
  exact a
theorem g_iinc {i : Nat} {n : Int} {x v : Int32} {ls1 : List (Option Value)} (hd : decode M.2.1 pc = .ok (.iinc i n, 3)) (hx : ls[i]? = some (some (.int x))) (hv : x + Int32.ofInt n = v) (hi : i < M.2.2.1) (hs : st1 ls i (.int v) = ls1) (kk : G M l Γ R Q cells slots (pc + 3) ls1 st w) : G M l Γ R Q cells slots pc ls (st) w := by
  intro p e s m args below meth c H locs la X hS hl
  subst hs
  subst hv
  obtain ⟨la', e', h'⟩ := hl.put1 (v := .int (x + Int32.ofInt n)) hi rfl
  intro T hT Xs
  obtain ⟨t, a, b⟩ := kk p e s m args below meth c H locs la' X hS h' T hT Xs
  refine ⟨t, ?_, b⟩
  have hx1 := X.1
  have hb1 := X.2.1
  have hg : la[i]? = some (.val (.int x)) := hl.2.2 _ _ hx
  have e2 : storeLocals la i (.int (x + Int32.ofInt n)) = some la' := e'
  jvm_step Xs.here [Xs.here.top, ↓top_set Xs.here.top, hx1, hb1, hd, hg, e2]
  exact a
theorem g_iadd {x y : Int32} (hd : decode M.2.1 pc = .ok (.iadd, 1))  (kk : G M l Γ R Q cells slots (pc + 1) ls (.int (x + y) :: st) w) : G M l Γ R Q cells slots pc ls (.int y :: .int x :: st) w := by
  intro p e s m args below meth c H locs la X hS hl
  exact lv_iadd X.1 X.2.1 hd (kk p e s m args below meth c H locs la X hS hl)
theorem g_isub {x y : Int32} (hd : decode M.2.1 pc = .ok (.isub, 1))  (kk : G M l Γ R Q cells slots (pc + 1) ls (.int (x - y) :: st) w) : G M l Γ R Q cells slots pc ls (.int y :: .int x :: st) w := by
  intro p e s m args below meth c H locs la X hS hl
  exact lv_isub X.1 X.2.1 hd (kk p e s m args below meth c H locs la X hS hl)
theorem g_imul {x y : Int32} (hd : decode M.2.1 pc = .ok (.imul, 1))  (kk : G M l Γ R Q cells slots (pc + 1) ls (.int (x * y) :: st) w) : G M l Γ R Q cells slots pc ls (.int y :: .int x :: st) w := by
  intro p e s m args below meth c H locs la X hS hl
  exact lv_imul X.1 X.2.1 hd (kk p e s m args below meth c H locs la X hS hl)
theorem g_iand {x y : Int32} (hd : decode M.2.1 pc = .ok (.iand, 1))  (kk : G M l Γ R Q cells slots (pc + 1) ls (.int (x &&& y) :: st) w) : G M l Γ R Q cells slots pc ls (.int y :: .int x :: st) w := by
  intro p e s m args below meth c H locs la X hS hl
  exact lv_iand X.1 X.2.1 hd (kk p e s m args below meth c H locs la X hS hl)
theorem g_ior {x y : Int32} (hd : decode M.2.1 pc = .ok (.ior, 1))  (kk : G M l Γ R Q cells slots (pc + 1) ls (.int (x ||| y) :: st) w) : G M l Γ R Q cells slots pc ls (.int y :: .int x :: st) w := by
  intro p e s m args below meth c H locs la X hS hl
  exact lv_ior X.1 X.2.1 hd (kk p e s m args below meth c H locs la X hS hl)
theorem g_ixor {x y : Int32} (hd : decode M.2.1 pc = .ok (.ixor, 1))  (kk : G M l Γ R Q cells slots (pc + 1) ls (.int (x ^^^ y) :: st) w) : G M l Γ R Q cells slots pc ls (.int y :: .int x :: st) w := by
  intro p e s m args below meth c H locs la X hS hl
  exact lv_ixor X.1 X.2.1 hd (kk p e s m args below meth c H locs la X hS hl)
theorem g_ishl {x y : Int32} (hd : decode M.2.1 pc = .ok (.ishl, 1))  (kk : G M l Γ R Q cells slots (pc + 1) ls (.int (iShl x y) :: st) w) : G M l Γ R Q cells slots pc ls (.int y :: .int x :: st) w := by
  intro p e s m args below meth c H locs la X hS hl
  exact lv_ishl X.1 X.2.1 hd (kk p e s m args below meth c H locs la X hS hl)
theorem g_ishr {x y : Int32} (hd : decode M.2.1 pc = .ok (.ishr, 1))  (kk : G M l Γ R Q cells slots (pc + 1) ls (.int (iShr x y) :: st) w) : G M l Γ R Q cells slots pc ls (.int y :: .int x :: st) w := by
  intro p e s m args below meth c H locs la X hS hl
  exact lv_ishr X.1 X.2.1 hd (kk p e s m args below meth c H locs la X hS hl)
theorem g_iushr {x y : Int32} (hd : decode M.2.1 pc = .ok (.iushr, 1))  (kk : G M l Γ R Q cells slots (pc + 1) ls (.int (iUsh x y) :: st) w) : G M l Γ R Q cells slots pc ls (.int y :: .int x :: st) w := by
  intro p e s m args below meth c H locs la X hS hl
  exact lv_iushr X.1 X.2.1 hd rfl (kk p e s m args below meth c H locs la X hS hl)
theorem g_idiv {x y : Int32} (hd : decode M.2.1 pc = .ok (.idiv, 1)) (hne : ¬ y = 0) (kk : G M l Γ R Q cells slots (pc + 1) ls (.int (x / y) :: st) w) : G M l Γ R Q cells slots pc ls (.int y :: .int x :: st) w := by
  intro p e s m args below meth c H locs la X hS hl
  exact lv_idiv X.1 X.2.1 hd hne (kk p e s m args below meth c H locs la X hS hl)
theorem g_irem {x y : Int32} (hd : decode M.2.1 pc = .ok (.irem, 1)) (hne : ¬ y = 0) (kk : G M l Γ R Q cells slots (pc + 1) ls (.int (iRem x y) :: st) w) : G M l Γ R Q cells slots pc ls (.int y :: .int x :: st) w := by
  intro p e s m args below meth c H locs la X hS hl
  exact lv_irem X.1 X.2.1 hd hne (kk p e s m args below meth c H locs la X hS hl)
theorem g_ineg {x : Int32} (hd : decode M.2.1 pc = .ok (.ineg, 1))  (kk : G M l Γ R Q cells slots (pc + 1) ls (.int (-x) :: st) w) : G M l Γ R Q cells slots pc ls (.int x :: st) w := by
  intro p e s m args below meth c H locs la X hS hl
  exact lv_ineg X.1 X.2.1 hd (kk p e s m args below meth c H locs la X hS hl)
theorem g_ladd {x y : Int64} (hd : decode M.2.1 pc = .ok (.ladd, 1))  (kk : G M l Γ R Q cells slots (pc + 1) ls (.long (x + y) :: st) w) : G M l Γ R Q cells slots pc ls (.long y :: .long x :: st) w := by
  intro p e s m args below meth c H locs la X hS hl
  exact lv_ladd X.1 X.2.1 hd (kk p e s m args below meth c H locs la X hS hl)
theorem g_lsub {x y : Int64} (hd : decode M.2.1 pc = .ok (.lsub, 1))  (kk : G M l Γ R Q cells slots (pc + 1) ls (.long (x - y) :: st) w) : G M l Γ R Q cells slots pc ls (.long y :: .long x :: st) w := by
  intro p e s m args below meth c H locs la X hS hl
  exact lv_lsub X.1 X.2.1 hd (kk p e s m args below meth c H locs la X hS hl)
theorem g_lmul {x y : Int64} (hd : decode M.2.1 pc = .ok (.lmul, 1))  (kk : G M l Γ R Q cells slots (pc + 1) ls (.long (x * y) :: st) w) : G M l Γ R Q cells slots pc ls (.long y :: .long x :: st) w := by
  intro p e s m args below meth c H locs la X hS hl
  exact lv_lmul X.1 X.2.1 hd (kk p e s m args below meth c H locs la X hS hl)
theorem g_land {x y : Int64} (hd : decode M.2.1 pc = .ok (.land, 1))  (kk : G M l Γ R Q cells slots (pc + 1) ls (.long (x &&& y) :: st) w) : G M l Γ R Q cells slots pc ls (.long y :: .long x :: st) w := by
  intro p e s m args below meth c H locs la X hS hl
  exact lv_land X.1 X.2.1 hd (kk p e s m args below meth c H locs la X hS hl)
theorem g_lor {x y : Int64} (hd : decode M.2.1 pc = .ok (.lor, 1))  (kk : G M l Γ R Q cells slots (pc + 1) ls (.long (x ||| y) :: st) w) : G M l Γ R Q cells slots pc ls (.long y :: .long x :: st) w := by
  intro p e s m args below meth c H locs la X hS hl
  exact lv_lor X.1 X.2.1 hd (kk p e s m args below meth c H locs la X hS hl)
theorem g_lxor {x y : Int64} (hd : decode M.2.1 pc = .ok (.lxor, 1))  (kk : G M l Γ R Q cells slots (pc + 1) ls (.long (x ^^^ y) :: st) w) : G M l Γ R Q cells slots pc ls (.long y :: .long x :: st) w := by
  intro p e s m args below meth c H locs la X hS hl
  exact lv_lxor X.1 X.2.1 hd (kk p e s m args below meth c H locs la X hS hl)
theorem g_ldiv {x y : Int64} (hd : decode M.2.1 pc = .ok (.ldiv, 1)) (hne : ¬ y = 0) (kk : G M l Γ R Q cells slots (pc + 1) ls (.long (x / y) :: st) w) : G M l Γ R Q cells slots pc ls (.long y :: .long x :: st) w := by
  intro p e s m args below meth c H locs la X hS hl
  exact lv_ldiv X.1 X.2.1 hd hne (kk p e s m args below meth c H locs la X hS hl)
theorem g_lrem {x y : Int64} (hd : decode M.2.1 pc = .ok (.lrem, 1)) (hne : ¬ y = 0) (kk : G M l Γ R Q cells slots (pc + 1) ls (.long (lRem x y) :: st) w) : G M l Γ R Q cells slots pc ls (.long y :: .long x :: st) w := by
  intro p e s m args below meth c H locs la X hS hl
  exact lv_lrem X.1 X.2.1 hd hne (kk p e s m args below meth c H locs la X hS hl)
theorem g_lshl {x : Int64} {y : Int32} (hd : decode M.2.1 pc = .ok (.lshl, 1))  (kk : G M l Γ R Q cells slots (pc + 1) ls (.long (lShl x y) :: st) w) : G M l Γ R Q cells slots pc ls (.int y :: .long x :: st) w := by
  intro p e s m args below meth c H locs la X hS hl
  exact lv_lshl X.1 X.2.1 hd rfl (kk p e s m args below meth c H locs la X hS hl)
theorem g_lushr {x : Int64} {y : Int32} (hd : decode M.2.1 pc = .ok (.lushr, 1))  (kk : G M l Γ R Q cells slots (pc + 1) ls (.long (lUsh x y) :: st) w) : G M l Γ R Q cells slots pc ls (.int y :: .long x :: st) w := by
  intro p e s m args below meth c H locs la X hS hl
  exact lv_lushr X.1 X.2.1 hd rfl (kk p e s m args below meth c H locs la X hS hl)
theorem g_lcmp {x y : Int64} (hd : decode M.2.1 pc = .ok (.lcmp, 1))  (kk : G M l Γ R Q cells slots (pc + 1) ls (.int (lg_cmp x y) :: st) w) : G M l Γ R Q cells slots pc ls (.long y :: .long x :: st) w := by
  intro p e s m args below meth c H locs la X hS hl
  exact W.lcmp X.1 X.2.1 hd (kk p e s m args below meth c H locs la X hS hl)
theorem g_i2l {x : Int32} (hd : decode M.2.1 pc = .ok (.i2l, 1))  (kk : G M l Γ R Q cells slots (pc + 1) ls (.long x.toInt64 :: st) w) : G M l Γ R Q cells slots pc ls (.int x :: st) w := by
  intro p e s m args below meth c H locs la X hS hl
  exact lv_i2l X.1 X.2.1 hd rfl (kk p e s m args below meth c H locs la X hS hl)
theorem g_l2i {x : Int64} (hd : decode M.2.1 pc = .ok (.l2i, 1))  (kk : G M l Γ R Q cells slots (pc + 1) ls (.int x.toInt32 :: st) w) : G M l Γ R Q cells slots pc ls (.long x :: st) w := by
  intro p e s m args below meth c H locs la X hS hl
  exact lv_l2i X.1 X.2.1 hd rfl (kk p e s m args below meth c H locs la X hS hl)
theorem g_dup {v : Value} (hd : decode M.2.1 pc = .ok (.dup, 1)) (hv : v.category = 1) (kk : G M l Γ R Q cells slots (pc + 1) ls (v :: v :: st) w) : G M l Γ R Q cells slots pc ls (v :: st) w := by
  intro p e s m args below meth c H locs la X hS hl
  exact lv_dup X.1 X.2.1 hd ((rv_cat Γ v).trans hv) (kk p e s m args below meth c H locs la X hS hl)
theorem g_dup2 {u v : Value} (hd : decode M.2.1 pc = .ok (.dup2, 1)) (hu : u.category = 1) (hv : v.category = 1) (kk : G M l Γ R Q cells slots (pc + 1) ls (u :: v :: u :: v :: st) w) : G M l Γ R Q cells slots pc ls (u :: v :: st) w := by
  intro p e s m args below meth c H locs la X hS hl
  exact lv_dup2_11 X.1 X.2.1 hd ((rv_cat Γ u).trans hu) ((rv_cat Γ v).trans hv) (kk p e s m args below meth c H locs la X hS hl)
theorem g_pop {v : Value} (hd : decode M.2.1 pc = .ok (.pop, 1)) (hv : v.category = 1) (kk : G M l Γ R Q cells slots (pc + 1) ls (st) w) : G M l Γ R Q cells slots pc ls (v :: st) w := by
  intro p e s m args below meth c H locs la X hS hl
  exact lv_pop X.1 X.2.1 hd ((rv_cat Γ v).trans hv) (kk p e s m args below meth c H locs la X hS hl)
theorem g_if_eq {x : Int32} {off : Int} {tgt : Nat} (hd : decode M.2.1 pc = .ok (.ifCond .eq off, 3)) (ht : (pc : Int) + off = (tgt : Int)) (kt : x = 0 → G M l Γ R Q cells slots tgt ls st w) (kf : ¬ x = 0 → G M l Γ R Q cells slots (pc + 3) ls st w) : G M l Γ R Q cells slots pc ls (.int x :: st) w := by
  intro p e s m args below meth c H locs la X hS hl
  exact lv_if_eq X.1 X.2.1 hd ht (fun q => kt q p e s m args below meth c H locs la X hS hl) (fun q => kf q p e s m args below meth c H locs la X hS hl)
theorem g_if_ne {x : Int32} {off : Int} {tgt : Nat} (hd : decode M.2.1 pc = .ok (.ifCond .ne off, 3)) (ht : (pc : Int) + off = (tgt : Int)) (kt : ¬ x = 0 → G M l Γ R Q cells slots tgt ls st w) (kf : x = 0 → G M l Γ R Q cells slots (pc + 3) ls st w) : G M l Γ R Q cells slots pc ls (.int x :: st) w := by
  intro p e s m args below meth c H locs la X hS hl
  exact lv_if_ne X.1 X.2.1 hd ht (fun q => kt q p e s m args below meth c H locs la X hS hl) (fun q => kf q p e s m args below meth c H locs la X hS hl)
theorem g_if_lt {x : Int32} {off : Int} {tgt : Nat} (hd : decode M.2.1 pc = .ok (.ifCond .lt off, 3)) (ht : (pc : Int) + off = (tgt : Int)) (kt : x < 0 → G M l Γ R Q cells slots tgt ls st w) (kf : ¬ x < 0 → G M l Γ R Q cells slots (pc + 3) ls st w) : G M l Γ R Q cells slots pc ls (.int x :: st) w := by
  intro p e s m args below meth c H locs la X hS hl
  exact lv_if_lt X.1 X.2.1 hd ht (fun q => kt q p e s m args below meth c H locs la X hS hl) (fun q => kf q p e s m args below meth c H locs la X hS hl)
theorem g_if_ge {x : Int32} {off : Int} {tgt : Nat} (hd : decode M.2.1 pc = .ok (.ifCond .ge off, 3)) (ht : (pc : Int) + off = (tgt : Int)) (kt : 0 ≤ x → G M l Γ R Q cells slots tgt ls st w) (kf : ¬ 0 ≤ x → G M l Γ R Q cells slots (pc + 3) ls st w) : G M l Γ R Q cells slots pc ls (.int x :: st) w := by
  intro p e s m args below meth c H locs la X hS hl
  exact lv_if_ge X.1 X.2.1 hd ht (fun q => kt q p e s m args below meth c H locs la X hS hl) (fun q => kf q p e s m args below meth c H locs la X hS hl)
theorem g_if_gt {x : Int32} {off : Int} {tgt : Nat} (hd : decode M.2.1 pc = .ok (.ifCond .gt off, 3)) (ht : (pc : Int) + off = (tgt : Int)) (kt : 0 < x → G M l Γ R Q cells slots tgt ls st w) (kf : ¬ 0 < x → G M l Γ R Q cells slots (pc + 3) ls st w) : G M l Γ R Q cells slots pc ls (.int x :: st) w := by
  intro p e s m args below meth c H locs la X hS hl
  exact lv_if_gt X.1 X.2.1 hd ht (fun q => kt q p e s m args below meth c H locs la X hS hl) (fun q => kf q p e s m args below meth c H locs la X hS hl)
theorem g_if_le {x : Int32} {off : Int} {tgt : Nat} (hd : decode M.2.1 pc = .ok (.ifCond .le off, 3)) (ht : (pc : Int) + off = (tgt : Int)) (kt : x ≤ 0 → G M l Γ R Q cells slots tgt ls st w) (kf : ¬ x ≤ 0 → G M l Γ R Q cells slots (pc + 3) ls st w) : G M l Γ R Q cells slots pc ls (.int x :: st) w := by
  intro p e s m args below meth c H locs la X hS hl
  exact lv_if_le X.1 X.2.1 hd ht (fun q => kt q p e s m args below meth c H locs la X hS hl) (fun q => kf q p e s m args below meth c H locs la X hS hl)
theorem g_icmp_eq {x y : Int32} {off : Int} {tgt : Nat} (hd : decode M.2.1 pc = .ok (.if_icmp .eq off, 3)) (ht : (pc : Int) + off = (tgt : Int)) (kt : x = y → G M l Γ R Q cells slots tgt ls st w) (kf : ¬ x = y → G M l Γ R Q cells slots (pc + 3) ls st w) : G M l Γ R Q cells slots pc ls (.int y :: .int x :: st) w := by
  intro p e s m args below meth c H locs la X hS hl
  exact lv_icmp_eq X.1 X.2.1 hd ht (fun q => kt q p e s m args below meth c H locs la X hS hl) (fun q => kf q p e s m args below meth c H locs la X hS hl)
theorem g_icmp_ne {x y : Int32} {off : Int} {tgt : Nat} (hd : decode M.2.1 pc = .ok (.if_icmp .ne off, 3)) (ht : (pc : Int) + off = (tgt : Int)) (kt : ¬ x = y → G M l Γ R Q cells slots tgt ls st w) (kf : x = y → G M l Γ R Q cells slots (pc + 3) ls st w) : G M l Γ R Q cells slots pc ls (.int y :: .int x :: st) w := by
  intro p e s m args below meth c H locs la X hS hl
  exact lv_icmp_ne X.1 X.2.1 hd ht (fun q => kt q p e s m args below meth c H locs la X hS hl) (fun q => kf q p e s m args below meth c H locs la X hS hl)
theorem g_icmp_lt {x y : Int32} {off : Int} {tgt : Nat} (hd : decode M.2.1 pc = .ok (.if_icmp .lt off, 3)) (ht : (pc : Int) + off = (tgt : Int)) (kt : x < y → G M l Γ R Q cells slots tgt ls st w) (kf : ¬ x < y → G M l Γ R Q cells slots (pc + 3) ls st w) : G M l Γ R Q cells slots pc ls (.int y :: .int x :: st) w := by
  intro p e s m args below meth c H locs la X hS hl
  exact lv_icmp_lt X.1 X.2.1 hd ht (fun q => kt q p e s m args below meth c H locs la X hS hl) (fun q => kf q p e s m args below meth c H locs la X hS hl)
theorem g_icmp_ge {x y : Int32} {off : Int} {tgt : Nat} (hd : decode M.2.1 pc = .ok (.if_icmp .ge off, 3)) (ht : (pc : Int) + off = (tgt : Int)) (kt : y ≤ x → G M l Γ R Q cells slots tgt ls st w) (kf : ¬ y ≤ x → G M l Γ R Q cells slots (pc + 3) ls st w) : G M l Γ R Q cells slots pc ls (.int y :: .int x :: st) w := by
  intro p e s m args below meth c H locs la X hS hl
  exact lv_icmp_ge X.1 X.2.1 hd ht (fun q => kt q p e s m args below meth c H locs la X hS hl) (fun q => kf q p e s m args below meth c H locs la X hS hl)
theorem g_icmp_gt {x y : Int32} {off : Int} {tgt : Nat} (hd : decode M.2.1 pc = .ok (.if_icmp .gt off, 3)) (ht : (pc : Int) + off = (tgt : Int)) (kt : y < x → G M l Γ R Q cells slots tgt ls st w) (kf : ¬ y < x → G M l Γ R Q cells slots (pc + 3) ls st w) : G M l Γ R Q cells slots pc ls (.int y :: .int x :: st) w := by
  intro p e s m args below meth c H locs la X hS hl
  exact lv_icmp_gt X.1 X.2.1 hd ht (fun q => kt q p e s m args below meth c H locs la X hS hl) (fun q => kf q p e s m args below meth c H locs la X hS hl)
theorem g_icmp_le {x y : Int32} {off : Int} {tgt : Nat} (hd : decode M.2.1 pc = .ok (.if_icmp .le off, 3)) (ht : (pc : Int) + off = (tgt : Int)) (kt : x ≤ y → G M l Γ R Q cells slots tgt ls st w) (kf : ¬ x ≤ y → G M l Γ R Q cells slots (pc + 3) ls st w) : G M l Γ R Q cells slots pc ls (.int y :: .int x :: st) w := by
  intro p e s m args below meth c H locs la X hS hl
  exact lv_icmp_le X.1 X.2.1 hd ht (fun q => kt q p e s m args below meth c H locs la X hS hl) (fun q => kf q p e s m args below meth c H locs la X hS hl)
theorem g_goto {off : Int} {tgt : Nat} (hd : decode M.2.1 pc = .ok (.goto off, 3)) (ht : (pc : Int) + off = (tgt : Int)) (kk : G M l Γ R Q cells slots tgt ls st w) : G M l Γ R Q cells slots pc ls st w := by
  intro p e s m args below meth c H locs la X hS hl
  exact lv_goto X.1 X.2.1 hd ht (kk p e s m args below meth c H locs la X hS hl)
theorem g_ifnonnull {x : Option Nat} {off : Int} {tgt : Nat} (hd : decode M.2.1 pc = .ok (.ifnonnull off, 3)) (ht : (pc : Int) + off = (tgt : Int)) (kt : ∀ y, x = some y → G M l Γ R Q cells slots tgt ls st w) (kf : x = none → G M l Γ R Q cells slots (pc + 3) ls st w) : G M l Γ R Q cells slots pc ls (va_rf x :: st) w := by
  intro p e s m args below meth c H locs la X hS hl
  cases x with
  | none => exact lv_ifnonnullN X.1 X.2.1 hd (kf rfl p e s m args below meth c H locs la X hS hl)
  | some y => exact lv_ifnonnull X.1 X.2.1 hd ht (kt y rfl p e s m args below meth c H locs la X hS hl)
theorem g_lookup {dflt : Int} {ps : Array (Int × Int)} {len : Nat} {x : Int32} {off : Int} {tgt : Nat} (hd : decode M.2.1 pc = .ok (.lookupswitch dflt ps, len)) (hp : (ps.toList.zip (ps.toList.drop 1)).all (fun (a, next) => a.1 < next.1) = true) (ho : Op.lookupswitch.offset ps.toList dflt x.toInt = off) (ht : (pc : Int) + off = (tgt : Int)) (kk : G M l Γ R Q cells slots tgt ls st w) : G M l Γ R Q cells slots pc ls (.int x :: st) w := by
  intro p e s m args below meth c H locs la X hS hl
  exact lv_lookup X.1 X.2.1 hd hp ho ht (kk p e s m args below meth c H locs la X hS hl)
theorem g_tabOut {dflt lo hi : Int} {offs : Array Int} {len : Nat} {x : Int32} {tgt : Nat} (hd : decode M.2.1 pc = .ok (.tableswitch dflt lo hi offs, len)) (h : x.toInt < lo ∨ hi < x.toInt) (ht : (pc : Int) + dflt = (tgt : Int)) (kk : G M l Γ R Q cells slots tgt ls st w) : G M l Γ R Q cells slots pc ls (.int x :: st) w := by
  intro p e s m args below meth c H locs la X hS hl
  exact lv_tableOut X.1 X.2.1 hd h ht (kk p e s m args below meth c H locs la X hS hl)
theorem g_tabIn {dflt lo hi : Int} {offs : Array Int} {len : Nat} {x : Int32} {off : Int} {tgt : Nat} (hd : decode M.2.1 pc = .ok (.tableswitch dflt lo hi offs, len)) (h1 : ¬ x.toInt < lo) (h2 : ¬ hi < x.toInt) (ho : offs[(x.toInt - lo).toNat]? = some off) (ht : (pc : Int) + off = (tgt : Int)) (kk : G M l Γ R Q cells slots tgt ls st w) : G M l Γ R Q cells slots pc ls (.int x :: st) w := by
  intro p e s m args below meth c H locs la X hS hl
  exact lv_tableIn X.1 X.2.1 hd h1 h2 ho ht (kk p e s m args below meth c H locs la X hS hl)
end GR
