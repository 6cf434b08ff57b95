/-! ===== the law's entry: the world that the Statement gives ===== -/
theorem eq_iv {args : Array Value} {s : State} {t : Term} {z : Int32} (h : (Cond.eq t (.int z)).before args s = true) : t.eval args s none [] s = some (.int z) := by
  cases hv : t.eval args s none [] s with
  | none => simp [Cond.before, Cond.holds, Cond.value, hv] at h
  | some w =>
    have hz : (Term.int z).eval args s none [] s = some (.int z) := rfl
    simp only [Cond.before, Cond.holds, Cond.value, hv, hz] at h
    cases w <;> simp_all
theorem len_spec {args : Array Value} {first s : State} {o : Option Outcome} {idx : List Nat} {t : Term} {v : Value} (h : (Term.length t).eval args first o idx s = some v) :
    ∃ a cell, t.eval args first o idx s = some (.ref a) ∧ s.arrayAt? a = some cell ∧ v = .int cell.slots.size.toInt32 ∧ cell.slots.size < 2147483648 := by
  simp only [Term.eval, Option.bind_eq_bind] at h
  cases ht : t.eval args first o idx s with
  | none => simp [ht] at h
  | some x =>
    cases x <;> simp [ht] at h
    case ref a =>
      obtain ⟨cell, hcell, h⟩ := Option.bind_eq_some_iff.mp h
      by_cases hn : cell.slots.size < 2147483648
      · rw [if_pos hn] at h; cases h; exact ⟨a, cell, rfl, hcell, rfl, hn⟩
      · rw [if_neg hn] at h; cases h
/-- a static array, as the Statement tells it -/
theorem old_arr {args : Array Value} {s : State} {t : Term} {ty : FieldType} {N : Nat} {f : Nat → Int32} (hN : N < 2 ^ 31) (h1 : (Cond.arrayOf t ty).before args s = true) (h2 : (Cond.eq (.length t) (.int (nI N))).before args s = true) (h3 : ∀ j, j < N → (Cond.eq (.elem t (.int (nI j))) (.int (f j))).before args s = true) :
    ∃ (a : Nat) (cell : Cell), t.eval args s none [] s = some (.ref a) ∧ s.heap[a]? = some cell ∧ s.isArrayOf cell ty ∧ cell.vm ≠ .unknown ∧ cell.slots.size = N ∧ ∀ j, j < N → cell.slots[j]? = some (.int (f j)) := by
  obtain ⟨a, cell, ha, hc, hv, hsm⟩ := len_spec (eq_iv h2)
  have hcell : s.heap[a]? = some cell := (State.arrayAt?_spec hc).1
  obtain ⟨g1, g2⟩ := Cond.arrayOf_spec h1 ha hcell
  have hsz : cell.slots.size = N := by
    have e : nI N = nI cell.slots.size := by
      injection hv
    exact ((nI_eq hN (by omega)).mp e).symm
  refine ⟨a, cell, ha, hcell, g1, g2, hsz, fun j hj => ?_⟩
  obtain ⟨a', j', cell', b1, b2, b3, -, b5⟩ := Term.elem_spec (eq_iv (h3 j hj))
  rw [ha] at b1
  cases b1
  rw [hc] at b3
  cases b3
  have e : (Term.int (nI j)).eval args s none [] s = some (.int (nI j)) := rfl
  rw [e] at b2
  cases b2
  rw [nI_clamp (by omega)] at b5
  exact b5
def stT (i : Nat) : String × String × String := match i with
  | 0 => ("DarkLamps$NetReader", "KINDS", "[C")
  | 1 => ("DarkLamps$Net", "FIRST", "[I")
  | 2 => ("DarkLamps$NetReader", "USUAL", "[I")
  | 3 => ("DarkLamps$NetReader", "LETTERS", "[I")
  | 4 => ("DarkLamps$NetReader", "LEAST", "[I")
  | _ => ("DarkLamps$NetReader", "MOST", "[I")
def stN (i : Nat) : Nat := if i = 0 then 4 else if i = 1 then 5 else 16
def stTm (i : Nat) : Term := .static (stT i).1 (stT i).2.1 (stT i).2.2
theorem given_mem : ∀ i, i < 6 → Cond.arrayOf (stTm i) (oty i) ∈ flatC (Jvm.Cond.and given_1 narrow_1) ∧ Cond.eq (.length (stTm i)) (.int (nI (stN i))) ∈ flatC (Jvm.Cond.and given_1 narrow_1) ∧ ∀ j, j < stN i → Cond.eq (.elem (stTm i) (.int (nI j))) (.int (cst i j)) ∈ flatC (Jvm.Cond.and given_1 narrow_1) := by decide +kernel
theorem classes_known {args : Array Value} {s : State} (hts : ∀ w ∈ WS, w.before args s = true) : ∀ c : Nat, ∃ x : ClassId × (Nat → Nat), ∀ q : vw_C, vwCl[c]? = some q → u_Kn s q.1 q.2.1 q.2.2 x.1 x.2 := by
  intro c
  by_cases hc : c < 13
  · match c, hc with
    | 0, _ =>
      obtain ⟨cC, iS, h⟩ := u_known hts inX0 (hts _ iS_X0)
      exact ⟨(cC, iS), fun q hq => by cases hq; exact h⟩
    | 1, _ =>
      obtain ⟨cC, iS, h⟩ := u_known hts inX1 (hts _ iS_X1)
      exact ⟨(cC, iS), fun q hq => by cases hq; exact h⟩
    | 2, _ =>
      obtain ⟨cC, iS, h⟩ := u_known hts inX2 (hts _ iS_X2)
      exact ⟨(cC, iS), fun q hq => by cases hq; exact h⟩
    | 3, _ =>
      obtain ⟨cC, iS, h⟩ := u_known hts inX3 (hts _ iS_X3)
      exact ⟨(cC, iS), fun q hq => by cases hq; exact h⟩
    | 4, _ =>
      obtain ⟨cC, iS, h⟩ := u_known hts inX4 (hts _ iS_X4)
      exact ⟨(cC, iS), fun q hq => by cases hq; exact h⟩
    | 5, _ =>
      obtain ⟨cC, iS, h⟩ := u_known hts inX5 (hts _ iS_X5)
      exact ⟨(cC, iS), fun q hq => by cases hq; exact h⟩
    | 6, _ =>
      obtain ⟨cC, iS, h⟩ := u_known hts inX6 (hts _ iS_X6)
      exact ⟨(cC, iS), fun q hq => by cases hq; exact h⟩
    | 7, _ =>
      obtain ⟨cC, iS, h⟩ := u_known hts inX7 (hts _ iS_X7)
      exact ⟨(cC, iS), fun q hq => by cases hq; exact h⟩
    | 8, _ =>
      obtain ⟨cC, iS, h⟩ := u_known hts inX8 (hts _ iS_X8)
      exact ⟨(cC, iS), fun q hq => by cases hq; exact h⟩
    | 9, _ =>
      obtain ⟨cC, iS, h⟩ := u_known hts inX9 (hts _ iS_X9)
      exact ⟨(cC, iS), fun q hq => by cases hq; exact h⟩
    | 10, _ =>
      obtain ⟨cC, iS, h⟩ := u_known hts inX10 (hts _ iS_X10)
      exact ⟨(cC, iS), fun q hq => by cases hq; exact h⟩
    | 11, _ =>
      obtain ⟨cC, iS, h⟩ := u_known hts inX11 (hts _ iS_X11)
      exact ⟨(cC, iS), fun q hq => by cases hq; exact h⟩
    | 12, _ =>
      obtain ⟨cC, iS, h⟩ := u_known hts inX12 (hts _ iS_X12)
      exact ⟨(cC, iS), fun q hq => by cases hq; exact h⟩
    | n + 13, hn => omega
  · refine ⟨(0, fun _ => 0), fun q hq => ?_⟩
    have : vwCl[c]? = none := List.getElem?_eq_none (by show vwCl.length ≤ c; have : vwCl.length = 13 := rfl; omega)
    rw [this] at hq; cases hq
theorem arr_known {args : Array Value} {s : State} {ty : FieldType} (h : (Cond.arrayClass ty).before args s = true) : ∃ cA : ClassId, ArrOfT s cA ty ∧ s.vm.findClass ("[" ++ ty.toString) = some cA := by
  obtain ⟨cA, kA, comp, h1, h2, h3⟩ := Cond.arrayClass_spec h
  exact ⟨cA, fun n z => ⟨fun k h => (by cases h), kA, h2, comp, h3⟩, h1⟩
theorem nest_mem : ∀ q ∈ nestL, Cond.methodLinkNest q.1 q.2.1 q.2.2.1 q.2.2.2 ∈ lw_tbl := List.forall_mem_cons.mpr ⟨mN_X11_9, List.forall_mem_cons.mpr ⟨mN_X11_18, List.forall_mem_cons.mpr ⟨mN_X11_37, List.forall_mem_cons.mpr ⟨mN_X11_53, List.forall_mem_cons.mpr ⟨mN_X0_17, List.forall_mem_cons.mpr ⟨mN_X9_33, List.forall_mem_cons.mpr ⟨mN_X5_31, List.forall_mem_cons.mpr ⟨mN_X5_24, List.forall_mem_cons.mpr ⟨mN_X6_68, List.forall_mem_cons.mpr ⟨mN_X6_72, List.forall_mem_cons.mpr ⟨mN_X6_106, List.forall_mem_cons.mpr ⟨mN_X9_57, List.forall_mem_cons.mpr ⟨mN_X5_60, List.forall_mem_cons.mpr ⟨mN_X3_33, List.forall_mem_cons.mpr ⟨mN_X3_37, List.forall_mem_cons.mpr ⟨mN_X5_35, List.forall_mem_cons.mpr ⟨mN_X4_87, List.forall_mem_cons.mpr ⟨mN_X4_62, List.forall_mem_cons.mpr ⟨mN_X4_76, List.forall_mem_cons.mpr ⟨mN_X4_37, List.forall_mem_cons.mpr ⟨mN_X1_54, List.forall_mem_cons.mpr ⟨mN_X1_91, List.forall_mem_cons.mpr ⟨mN_X1_108, List.forall_mem_cons.mpr ⟨mN_X10_76, List.forall_mem_cons.mpr ⟨mN_X10_108, List.forall_mem_cons.mpr ⟨mN_X10_116, List.forall_mem_cons.mpr ⟨mN_X7_69, List.forall_mem_cons.mpr ⟨mN_X7_80, List.forall_mem_cons.mpr ⟨mN_X7_84, List.forall_mem_cons.mpr ⟨mN_X7_108, List.forall_mem_cons.mpr ⟨mN_X8_39, List.forall_mem_cons.mpr ⟨mN_X8_69, List.forall_mem_cons.mpr ⟨mN_X8_77, fun _ h => absurd h List.not_mem_nil⟩⟩⟩⟩⟩⟩⟩⟩⟩⟩⟩⟩⟩⟩⟩⟩⟩⟩⟩⟩⟩⟩⟩⟩⟩⟩⟩⟩⟩⟩⟩⟩⟩
theorem lay_0 : Cond.laysStatic "DarkLamps$NetReader" "KINDS" "[C" ∈ lw_tbl := tb_2 152 (by decide +kernel)
theorem lay_1 : Cond.laysStatic "DarkLamps$Net" "FIRST" "[I" ∈ lw_tbl := tb_2 165 (by decide +kernel)
theorem lay_2 : Cond.laysStatic "DarkLamps$NetReader" "USUAL" "[I" ∈ lw_tbl := tb_2 180 (by decide +kernel)
theorem lay_3 : Cond.laysStatic "DarkLamps$NetReader" "LETTERS" "[I" ∈ lw_tbl := tb_2 191 (by decide +kernel)
theorem lay_4 : Cond.laysStatic "DarkLamps$NetReader" "LEAST" "[I" ∈ lw_tbl := tb_2 196 (by decide +kernel)
theorem lay_5 : Cond.laysStatic "DarkLamps$NetReader" "MOST" "[I" ∈ lw_tbl := tb_2 198 (by decide +kernel)
theorem lay_6 : Cond.laysStatic Bundle.tN "UNASSIGNED_STACK" Bundle.steD ∈ lw_tbl := tb_6 204 (by decide +kernel)
theorem lay_7 : Cond.laysStatic Bundle.tN "SUPPRESSED_SENTINEL" Bundle.listD ∈ lw_tbl := tb_6 206 (by decide +kernel)
theorem iN_Thr : Cond.initialized Bundle.tN ∈ lw_tbl := tb_1 16 (by decide +kernel)
theorem thr_mem : Cond.isRef (.static Bundle.tN "UNASSIGNED_STACK" Bundle.steD) ∈ flatC (Jvm.Cond.and given_1 narrow_1) ∧ Cond.isRef (.static Bundle.tN "SUPPRESSED_SENTINEL" Bundle.listD) ∈ flatC (Jvm.Cond.and given_1 narrow_1) := by decide +kernel
def tcOf (c1 c2 c3 c4 c5 : ClassId) : FieldType → ClassId := fun ty => match ty with
  | .int => c1
  | .boolean => c2
  | .char => c3
  | .long => c4
  | _ => c5
theorem entry {args : Array Value} {s : State} (hts : ∀ w ∈ lw_tbl, w.before args s = true) (hg : (Jvm.Cond.and given_1 narrow_1).before args s = true) {b L : Nat} {xs : Nat → Int32} (hx : va_X b L xs s s.heap) (hb : b < s.heap.size) :
    ∃ Γ : Gm, Γ.2.2.2 = s.heap.size ∧ ad Γ 6 = b ∧ StOK Γ s ∧ SZ Γ s s.heap ∧ Rep Γ (w0 L xs) s.heap := by
  have hW : ∀ w ∈ WS, w.before args s = true := fun w hw => hts w (List.mem_filter.mp hw).1
  have hs := flat_of_before _ hg
  obtain ⟨dd, hdd⟩ := Classical.axiomOfChoice (classes_known hW)
  obtain ⟨c1, r1, n1⟩ := arr_known (hW _ aC_int)
  obtain ⟨c2, r2, n2⟩ := arr_known (hW _ aC_boolean)
  obtain ⟨c3, r3, n3⟩ := arr_known (hW _ aC_char)
  obtain ⟨c4, r4, n4⟩ := arr_known (hW _ aC_long)
  obtain ⟨comp, c5, k5, h1, -, h3, h4, h5⟩ := Cond.arrayOver_spec (hts _ aO_Moment)
  have hold : ∀ i : Nat, ∃ x : Nat × Cell, i < 6 → (stTm i).eval args s none [] s = some (.ref x.1) ∧ s.heap[x.1]? = some x.2 ∧ s.isArrayOf x.2 (oty i) ∧ x.2.vm ≠ .unknown ∧ x.2.slots.size = stN i ∧ ∀ j, j < stN i → x.2.slots[j]? = some (.int (cst i j)) := by
    intro i
    by_cases hi : i < 6
    · obtain ⟨g1, g2, g3⟩ := given_mem i hi
      obtain ⟨a, cell, q1, q2, q3, q4, q5, q6⟩ := old_arr (N := stN i) (f := cst i) (by unfold stN; split; omega; split <;> omega) (hs _ g1) (hs _ g2) (fun j hj => hs _ (g3 j hj))
      exact ⟨(a, cell), fun _ => ⟨q1, q2, q3, q4, q5, q6⟩⟩
    · exact ⟨(0, default), fun h => absurd h hi⟩
  obtain ⟨oo, hoo⟩ := Classical.axiomOfChoice hold
  obtain ⟨scr, s1, s2, s3, s4, s5⟩ := hx
  have hoc : ∀ i, i < 6 → (if i < 6 then oo i else (b, scr)) = oo i := fun i hi => if_pos hi
  refine ⟨((fun c => (dd c).1, fun c => (dd c).2), tcOf c1 c2 c3 c4 c5, fun i => if i < 6 then oo i else (b, scr), s.heap.size), rfl, rfl, ⟨⟨fun c q hq => hdd c q hq, fun k q hk => ?_⟩, fun q hq => va_Nw.of rfl (hts _ (nest_mem q hq)), va_AO.of (hts _ aO_Moment), fun i hi => ?_⟩, ?_, rfl, fun i hi => ?_, fun i hi => ?_, Nat.le_refl _, fun i hi => ?_⟩
  · match k, hk with
    | 0, hk => cases hk; exact ⟨r1, n1⟩
    | 1, hk => cases hk; exact ⟨r2, n2⟩
    | 2, hk => cases hk; exact ⟨r3, n3⟩
    | 3, hk => cases hk; exact ⟨r4, n4⟩
    | 4, hk => cases hk; exact ⟨fun n z => ⟨fun k h => (by cases h), k5, h3, comp, h4⟩, k5, comp, h3, h4, h1, h5⟩
    | n + 5, hk => cases hk
  · show s.isArrayOf (if i < 6 then oo i else (b, scr)).2 (oty i) ∧ (if i < 6 then oo i else (b, scr)).2.vm ≠ .unknown
    by_cases h6 : i < 6
    · rw [hoc i h6]
      obtain ⟨-, -, q3, q4, -⟩ := hoo i h6
      exact ⟨q3, q4⟩
    · rw [if_neg h6]
      have : i = 6 := by omega
      subst this
      exact ⟨s2, s3⟩
  · have hz : ∀ (C n d : String) (i : Nat), i < 6 → stT i = (C, n, d) → Cond.laysStatic C n d ∈ lw_tbl → Cond.initialized C ∈ lw_tbl → va_Z C n d (.ref (oo i).1) (fun a => s.heap.size ≤ a) s s.heap := fun C n d i hi he hl hin => by
      obtain ⟨q1, -⟩ := hoo i hi
      unfold stTm at q1
      rw [he] at q1
      exact va_Zof (hts _ hl) (hts _ hin) q1 (fun a ha => by omega)
    have i6 : Cond.initialized RX6 ∈ lw_tbl := (List.mem_filter.mp iN_X6).1
    have i5 : Cond.initialized RX5 ∈ lw_tbl := (List.mem_filter.mp iN_X5).1
    refine ⟨?_, vx_Zqof (hts _ lay_6) (hts _ iN_Thr) (hs _ thr_mem.1) (fun a ha => (Nat.not_le.mpr ha : ¬ s.heap.size ≤ a)), vx_Zqof (hts _ lay_7) (hts _ iN_Thr) (hs _ thr_mem.2) (fun a ha => (Nat.not_le.mpr ha : ¬ s.heap.size ≤ a))⟩
    exact List.forall_mem_cons.mpr ⟨hz _ _ _ 0 (by omega) rfl lay_0 i6, List.forall_mem_cons.mpr ⟨hz _ _ _ 1 (by omega) rfl lay_1 i5, List.forall_mem_cons.mpr ⟨hz _ _ _ 2 (by omega) rfl lay_2 i6, List.forall_mem_cons.mpr ⟨hz _ _ _ 3 (by omega) rfl lay_3 i6, List.forall_mem_cons.mpr ⟨hz _ _ _ 4 (by omega) rfl lay_4 i6, List.forall_mem_cons.mpr ⟨hz _ _ _ 5 (by omega) rfl lay_5 i6, fun _ h => absurd h List.not_mem_nil⟩⟩⟩⟩⟩⟩
  · show (if i < 6 then stK i else if i = 6 then some (.inr (.int, L)) else none) = none
    have : 7 ≤ i := hi
    rw [if_neg (by omega), if_neg (by omega)]
  · show (if i < 6 then oo i else (b, scr)).1 < s.heap.size
    by_cases h6 : i < 6
    · rw [hoc i h6]
      exact (Array.getElem?_eq_some_iff.mp (hoo i h6).2.1).1
    · rw [if_neg h6]; exact hb
  · have hi7 : i < 7 := hi
    by_cases h6 : i < 6
    · have hk : gK (w0 L xs) i = some (.inr (oty i, stN i)) := by
        show (if i < 6 then stK i else _) = _
        rw [if_pos h6]
        match i, h6 with
        | 0, _ => rfl
        | 1, _ => rfl
        | 2, _ => rfl
        | 3, _ => rfl
        | 4, _ => rfl
        | 5, _ => rfl
        | n + 6, hn => omega
      obtain ⟨q1, q2, q3, q4, q5, q6⟩ := hoo i h6
      unfold cellAt
      rw [hk]
      show arrAt _ i (oty i) (stN i) _ s.heap
      unfold arrAt ad
      rw [if_pos hi7, if_pos hi7]
      show s.heap[(if i < 6 then oo i else (b, scr)).1]? = some (if i < 6 then oo i else (b, scr)).2 ∧ oty i = oty i ∧ (if i < 6 then oo i else (b, scr)).2.slots.size = stN i ∧ ∀ j, j < stN i → (if i < 6 then oo i else (b, scr)).2.slots[j]? = some _
      rw [hoc i h6]
      refine ⟨q2, rfl, q5, fun j hj => ?_⟩
      rw [q6 j hj]
      have hf : fv ((fun c => (dd c).1, fun c => (dd c).2), tcOf c1 c2 c3 c4 c5, fun i => if i < 6 then oo i else (b, scr), s.heap.size) (w0 L xs) (oty i) i j = .int (gI (w0 L xs) i j) := by
        unfold oty
        split <;> rfl
      rw [hf]
      show some (Value.int (cst i j)) = some (Value.int (if i < 6 then cst i j else _))
      rw [if_pos h6]
    · have : i = 6 := by omega
      subst this
      show arrAt _ 6 .int L _ s.heap
      unfold arrAt
      rw [if_pos (by omega)]
      exact ⟨s1, rfl, s4, fun j hj => s5 j hj⟩
