/-! ===== calls over a view, of methods that make nothing ===== -/
def MfV (M : Mt) (n : Nat) : Prop := MfS M n ∧ Cond.instanceMethod M.1 ∈ WS ∧ Cond.selects M.1.cls M.1 M.1 ∈ WS
def MfT (M : Mt) (n : Nat) : Prop := MfS M n ∧ Cond.static M.1 ∈ WS
def app {α β : Type} (x : α) (f : α → β) : β := f x
theorem app_of {α β : Type} {x : α} {f : α → β} {r : β} (h : app x f = r) : ∃ q, x = q ∧ f q = r := ⟨x, rfl, h⟩
theorem bnd {α β : Type} {x : Option α} {f : α → Option β} {r : β} (h : x.bind f = some r) : ∃ q, x = some q ∧ f q = some r := Option.bind_eq_some_iff.mp h
section VC
variable {M : Mt} {l : Launch} {Γ : Gm} {R : Room} {Q : QT} {pc : Nat} {ls : List (Option Value)} {own : Nat → Bool} {K : Nat → Option Kd} {Rf : Nat → Nat → Option Nat} {V : Sm → Wd} {S : Sm}
theorem v_callVi (hV : Vw own K Rf V) {Mc : Mt} {n i ci D b : Nat} {As rest stk : List Value} {v : Int32} {S1 : Sm} {q : vw_C} (hd : decode M.2.1 pc = .ok (.invokevirtual i, 3)) (hl : Cond.methodLink M.1.cls i Mc.1 ∈ WS) (hM : MfV Mc n) (hn : As.length = n) (hk : K b = some (.inl ci)) (hc : vwCl[ci]? = some q) (hq : q.1 = Mc.1.cls) (hs : As.reverse ++ .ref b :: rest = stk) (h8 : (rest.map fun v => v.category).sum ≤ 8)
    (hR : D + 1 ≤ R.frames ∧ 8 + (Mc.2.2.1 + 11) + 64 * D ≤ R.locals) (hr : Runs D Mc (.ref b :: As) (V S) (some (.int v)) (V S1) 0 0)
    (kk : G M l Γ R Q 0 0 (pc + 3) ls (.int v :: rest) (V S1)) : G M l Γ R Q 0 0 pc ls stk (V S) :=
  g_callV hd hl hM.1 hM.2.1 hM.2.2 hn (hV.2.2.2.2.2.2.1 S b _ hk) hc hq hs h8 hR ⟨Nat.zero_le _, Nat.zero_le _⟩ hr kk
theorem v_callSi {Mc : Mt} {n i D : Nat} {As rest stk : List Value} {v : Int32} {S1 : Sm} (hd : decode M.2.1 pc = .ok (.invokestatic i, 3)) (hl : Cond.methodLink M.1.cls i Mc.1 ∈ WS) (hM : MfT Mc n) (hn : As.length = n) (hs : As.reverse ++ rest = stk) (h8 : (rest.map fun v => v.category).sum ≤ 8)
    (hR : D + 1 ≤ R.frames ∧ 8 + (Mc.2.2.1 + 11) + 64 * D ≤ R.locals) (hr : Runs D Mc As (V S) (some (.int v)) (V S1) 0 0)
    (kk : G M l Γ R Q 0 0 (pc + 3) ls (.int v :: rest) (V S1)) : G M l Γ R Q 0 0 pc ls stk (V S) :=
  g_callS hd hl hM.1 hM.2 hn hs h8 hR ⟨Nat.zero_le _, Nat.zero_le _⟩ hr kk
theorem v_callNi {Mc : Mt} {n i D : Nat} {host : String} {As rest stk : List Value} {v : Int32} {S1 : Sm} (hd : decode M.2.1 pc = .ok (.invokestatic i, 3)) (hl : (M.1.cls, i, Mc.1, host) ∈ nestL) (hM : MfT Mc n) (hn : As.length = n) (hs : As.reverse ++ rest = stk) (h8 : (rest.map fun v => v.category).sum ≤ 8)
    (hR : D + 1 ≤ R.frames ∧ 8 + (Mc.2.2.1 + 11) + 64 * D ≤ R.locals) (hr : Runs D Mc As (V S) (some (.int v)) (V S1) 0 0)
    (kk : G M l Γ R Q 0 0 (pc + 3) ls (.int v :: rest) (V S1)) : G M l Γ R Q 0 0 pc ls stk (V S) :=
  g_callSN hd hl hM.1 hM.2 hn hs h8 hR ⟨Nat.zero_le _, Nat.zero_le _⟩ hr kk
theorem v_callVl (hV : Vw own K Rf V) {Mc : Mt} {n i ci D b : Nat} {As rest stk : List Value} {v : Int64} {S1 : Sm} {q : vw_C} (hd : decode M.2.1 pc = .ok (.invokevirtual i, 3)) (hl : Cond.methodLink M.1.cls i Mc.1 ∈ WS) (hM : MfV Mc n) (hn : As.length = n) (hk : K b = some (.inl ci)) (hc : vwCl[ci]? = some q) (hq : q.1 = Mc.1.cls) (hs : As.reverse ++ .ref b :: rest = stk) (h8 : (rest.map fun v => v.category).sum ≤ 8)
    (hR : D + 1 ≤ R.frames ∧ 8 + (Mc.2.2.1 + 11) + 64 * D ≤ R.locals) (hr : Runs D Mc (.ref b :: As) (V S) (some (.long v)) (V S1) 0 0)
    (kk : G M l Γ R Q 0 0 (pc + 3) ls (.long v :: rest) (V S1)) : G M l Γ R Q 0 0 pc ls stk (V S) :=
  g_callV hd hl hM.1 hM.2.1 hM.2.2 hn (hV.2.2.2.2.2.2.1 S b _ hk) hc hq hs h8 hR ⟨Nat.zero_le _, Nat.zero_le _⟩ hr kk
theorem v_callSl {Mc : Mt} {n i D : Nat} {As rest stk : List Value} {v : Int64} {S1 : Sm} (hd : decode M.2.1 pc = .ok (.invokestatic i, 3)) (hl : Cond.methodLink M.1.cls i Mc.1 ∈ WS) (hM : MfT Mc n) (hn : As.length = n) (hs : As.reverse ++ rest = stk) (h8 : (rest.map fun v => v.category).sum ≤ 8)
    (hR : D + 1 ≤ R.frames ∧ 8 + (Mc.2.2.1 + 11) + 64 * D ≤ R.locals) (hr : Runs D Mc As (V S) (some (.long v)) (V S1) 0 0)
    (kk : G M l Γ R Q 0 0 (pc + 3) ls (.long v :: rest) (V S1)) : G M l Γ R Q 0 0 pc ls stk (V S) :=
  g_callS hd hl hM.1 hM.2 hn hs h8 hR ⟨Nat.zero_le _, Nat.zero_le _⟩ hr kk
theorem v_callNl {Mc : Mt} {n i D : Nat} {host : String} {As rest stk : List Value} {v : Int64} {S1 : Sm} (hd : decode M.2.1 pc = .ok (.invokestatic i, 3)) (hl : (M.1.cls, i, Mc.1, host) ∈ nestL) (hM : MfT Mc n) (hn : As.length = n) (hs : As.reverse ++ rest = stk) (h8 : (rest.map fun v => v.category).sum ≤ 8)
    (hR : D + 1 ≤ R.frames ∧ 8 + (Mc.2.2.1 + 11) + 64 * D ≤ R.locals) (hr : Runs D Mc As (V S) (some (.long v)) (V S1) 0 0)
    (kk : G M l Γ R Q 0 0 (pc + 3) ls (.long v :: rest) (V S1)) : G M l Γ R Q 0 0 pc ls stk (V S) :=
  g_callSN hd hl hM.1 hM.2 hn hs h8 hR ⟨Nat.zero_le _, Nat.zero_le _⟩ hr kk
theorem v_callVv (hV : Vw own K Rf V) {Mc : Mt} {n i ci D b : Nat} {As rest stk : List Value}  {S1 : Sm} {q : vw_C} (hd : decode M.2.1 pc = .ok (.invokevirtual i, 3)) (hl : Cond.methodLink M.1.cls i Mc.1 ∈ WS) (hM : MfV Mc n) (hn : As.length = n) (hk : K b = some (.inl ci)) (hc : vwCl[ci]? = some q) (hq : q.1 = Mc.1.cls) (hs : As.reverse ++ .ref b :: rest = stk) (h8 : (rest.map fun v => v.category).sum ≤ 8)
    (hR : D + 1 ≤ R.frames ∧ 8 + (Mc.2.2.1 + 11) + 64 * D ≤ R.locals) (hr : Runs D Mc (.ref b :: As) (V S) none (V S1) 0 0)
    (kk : G M l Γ R Q 0 0 (pc + 3) ls (rest) (V S1)) : G M l Γ R Q 0 0 pc ls stk (V S) :=
  g_callV hd hl hM.1 hM.2.1 hM.2.2 hn (hV.2.2.2.2.2.2.1 S b _ hk) hc hq hs h8 hR ⟨Nat.zero_le _, Nat.zero_le _⟩ hr kk
theorem v_callSv {Mc : Mt} {n i D : Nat} {As rest stk : List Value}  {S1 : Sm} (hd : decode M.2.1 pc = .ok (.invokestatic i, 3)) (hl : Cond.methodLink M.1.cls i Mc.1 ∈ WS) (hM : MfT Mc n) (hn : As.length = n) (hs : As.reverse ++ rest = stk) (h8 : (rest.map fun v => v.category).sum ≤ 8)
    (hR : D + 1 ≤ R.frames ∧ 8 + (Mc.2.2.1 + 11) + 64 * D ≤ R.locals) (hr : Runs D Mc As (V S) none (V S1) 0 0)
    (kk : G M l Γ R Q 0 0 (pc + 3) ls (rest) (V S1)) : G M l Γ R Q 0 0 pc ls stk (V S) :=
  g_callS hd hl hM.1 hM.2 hn hs h8 hR ⟨Nat.zero_le _, Nat.zero_le _⟩ hr kk
theorem v_callNv {Mc : Mt} {n i D : Nat} {host : String} {As rest stk : List Value}  {S1 : Sm} (hd : decode M.2.1 pc = .ok (.invokestatic i, 3)) (hl : (M.1.cls, i, Mc.1, host) ∈ nestL) (hM : MfT Mc n) (hn : As.length = n) (hs : As.reverse ++ rest = stk) (h8 : (rest.map fun v => v.category).sum ≤ 8)
    (hR : D + 1 ≤ R.frames ∧ 8 + (Mc.2.2.1 + 11) + 64 * D ≤ R.locals) (hr : Runs D Mc As (V S) none (V S1) 0 0)
    (kk : G M l Γ R Q 0 0 (pc + 3) ls (rest) (V S1)) : G M l Γ R Q 0 0 pc ls stk (V S) :=
  g_callSN hd hl hM.1 hM.2 hn hs h8 hR ⟨Nat.zero_le _, Nat.zero_le _⟩ hr kk
end VC
theorem Runs.of2 {M : Mt} {D mc ms : Nat} {av : List Value} {w w' : Wd} {r : Option Value} (ls : List (Option Value)) (k : Nat) (hls : entL av ++ List.replicate k none = ls) (hy : plainName M.1.cls = true) (hn : (lg_sl av).length ≤ M.2.2.1)
    (kk : ∀ (l : Launch) (Γ : Gm), G M l Γ (rmD D mc ms) (mQ Γ r w' mc ms) 0 0 0 ls [] w) : Runs D M av w r w' mc ms := by
  refine Runs.of (entL av) rfl hy hn fun l Γ => ?_
  intro p e s m args below meth c H locs la X hS hl
  refine kk l Γ p e s m args below meth c H locs la X hS ⟨hl.1, hl.2.1, fun i v hi => hl.2.2 i v ?_⟩
  rw [← hls] at hi
  rcases Nat.lt_or_ge i (entL av).length with q | q
  · rwa [List.getElem?_append_left q] at hi
  · rw [List.getElem?_append_right q] at hi
    have := List.mem_of_getElem? hi
    rw [List.mem_replicate] at this
    cases this.2
theorem lpN_ind2 {σ ρ : Type} {f : σ → Option (σ ⊕ ρ)} (Hd : σ → Prop) (Ps : ρ → Prop) (h : ∀ s o, f s = some o → Sum.elim Hd Ps o → Hd s) (k : Nat) (s : σ) (r : ρ) (e : lpN f k s = some r) (hp : Ps r) : Hd s :=
  lpN_ind Hd Ps (fun s o h1 h2 => h s o h1 (by cases o <;> exact h2)) k s r e hp
section VK
variable {M : Mt} {l : Launch} {Γ : Gm} {R : Room} {Q : QT} {cells slots pc : Nat} {ls : List (Option Value)} {st : List Value} {own : Nat → Bool} {K : Nat → Option Kd} {Rf : Nat → Nat → Option Nat} {V : Sm → Wd} {S : Sm}
theorem v_ialdK (hV : Vw own K Rf V) {i n k : Nat} {j : Int32} (hd : decode M.2.1 pc = .ok (.iaload, 1)) (hk : K i = some (.inr (.int, n))) (ho : own i = true) (hin : inb j n) (hj : ix j = k) (kk : G M l Γ R Q cells slots (pc + 1) ls (.int (gi S i k) :: st) (V S)) : G M l Γ R Q cells slots pc ls (.int j :: .ref i :: st) (V S) := v_iald hV hd hk ho hin (by rw [hj]; exact kk)
theorem v_zaldK (hV : Vw own K Rf V) {i n k : Nat} {j : Int32} (hd : decode M.2.1 pc = .ok (.baload, 1)) (hk : K i = some (.inr (.boolean, n))) (ho : own i = true) (hin : inb j n) (hj : ix j = k) (kk : G M l Γ R Q cells slots (pc + 1) ls (.int (gi S i k) :: st) (V S)) : G M l Γ R Q cells slots pc ls (.int j :: .ref i :: st) (V S) := v_zald hV hd hk ho hin (by rw [hj]; exact kk)
theorem v_iastK (hV : Vw own K Rf V) {i n k : Nat} {j x : Int32} (hd : decode M.2.1 pc = .ok (.iastore, 1)) (hk : K i = some (.inr (.int, n))) (ho : own i = true) (hin : inb j n) (hj : ix j = k) (kk : G M l Γ R Q cells slots (pc + 1) ls st (V (si S i k x))) : G M l Γ R Q cells slots pc ls (.int x :: .int j :: .ref i :: st) (V S) := v_iast hV hd hk ho hin (by rw [hj]; exact kk)
theorem v_zastK (hV : Vw own K Rf V) {i n k : Nat} {j x : Int32} (hd : decode M.2.1 pc = .ok (.bastore, 1)) (hk : K i = some (.inr (.boolean, n))) (ho : own i = true) (hin : inb j n) (hj : ix j = k) (kk : G M l Γ R Q cells slots (pc + 1) ls st (V (si S i k (x &&& 1)))) : G M l Γ R Q cells slots pc ls (.int x :: .int j :: .ref i :: st) (V S) := v_zast hV hd hk ho hin (by rw [hj]; exact kk)
/-- a table switch, the offset as a function -/
def tabO (lo hi : Int) (offs : Array Int) (d xi : Int) : Int := if xi < lo ∨ hi < xi then d else offs.getD (xi - lo).toNat d
theorem g_tab {w : Wd} {dflt lo hi : Int} {offs : Array Int} {len : Nat} {x : Int32} {off : Int} {tgt : Nat} (hd : decode M.2.1 pc = .ok (.tableswitch dflt lo hi offs, len)) (ho : tabO lo hi offs dflt x.toInt = off) (ht : (pc : Int) + off = (tgt : Int)) (hz : (offs.size : Int) = hi - lo + 1) (kk : G M l Γ R Q cells slots tgt ls st w) : G M l Γ R Q cells slots pc ls (.int x :: st) w := by
  unfold tabO at ho
  by_cases h : x.toInt < lo ∨ hi < x.toInt
  · rw [if_pos h] at ho
    subst ho
    exact g_tabOut hd h ht kk
  · rw [if_neg h] at ho
    have h1 : ¬ x.toInt < lo := fun q => h (Or.inl q)
    have h2 : ¬ hi < x.toInt := fun q => h (Or.inr q)
    have hl : (x.toInt - lo).toNat < offs.size := by omega
    refine g_tabIn hd h1 h2 (off := off) ?_ ht kk
    rw [Array.getElem?_eq_getElem hl]
    rw [Array.getD_eq_getD_getElem?, Array.getElem?_eq_getElem hl] at ho
    exact congrArg some ho
theorem tab_dflt {lo hi : Int} {offs : Array Int} {d xi : Int} {ok : List Nat} (h : ∀ k ∈ ok, ¬ xi = lo + (k : Int)) (hc : ∀ k : Nat, k < offs.size → k ∉ ok → offs.getD k d = d) : tabO lo hi offs d xi = d := by
  unfold tabO
  by_cases q : xi < lo ∨ hi < xi
  · rw [if_pos q]
  · rw [if_neg q]
    by_cases z : (xi - lo).toNat < offs.size
    · exact hc _ z fun hm => h _ hm (by omega)
    · rw [Array.getD_eq_getD_getElem?, Array.getElem?_eq_none (by omega)]; rfl
end VK
section VM
variable {M : Mt} {l : Launch} {Γ : Gm} {R : Room} {Q : QT} {cells slots pc : Nat} {ls : List (Option Value)} {st : List Value} {w : Wd}
def iMin (x y : Int32) : Int32 := if y < x then y else x
theorem g_iMin {x y : Int32} {i : Nat} (hd : decode M.2.1 pc = .ok (.invokestatic i, 3)) (hl : Cond.methodLink M.1.cls i yJ9_min_7cf53 ∈ WS) (hR : 1 ≤ R.frames ∧ (st.map fun v => v.category).sum + 13 ≤ R.locals) (h1 : cells ≤ R.cells) (h2 : slots ≤ R.slots) (kk : G M l Γ R Q cells slots (pc + 3) ls (.int (iMin x y) :: st) w) : G M l Γ R Q cells slots pc ls (.int y :: .int x :: st) w := by
  intro p e s m args below meth c H locs la X hS hl'
  have hts := X.2.2.2.2.1
  exact va_mmin X.1 X.2.1 (by rw [X.2.2.1]; exact hl'.1.symm) X.2.2.2.1 (hts _ hl) (hts _ sT_J9_min_7cf53) (hts _ iN_J9) (hts _ cO_J9_min_7cf53) hR.1 (by rw [cat_map]; exact hR.2) h1 h2 hd (kk p e s m args below meth c H locs la X hS hl')
def iMax (x y : Int32) : Int32 := if x < y then y else x
theorem g_iMax {x y : Int32} {i : Nat} (hd : decode M.2.1 pc = .ok (.invokestatic i, 3)) (hl : Cond.methodLink M.1.cls i yJ9_max_7cf53 ∈ WS) (hR : 1 ≤ R.frames ∧ (st.map fun v => v.category).sum + 13 ≤ R.locals) (h1 : cells ≤ R.cells) (h2 : slots ≤ R.slots) (kk : G M l Γ R Q cells slots (pc + 3) ls (.int (iMax x y) :: st) w) : G M l Γ R Q cells slots pc ls (.int y :: .int x :: st) w := by
  intro p e s m args below meth c H locs la X hS hl'
  have hts := X.2.2.2.2.1
  exact va_mmax X.1 X.2.1 (by rw [X.2.2.1]; exact hl'.1.symm) X.2.2.2.1 (hts _ hl) (hts _ sT_J9_max_7cf53) (hts _ iN_J9) (hts _ cO_J9_max_7cf53) hR.1 (by rw [cat_map]; exact hR.2) h1 h2 hd (kk p e s m args below meth c H locs la X hS hl')
def lMin (x y : Int64) : Int64 := if y < x then y else x
theorem g_lMin {x y : Int64} {i : Nat} (hd : decode M.2.1 pc = .ok (.invokestatic i, 3)) (hl : Cond.methodLink M.1.cls i yJ9_min_f86c9 ∈ WS) (hR : 1 ≤ R.frames ∧ (st.map fun v => v.category).sum + 15 ≤ R.locals) (h1 : cells ≤ R.cells) (h2 : slots ≤ R.slots) (kk : G M l Γ R Q cells slots (pc + 3) ls (.long (lMin x y) :: st) w) : G M l Γ R Q cells slots pc ls (.long y :: .long x :: st) w := by
  intro p e s m args below meth c H locs la X hS hl'
  have hts := X.2.2.2.2.1
  exact va_mmin_long X.1 X.2.1 (by rw [X.2.2.1]; exact hl'.1.symm) X.2.2.2.1 (hts _ hl) (hts _ sT_J9_min_f86c9) (hts _ iN_J9) (hts _ cO_J9_min_f86c9) hR.1 (by rw [cat_map]; exact hR.2) h1 h2 hd (kk p e s m args below meth c H locs la X hS hl')
def lMax (x y : Int64) : Int64 := if y < x then x else y
theorem g_lMax {x y : Int64} {i : Nat} (hd : decode M.2.1 pc = .ok (.invokestatic i, 3)) (hl : Cond.methodLink M.1.cls i yJ9_max_f86c9 ∈ WS) (hR : 1 ≤ R.frames ∧ (st.map fun v => v.category).sum + 15 ≤ R.locals) (h1 : cells ≤ R.cells) (h2 : slots ≤ R.slots) (kk : G M l Γ R Q cells slots (pc + 3) ls (.long (lMax x y) :: st) w) : G M l Γ R Q cells slots pc ls (.long y :: .long x :: st) w := by
  intro p e s m args below meth c H locs la X hS hl'
  have hts := X.2.2.2.2.1
  exact va_mmax_long X.1 X.2.1 (by rw [X.2.2.1]; exact hl'.1.symm) X.2.2.2.1 (hts _ hl) (hts _ sT_J9_max_f86c9) (hts _ iN_J9) (hts _ cO_J9_max_f86c9) hR.1 (by rw [cat_map]; exact hR.2) h1 h2 hd (kk p e s m args below meth c H locs la X hS hl')
end VM
