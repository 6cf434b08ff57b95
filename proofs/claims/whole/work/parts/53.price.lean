/-! ===== the reference's worth, prices, dark, cheapest ===== -/
section PR
variable {T : Sm} {le : Nat → Int32} {h e : Nat}
def LaT (le : Nat → Int32) (T T1 : Sm) (st : List Int32) : Prop := LwT T T1 ∧ (∀ i, i < 5 → gi T1 62 i = le i) ∧ Stk (T1.1 63) st
theorem si63_row {T1 : Sm} {j : Nat} {v : Int32} : (si T1 63 j v).1 63 = fun i => if i = j then v else T1.1 63 i := funext fun i => by
  show (if 63 = 63 ∧ i = j then v else T1.1 63 i) = _
  by_cases x : i = j
  · rw [if_pos ⟨rfl, x⟩, if_pos x]
  · rw [if_neg fun q => x q.2, if_neg x]
theorem LaT.push {T1 : Sm} {st : List Int32} {v : Int32} (g : LaT le T T1 st) : LaT le T (si T1 63 st.length v) (v :: st) :=
  ⟨g.1.st, g.2.1, by rw [si63_row]; exact g.2.2.push⟩
theorem md_tok {k w p : Nat} {τ τ' : List Bool} {st : List Int32} {T1 : Sm} (hr : rt1 (k, w) τ = some τ') (hs : Typ τ st) (h60 : st.length ≤ 60) (hL : LaT le T T1 st) (hp : p < 520 * h + e) (he : 520 * h + e ≤ 2600) (hc : gi T 55 p = nI k) (hw : gi T 56 p = nI w) : ∃ T2 st', ev1 le (k, w) st = some st' ∧ Typ τ' st' ∧ st'.length ≤ 60 ∧ LaT le T T2 st' ∧ Md_workOut_L12 (nI h) (nI e) (nI st.length, nI p, T1) = some (.inl (nI st'.length, nI (p + 1), T2)) := by
  have c1 : gi T1 55 p = nI k := (hL.1 55 p (by omega) (by omega)).trans hc
  have w1 : gi T1 56 p = nI w := (hL.1 56 p (by omega) (by omega)).trans hw
  rcases ev1_ok le hr hs with ⟨v, e1, e2, e3, e4⟩ | ⟨x, st0, rfl, e1, e2, rfl⟩ | ⟨b, a, st0, v, rfl, e1, e2, ⟨e3, e4, e5⟩, e6, e7⟩
  · refine ⟨si T1 63 st.length v, v :: st, e1, e2, e3, hL.push, ?_⟩
    rcases e4 with ⟨rfl, hw, rfl⟩ | ⟨rfl, hw, rfl⟩
    · unfold Md_workOut_L12 Md_workOut_45_L12 Md_workOut_83_L12 Md_workOut_165_L12
      simp (disch := omega) only [q_lit, q_m1, q_m2, q_hid, q_add, q_mul, q_sub, q_le, q_lt, q_eq, q_mlt, q_mle, q_ltm, q_lem, q_meq, q_eqm, q_m2lt, q_m2le, q_ltm2, q_lem2, q_eqm2, q_mm2, q_m2m, q_mm, q_mnm, q_ix, q_inb, q_a0, q_a1, q_app, q_bind, if_true, if_false, if_pos, if_neg, c1, w1, List.length_cons]
    · have l1 := hL.2.1 w hw
      unfold Md_workOut_L12 Md_workOut_45_L12 Md_workOut_83_L12 Md_workOut_165_L12
      simp (disch := omega) only [q_lit, q_m1, q_m2, q_hid, q_add, q_mul, q_sub, q_le, q_lt, q_eq, q_mlt, q_mle, q_ltm, q_lem, q_meq, q_eqm, q_m2lt, q_m2le, q_ltm2, q_lem2, q_eqm2, q_mm2, q_m2m, q_mm, q_mnm, q_ix, q_inb, q_a0, q_a1, q_app, q_bind, if_true, if_false, if_pos, if_neg, c1, w1, l1, List.length_cons]
  · have hl : st0.length + 1 ≤ 60 := h60
    have g1 : gi T1 63 st0.length = x := hL.2.2.1
    have hL0 : LaT le T T1 st0 := ⟨hL.1, hL.2.1, hL.2.2.2⟩
    refine ⟨si T1 63 st0.length (1 - x), (1 - x) :: st0, e1, e2, h60, hL0.push, ?_⟩
    have one : (1 : Int32) = nI 1 := rfl
    unfold Md_workOut_L12 Md_workOut_165_L12
    rw [one]
    simp (disch := omega) only [q_lit, q_m1, q_m2, q_hid, q_add, q_mul, q_sub, q_le, q_lt, q_eq, q_mlt, q_mle, q_ltm, q_lem, q_meq, q_eqm, q_m2lt, q_m2le, q_ltm2, q_lem2, q_eqm2, q_mm2, q_m2m, q_mm, q_mnm, q_ix, q_inb, q_a0, q_a1, q_app, q_bind, if_true, if_false, if_pos, if_neg, c1, List.length_cons, Nat.add_sub_cancel, g1]
  · have hl : st0.length + 1 + 1 ≤ 60 := h60
    have g1 : gi T1 63 (st0.length + 1) = b := hL.2.2.1
    have g2 : gi T1 63 st0.length = a := hL.2.2.2.1
    have hL0 : LaT le T T1 st0 := ⟨hL.1, hL.2.1, hL.2.2.2.2⟩
    have x1 : st0.length + 1 + 1 - 1 = st0.length + 1 := by omega
    have x2 : st0.length + 1 - 1 = st0.length := by omega
    refine ⟨si T1 63 st0.length v, v :: st0, e1, e2, by show st0.length + 1 ≤ 60; omega, hL0.push, ?_⟩
    unfold Md_workOut_L12 Md_workOut_165_L12
    simp (disch := omega) only [q_lit, q_m1, q_m2, q_hid, q_add, q_mul, q_sub, q_le, q_lt, q_eq, q_mlt, q_mle, q_ltm, q_lem, q_meq, q_eqm, q_m2lt, q_m2le, q_ltm2, q_lem2, q_eqm2, q_mm2, q_m2m, q_mm, q_mnm, q_ix, q_inb, q_a0, q_a1, q_app, q_bind, if_true, if_false, if_pos, if_neg, q_addm, c1, List.length_cons, x1, x2, g1, g2, e7]
theorem md_seg : ∀ (l : List Tk) {p : Nat} {τ τ' : List Bool} {st : List Int32} {T1 : Sm}, rt l τ = some τ' → Typ τ st → st.length ≤ 60 → LaT le T T1 st → p + l.length ≤ 520 * h + e → 520 * h + e ≤ 2600 → (∀ j x, l[j]? = some x → gi T 55 (p + j) = nI x.1 ∧ gi T 56 (p + j) = nI x.2) → ∃ T2 st', evL le l st = some st' ∧ Typ τ' st' ∧ st'.length ≤ 60 ∧ LaT le T T2 st' ∧ Go (Md_workOut_L12 (nI h) (nI e)) l.length (nI st.length, nI p, T1) (nI st'.length, nI (p + l.length), T2)
  | [], p, τ, τ', st, T1, hr, hs, h60, hL, _, _, _ => by
    cases hr
    exact ⟨T1, st, rfl, hs, h60, hL, Go.zero _⟩
  | t :: l, p, τ, τ', st, T1, hr, hs, h60, hL, hp, he, hc => by
    have hp' : p + (l.length + 1) ≤ 520 * h + e := hp
    cases hr1 : rt1 t τ with
    | none =>
      have hr : (rt1 t τ).bind (rt l) = some τ' := hr
      rw [hr1] at hr; cases hr
    | some τ1 =>
      have h' : (rt1 t τ).bind (rt l) = some τ' := hr
      rw [hr1] at h'
      have h'' : rt l τ1 = some τ' := h'
      obtain ⟨k, w⟩ := t
      obtain ⟨c1, c2⟩ := hc 0 _ rfl
      obtain ⟨T2, st1, a1, a2, a3, a4, a5⟩ := md_tok (le := le) (h := h) (e := e) hr1 hs h60 hL (p := p) (by omega) he c1 c2
      obtain ⟨T3, st2, b1, b2, b3, b4, b5⟩ := md_seg l h'' a2 a3 a4 (p := p + 1) (by omega) he (fun j x hx => by
        have := hc (j + 1) x hx
        rwa [show p + (j + 1) = p + 1 + j by omega] at this)
      refine ⟨T3, st2, ?_, b2, b3, b4, ?_⟩
      · show (ev1 _ (k, w) st).bind _ = _
        rw [a1]; exact b1
      · have := (Go.one a5).trans b5
        rw [show 1 + l.length = l.length + 1 by omega, show p + 1 + l.length = p + (l.length + 1) by omega] at this
        exact this
theorem md_wo {l : List Tk} {b : Bool} {p : Nat} {T1 : Sm} (hr : rt l [] = some [b]) (hL : LwT T T1 ∧ ∀ i, i < 5 → gi T1 62 i = le i) (he : 520 * h + (p + l.length) ≤ 2600) (hc : ∀ j x, l[j]? = some x → gi T 55 (520 * h + p + j) = nI x.1 ∧ gi T 56 (520 * h + p + j) = nI x.2) : ∃ T2, Md_workOut (nI h) (nI p) (nI (p + l.length)) T1 = some (val le l, T2) ∧ LwT T T2 ∧ ∀ i, i < 5 → gi T2 62 i = le i := by
  obtain ⟨T2, st', b1, b2, b3, b4, b5⟩ := md_seg (le := le) (h := h) (e := p + l.length) l hr (show Typ [] [] from trivial) (Nat.zero_le _) (show LaT le T T1 [] from ⟨hL.1, hL.2, trivial⟩) (p := 520 * h + p) (by omega) he hc
  obtain ⟨v, rfl, -⟩ := typ1 b2
  have hv : val le l = v := by unfold val; rw [b1]
  have b5' : Go (Md_workOut_L12 (nI h) (nI (p + l.length))) l.length (nI 0, nI (520 * h + p), T1) (nI 1, nI (520 * h + p + l.length), T2) := b5
  have ee : Md_workOut_L12 (nI h) (nI (p + l.length)) (nI 1, nI (520 * h + p + l.length), T2) = some (.inr T2) := by
    unfold Md_workOut_L12
    simp (disch := omega) only [q_lit, q_m1, q_m2, q_hid, q_add, q_mul, q_sub, q_le, q_lt, q_eq, q_mlt, q_mle, q_ltm, q_lem, q_meq, q_eqm, q_m2lt, q_m2le, q_ltm2, q_lem2, q_eqm2, q_mm2, q_m2m, q_mm, q_mnm, q_ix, q_inb, q_a0, q_a1, q_app, q_bind, if_true, if_false, if_pos, if_neg]
  have fin := b5'.fin ee (by omega)
  have g0 : gi T2 63 0 = v := b4.2.2.1
  refine ⟨T2, ?_, b4.1, b4.2.1⟩
  unfold Md_workOut
  simp (disch := omega) only [q_lit, q_m1, q_m2, q_hid, q_add, q_mul, q_sub, q_le, q_lt, q_eq, q_mlt, q_mle, q_ltm, q_lem, q_meq, q_eqm, q_m2lt, q_m2le, q_ltm2, q_lem2, q_eqm2, q_mm2, q_m2m, q_mm, q_mnm, q_ix, q_inb, q_a0, q_a1, q_app, q_bind, if_true, if_false, if_pos, if_neg, fin, g0, hv]
theorem take_s (l : List Cl) (c : Nat) (q : Cl) (hq : l[c]? = some q) : l.flatMap clT = (l.take c).flatMap clT ++ (clT q ++ (l.drop (c + 1)).flatMap clT) := by
  have hlt := (List.getElem?_eq_some_iff.mp hq).1
  have e : l = l.take c ++ q :: l.drop (c + 1) := by
    conv => lhs; rw [← List.take_append_drop c l]
    rw [List.drop_eq_getElem_cons hlt, (List.getElem?_eq_some_iff.mp hq).2]
  conv => lhs; rw [e]
  rw [List.flatMap_append, List.flatMap_cons]
theorem md_worth {l : List Cl} {T1 : Sm} (hh : h < 5) (hl : LawT l h T) (hok : ∀ q, q ∈ l → clOK q) (hL : LwT T T1 ∧ ∀ i, i < 5 → gi T1 62 i = le i) : ∃ T2, Md_worthOf (nI h) T1 = some (wo le l, T2) ∧ LwT T T2 := by
  obtain ⟨l1, l2, l3, l4, l5⟩ := hl
  have part : ∀ c q, l[c]? = some q → ((l.take c).flatMap clT).length + q.1.length + q.2.length ≤ 500 ∧ (∀ j x, q.1[j]? = some x → gi T 55 (520 * h + ((l.take c).flatMap clT).length + j) = nI x.1 ∧ gi T 56 (520 * h + ((l.take c).flatMap clT).length + j) = nI x.2) ∧ ∀ j x, q.2[j]? = some x → gi T 55 (520 * h + (((l.take c).flatMap clT).length + q.1.length) + j) = nI x.1 ∧ gi T 56 (520 * h + (((l.take c).flatMap clT).length + q.1.length) + j) = nI x.2 := by
    intro c q hq
    have sp := take_s l c q hq
    have len : (l.flatMap clT).length = ((l.take c).flatMap clT).length + ((q.1.length + q.2.length) + ((l.drop (c + 1)).flatMap clT).length) := by
      rw [sp, List.length_append, List.length_append]
      unfold clT
      rw [List.length_append]
    refine ⟨by omega, fun j x hx => ?_, fun j x hx => ?_⟩
    · have hj := (List.getElem?_eq_some_iff.mp hx).1
      have := l4 (((l.take c).flatMap clT).length + j) x (by
        rw [sp, List.getElem?_append_right (by omega), show ((l.take c).flatMap clT).length + j - ((l.take c).flatMap clT).length = j by omega]
        unfold clT
        rw [List.append_assoc, List.getElem?_append_left hj]; exact hx)
      rwa [show 520 * h + (((l.take c).flatMap clT).length + j) = 520 * h + ((l.take c).flatMap clT).length + j by omega] at this
    · have hj := (List.getElem?_eq_some_iff.mp hx).1
      have := l4 (((l.take c).flatMap clT).length + (q.1.length + j)) x (by
        rw [sp, List.getElem?_append_right (by omega), show ((l.take c).flatMap clT).length + (q.1.length + j) - ((l.take c).flatMap clT).length = q.1.length + j by omega]
        unfold clT
        rw [List.append_assoc, List.getElem?_append_right (by omega), show q.1.length + j - q.1.length = j by omega, List.getElem?_append_left hj]; exact hx)
      rwa [show 520 * h + (((l.take c).flatMap clT).length + (q.1.length + j)) = 520 * h + (((l.take c).flatMap clT).length + q.1.length) + j by omega] at this
  suffices hl : ∃ r, lpN (Md_worthOf_L6 (nI h)) FU (nI (140 * h), T1) = some r ∧ ((∃ T2, r = .inr T2 ∧ LwT T T2 ∧ wo le l = 0) ∨ ∃ c q T2, r = .inl (nI (140 * h + c), T2) ∧ l[c]? = some q ∧ (LwT T T2 ∧ ∀ i, i < 5 → gi T2 62 i = le i) ∧ wo le l = val le q.2) by
    obtain ⟨r, er, hr⟩ := hl
    have e0 : (140 : Int32) * nI h = nI (140 * h) := by simp (disch := omega) only [q_lit, q_m1, q_m2, q_hid, q_add, q_mul, q_sub, q_le, q_lt, q_eq, q_mlt, q_mle, q_ltm, q_lem, q_meq, q_eqm, q_m2lt, q_m2le, q_ltm2, q_lem2, q_eqm2, q_mm2, q_m2m, q_mm, q_mnm, q_ix, q_inb, q_a0, q_a1, q_app, q_bind, if_true, if_false, if_pos, if_neg]
    unfold Md_worthOf
    rw [e0, er]
    rcases hr with ⟨T2, rfl, g1, g2⟩ | ⟨c, q, T2, rfl, hq, hL2, g2⟩
    · exact ⟨T2, by rw [g2]; rfl, g1⟩
    · have hc := (List.getElem?_eq_some_iff.mp hq).1
      obtain ⟨p1, p2, p3⟩ := part c q hq
      obtain ⟨f1, f2, f3⟩ := l5 c q hq
      have f2' : gi T2 60 (140 * h + c) = _ := (hL2.1 60 _ (by omega) (by omega)).trans f2
      have f3' : gi T2 61 (140 * h + c) = _ := (hL2.1 61 _ (by omega) (by omega)).trans f3
      obtain ⟨T3, w1, w2, w3⟩ := md_wo (le := le) (h := h) (p := ((l.take c).flatMap clT).length + q.1.length) (hok q (List.mem_of_getElem? hq)).2 hL2 (by omega) p3
      refine ⟨T3, ?_, w2⟩
      show (if inb (nI (140 * h + c)) 700 then (if inb (nI (140 * h + c)) 700 then ((Md_workOut (nI h) (gi T2 60 (ix (nI (140 * h + c)))) (gi T2 61 (ix (nI (140 * h + c)))) T2).bind fun q15 => some (q15.1, q15.2)) else none) else none) = _
      rw [if_pos (nI_in (by omega) (by omega)), if_pos (nI_in (by omega) (by omega)), q_ix (by omega), f2', f3', w1, g2]; rfl
  have drop_s : ∀ c q, l[c]? = some q → wo le (l.drop c) = if q.1 = [] then val le q.2 else if val le q.1 = 0 then wo le (l.drop (c + 1)) else val le q.2 := fun c q hq => by
    have hlt := (List.getElem?_eq_some_iff.mp hq).1
    rw [List.drop_eq_getElem_cons hlt, (List.getElem?_eq_some_iff.mp hq).2]; rfl
  refine lp_inv (fun c (q : Int32 × Sm) => q.1 = nI (140 * h + c) ∧ (LwT T q.2 ∧ ∀ i, i < 5 → gi q.2 62 i = le i) ∧ wo le l = wo le (l.drop c)) l.length (by omega) ⟨rfl, hL, rfl⟩ (fun c q hc hq => ?_) (fun q hq => ?_)
  · obtain ⟨q1, T2⟩ := q
    obtain ⟨rfl, hL2, hw⟩ := hq
    have hL2 : LwT T T2 ∧ ∀ i, i < 5 → gi T2 62 i = le i := hL2
    obtain ⟨q, hq⟩ : ∃ q, l[c]? = some q := ⟨l[c], List.getElem?_eq_getElem hc⟩
    obtain ⟨p1, p2, p3⟩ := part c q hq
    obtain ⟨f1, f2, f3⟩ := l5 c q hq
    have f1' : gi T2 59 (140 * h + c) = _ := (hL2.1 59 _ (by omega) (by omega)).trans f1
    have f2' : gi T2 60 (140 * h + c) = _ := (hL2.1 60 _ (by omega) (by omega)).trans f2
    have f0' : gi T2 58 h = _ := (hL2.1 58 _ (by omega) (by omega)).trans l3
    obtain ⟨o1, o2⟩ := hok q (List.mem_of_getElem? hq)
    have dw := drop_s c q hq
    unfold Md_worthOf_L6
    by_cases z : q.1 = []
    · have z0 : q.1.length = 0 := by rw [z]; rfl
      refine Or.inr ⟨.inl (nI (140 * h + c), T2), ?_, Or.inr ⟨c, q, T2, rfl, hq, hL2, ?_⟩⟩
      · simp (disch := omega) only [q_lit, q_m1, q_m2, q_hid, q_add, q_mul, q_sub, q_le, q_lt, q_eq, q_mlt, q_mle, q_ltm, q_lem, q_meq, q_eqm, q_m2lt, q_m2le, q_ltm2, q_lem2, q_eqm2, q_mm2, q_m2m, q_mm, q_mnm, q_ix, q_inb, q_a0, q_a1, q_app, q_bind, if_true, if_false, if_pos, if_neg, f0', f1', f2', z0, Nat.add_zero]
      · rw [hw, dw, if_pos z]
    · have z0 : 0 < q.1.length := List.length_pos_iff.mpr z
      obtain ⟨T3, w1, w2, w3⟩ := md_wo (le := le) (h := h) (p := ((l.take c).flatMap clT).length) (o1.resolve_left z) hL2 (by omega) p2
      by_cases y : val le q.1 = nI 0
      · refine Or.inl ⟨(nI (140 * h + (c + 1)), T3), ?_, rfl, ⟨w2, w3⟩, ?_⟩
        · rw [show 140 * h + (c + 1) = 140 * h + c + 1 by omega]
          simp (disch := omega) only [q_lit, q_m1, q_m2, q_hid, q_add, q_mul, q_sub, q_le, q_lt, q_eq, q_mlt, q_mle, q_ltm, q_lem, q_meq, q_eqm, q_m2lt, q_m2le, q_ltm2, q_lem2, q_eqm2, q_mm2, q_m2m, q_mm, q_mnm, q_ix, q_inb, q_a0, q_a1, q_app, q_bind, if_true, if_false, if_pos, if_neg, f0', f1', f2', w1, y]
        · rw [hw, dw, if_neg z, if_pos (show val le q.1 = 0 from y)]
      · refine Or.inr ⟨.inl (nI (140 * h + c), T3), ?_, Or.inr ⟨c, q, T3, rfl, hq, ⟨w2, w3⟩, ?_⟩⟩
        · simp (disch := omega) only [q_lit, q_m1, q_m2, q_hid, q_add, q_mul, q_sub, q_le, q_lt, q_eq, q_mlt, q_mle, q_ltm, q_lem, q_meq, q_eqm, q_m2lt, q_m2le, q_ltm2, q_lem2, q_eqm2, q_mm2, q_m2m, q_mm, q_mnm, q_ix, q_inb, q_a0, q_a1, q_app, q_bind, if_true, if_false, if_pos, if_neg, f0', f1', f2', w1, y]
        · rw [hw, dw, if_neg z, if_neg (show ¬ val le q.1 = 0 from y)]
  · obtain ⟨q1, T2⟩ := q
    obtain ⟨rfl, hL2, hw⟩ := hq
    have f0' : gi T2 58 h = _ := (hL2.1 58 _ (by omega) (by omega)).trans l3
    refine ⟨.inr T2, ?_, Or.inl ⟨T2, rfl, hL2.1, ?_⟩⟩
    · unfold Md_worthOf_L6
      simp (disch := omega) only [q_lit, q_m1, q_m2, q_hid, q_add, q_mul, q_sub, q_le, q_lt, q_eq, q_mlt, q_mle, q_ltm, q_lem, q_meq, q_eqm, q_m2lt, q_m2le, q_ltm2, q_lem2, q_eqm2, q_mm2, q_m2m, q_mm, q_mnm, q_ix, q_inb, q_a0, q_a1, q_app, q_bind, if_true, if_false, if_pos, if_neg, f0', Nat.le_refl]
    · rw [hw, List.drop_eq_nil_of_le (Nat.le_refl _)]; rfl
end PR
