/-! ===== a law's text: the whole of it ===== -/
def LwB (v : Nat) (l : List Cl) (T : Sm) : Prop := gi T 58 v = nI l.length ∧ ∀ k q, l[k]? = some q → gi T 59 (140 * v + k) = nI ((l.take k).flatMap clT).length ∧ gi T 60 (140 * v + k) = nI (((l.take k).flatMap clT).length + q.1.length) ∧ gi T 61 (140 * v + k) = nI (((l.take k).flatMap clT).length + q.1.length + q.2.length)
section LG
variable {n : Nat} {b : Nat → Nat} {L v : Nat} {T0 S0 T S : Sm}
theorem LwB.eq {l : List Cl} {T' : Sm} (h : LwB v l T) (e : EqC T T') : LwB v l T' := ⟨(e _ _ (by omega) (by omega)).trans h.1, fun k q hk => ⟨(e _ _ (by omega) (by omega)).trans (h.2 k q hk).1, (e _ _ (by omega) (by omega)).trans (h.2 k q hk).2.1, (e _ _ (by omega) (by omega)).trans (h.2 k q hk).2.2⟩⟩
/-- how it ends -/
def LwN (n : Nat) (b : Nat → Nat) (L v : Nat) (T0 S0 T S : Sm) : Prop := ∃ r T', Md_atEnd T = some (r, T') ∧ Tp_firstFault S = r ∧ ((r = mI ∧ ∃ i l, PzO n b L v T0 S0 i 0 (l.flatMap clC) (l.flatMap clT) T' S ∧ 3 * l.length ≤ i ∧ LwB v l T' ∧ ∀ q, q ∈ l → clOK q) ∨ PzZ n b L v T0 S0 T' S)
theorem PzZ.end (h : PzZ n b L v T0 S0 T S) : LwN n b L v T0 S0 T S := by
  obtain ⟨i, t, A, x⟩ := h
  obtain ⟨p, p1, p2, p3, p4, p5, p6⟩ := x.p
  refine ⟨nI p, T, ?_, p3, Or.inr ⟨i, t, A, x⟩⟩
  unfold Md_atEnd Md_atEnd_20
  rw [if_neg p6, p4]
theorem LwB.snoc {l : List Cl} {q : Cl} {T' : Sm} (h : LwB v l T) (h58 : gi T' 58 v = nI (l.length + 1)) (h59 : gi T' 59 (140 * v + l.length) = nI (l.flatMap clT).length) (h60 : gi T' 60 (140 * v + l.length) = nI ((l.flatMap clT).length + q.1.length)) (h61 : gi T' 61 (140 * v + l.length) = nI ((l.flatMap clT).length + q.1.length + q.2.length)) (hT : ∀ r k, 59 ≤ r → r ≤ 61 → k ≠ 140 * v + l.length → T'.1 r k = T.1 r k) : LwB v (l ++ [q]) T' := by
  refine ⟨by rw [List.length_append]; exact h58, fun k p hk => ?_⟩
  by_cases z : k < l.length
  · rw [List.getElem?_append_left z] at hk
    rw [List.take_append_of_le_length (by omega)]
    obtain ⟨a, c, d⟩ := h.2 k p hk
    exact ⟨(hT _ _ (by omega) (by omega) (by omega)).trans a, (hT _ _ (by omega) (by omega) (by omega)).trans c, (hT _ _ (by omega) (by omega) (by omega)).trans d⟩
  · rw [List.getElem?_append_right (by omega)] at hk
    by_cases z2 : k = l.length
    · subst z2
      rw [Nat.sub_self] at hk
      have hk : q = p := Option.some.inj hk
      subst hk
      rw [List.take_append_of_le_length (Nat.le_refl _), List.take_length]
      exact ⟨h59, h60, h61⟩
    · obtain ⟨x, hx⟩ : ∃ x, k - l.length = x + 1 := ⟨k - l.length - 1, by omega⟩
      rw [hx] at hk; cases hk
def LwG (n : Nat) (b : Nat → Nat) (L v : Nat) (T0 S0 : Sm) (r : Nat) : Prop := ∀ i l T S it, n ≤ i + r → PzO n b L v T0 S0 i 0 (l.flatMap clC) (l.flatMap clT) T S → 3 * l.length ≤ i → it ≤ i → LwB v l T → (∀ q, q ∈ l → clOK q) → ∃ T1 k s' S' k2 t' T', Md_clause T = some T1 ∧ k ≤ r + 1 ∧ Go Lr_firstFault_L18 k (1, nI it, S) s' ∧ Lr_firstFault_L18 s' = some (.inr S') ∧ k2 ≤ r ∧ Go Md_readLaw_L9 k2 T1 t' ∧ Md_readLaw_L9 t' = some (.inr T') ∧ LwN n b L v T0 S0 T' S'
theorem law_step {r : Nat} (ih : 0 < r → LwG n b L v T0 S0 (r - 1)) : LwG n b L v T0 S0 r := fun i l T S it hr h h3 hit hl hok => by
  have n240 := h.2.1.1.1
  have hb := h.2.1.1.2.1
  have hin := h.2.1.2.2.2.2.2
  obtain ⟨T1, S1, a1, a2, a3⟩ := cl_all (by omega) h hl.1
  have stp : ∀ f S2, Tp_goesOn S1 = some (f, S2) → Lr_firstFault_L18 (1, nI it, S) = some (.inl (f, nI (it + 1), S2)) := fun f S2 e => by
    unfold Lr_firstFault_L18
    dsimp only
    rw [if_neg (show ¬ (240 : Int32) < nI it from fun z => by have := (q_lt (a := 240) (by omega) (by omega)).mp z; omega), if_neg (show ¬ (1 : Int32) = 0 by decide), a1, q_bind, e, q_bind, show nI it + 1 = nI (it + 1) from q_add it 1]
  have out : ∀ x S2, Lr_firstFault_L18 (0, x, S2) = some (.inr S2) := fun x S2 => by
    unfold Lr_firstFault_L18
    dsimp only
    rw [if_pos rfl]
    split <;> rfl
  rcases a3 with ⟨q, j, q1, q2, q3, q4, q5, q6, q7, q8⟩ | z
  · obtain ⟨kk, w1, w2, w3, w4, w5⟩ := lx_look q3.2.1
    have P1 := q3.mv w1 w2
    have f4 : gi T1 53 4 = -1 := q3.2.1.2.2.1
    have e1 : (l ++ [q]).flatMap clC = l.flatMap clC ++ clC q := by simp [List.flatMap_append]
    have e2 : (l ++ [q]).flatMap clT = l.flatMap clT ++ clT q := by simp [List.flatMap_append]
    have hl1 : LwB v (l ++ [q]) T1 := hl.snoc q4 q5 q6 q7 q8
    have ok1 : ∀ p, p ∈ l ++ [q] → clOK p := fun p hp => by
      rcases List.mem_append.mp hp with hp | hp
      · exact hok p hp
      · rw [List.mem_singleton.mp hp]; exact q1
    have len1 : (l ++ [q]).length = l.length + 1 := by rw [List.length_append]; rfl
    by_cases y : lxs n b kk = 59
    · obtain ⟨kn, -⟩ := (lxs_eq (c := 59) hb (by omega)).mp y
      have P2 := q3.mv (show j ≤ kk + 1 by omega) (show kk + 1 ≤ n from kn)
      have gs : Tp_goesOn S1 = some (1, si S1 8 2 (nI (kk + 1))) := by
        unfold Tp_goesOn Tp_goesOn_28
        rw [w4, q_bind]
        dsimp only
        rw [if_neg (show ¬ lxs n b kk = -1 from fun e => by rw [y] at e; exact absurd e (by decide)), lx_need P1.2.1 w3, if_pos y, q_bind, lx_ss]
        unfold Tp_isFaulty Tp_isFaulty_13
        rw [if_pos (show gi (si S1 8 2 (nI (kk + 1))) 8 3 = -1 from P2.2.1.2.1), if_pos (show (0 : Int32) &&& 1 = 0 by decide)]
        exact congrArg some (Prod.ext (show (1 : Int32) &&& 1 = 1 by decide) rfl)
      rw [← e1, ← e2] at P2
      obtain ⟨T3, k, s', S', k2, t', T', c1, c2, c3, c4, c5, c6, c7, c8⟩ := ih (by omega) (kk + 1) (l ++ [q]) _ _ (it + 1) (by omega) P2 (by omega) (by omega) (hl1.eq ((EqC.rfl T1).si (by omega))) ok1
      refine ⟨T1, 1 + k, s', S', 1 + k2, t', T', a2, by omega, (Go.one (stp _ _ gs)).trans c3, c4, by omega, (Go.one ?_).trans c6, c7, c8⟩
      unfold Md_readLaw_L9
      rw [if_pos f4, w5, q_bind]
      dsimp only
      rw [if_pos y, show gi (si T1 53 3 (nI kk)) 53 3 = nI kk from tb_h, lx_ss, show nI kk + 1 = nI (kk + 1) from q_add kk 1, c1, q_bind]
    · have r9 : Md_readLaw_L9 T1 = some (.inr (si T1 53 3 (nI kk))) := by
        unfold Md_readLaw_L9
        rw [if_pos f4, w5, q_bind]
        dsimp only
        rw [if_neg y]
      by_cases kn : kk < n
      · have nm : ¬ lxs n b kk = -1 := fun e => by
          rw [lxs_in kn] at e; exact (q_eqm (by have := hb kk kn; omega)).mp e
        have gs : Tp_goesOn S1 = some (0, si (si S1 8 2 (nI kk)) 8 3 (nI kk)) := by
          unfold Tp_goesOn Tp_goesOn_28
          rw [w4, q_bind]
          dsimp only
          rw [if_neg nm, lx_need P1.2.1 w3, if_neg y, q_bind]
          unfold Tp_isFaulty Tp_isFaulty_13
          rw [show gi (si (si S1 8 2 (nI kk)) 8 3 (nI kk)) 8 3 = nI kk from tb_h, if_neg (show ¬ nI kk = -1 from fun z => (q_eqm (by omega)).mp z), if_neg (show ¬ (1 : Int32) &&& 1 = 0 by decide)]
          exact congrArg some (Prod.ext (show (0 : Int32) &&& 1 = 0 by decide) rfl)
        refine ⟨T1, 1, _, _, 0, T1, _, a2, by omega, Go.one (stp _ _ gs), out _ _, by omega, Go.zero _, r9, nI kk, si (si T1 53 3 (nI kk)) 53 4 (nI kk), ?_, tb_h, Or.inr ⟨0, 500, 240, q3.bad w1 w2 (by have := q3.2.2.2.2.1; omega) (by omega)⟩⟩
        unfold Md_atEnd Md_atEnd_20
        rw [if_pos (show gi (si T1 53 3 (nI kk)) 53 4 = -1 from P1.2.1.2.2.1), (lx_at P1.2.1 w3).2, q_bind]
        dsimp only
        rw [if_neg nm, (lx_fail P1.2.1).2, q_app, tb_h]
      · have nm : lxs n b kk = mI := lxs_out kn
        have gs : Tp_goesOn S1 = some (0, si S1 8 2 (nI kk)) := by
          unfold Tp_goesOn
          rw [w4, q_bind]
          dsimp only
          rw [nm, if_pos (show mI = -1 from rfl)]
        refine ⟨T1, 1, _, _, 0, T1, _, a2, by omega, Go.one (stp _ _ gs), out _ _, by omega, Go.zero _, r9, mI, _, ?_, P1.2.1.2.1, Or.inl ⟨rfl, kk, l ++ [q], ?_, by omega, hl1.eq ((EqC.rfl T1).si (i := 53) (j := 3) (x := nI kk) (by omega)), ok1⟩⟩
        · unfold Md_atEnd Md_atEnd_20
          rw [if_pos (show gi (si T1 53 3 (nI kk)) 53 4 = -1 from P1.2.1.2.2.1), (lx_at P1.2.1 w3).2, q_bind]
          dsimp only
          rw [nm, if_pos (show mI = -1 from rfl), P1.2.1.2.2.1]
        · rw [e1, e2]; exact P1
  · have z' := z
    obtain ⟨i', t, A, x⟩ := z'
    obtain ⟨s1, -, -⟩ := x.sg
    obtain ⟨p, -, -, -, -, -, p4⟩ := x.p
    have gs : Tp_goesOn S1 = some (0, S1) := by
      unfold Tp_goesOn
      rw [s1, q_bind]
      dsimp only
      rw [if_pos (show mI = -1 from rfl)]
    refine ⟨T1, 1, _, _, 0, T1, T1, a2, by omega, Go.one (stp _ _ gs), out _ _, by omega, Go.zero _, ?_, z.end⟩
    unfold Md_readLaw_L9
    rw [if_neg p4]
theorem law_go : ∀ r, LwG n b L v T0 S0 r
  | 0 => law_step fun h => absurd h (by omega)
  | r + 1 => law_step fun _ => law_go r
/-- the whole of a law's text -/
theorem lp_law {n : Nat} {b : Nat → Nat} {L v : Nat} {T S : Sm} (h : LxB n b T S) (hL : L ≤ 4) (hv : v ≤ 4) (h20 : gi S 20 4 = nI L) : ∃ r T' S', Lr_firstFault S = some (r, S') ∧ Md_readLaw (nI v) T = some (r, T') ∧ SmL L S S' ∧ TmL v T T' ∧ gi S' 20 4 = nI L ∧ LxB n b T' S' ∧ ((r = mI ∧ ∃ l, LawC l L S' ∧ LawT l v T' ∧ ∀ q, q ∈ l → clOK q) ∨ ∃ p, p ≤ n ∧ r = nI p) := by
  have n240 := h.1
  have op : Md_open (nI v) T = some (si (si (si (si (si (si T 53 14 (nI v)) 53 3 (nI 0)) 53 4 mI) 53 5 (nI 0)) 57 v (nI 0)) 58 v (nI 0)) := by
    unfold Md_open
    rw [if_pos (nI_in (by omega) (by omega)), if_pos (nI_in (by omega) (by omega)), q_ix (by omega)]; rfl
  have bg : La_beginDraft (Tp_rewind S) = si (si (si S 8 2 (nI 0)) 8 3 mI) 22 L (nI 0) := by
    unfold La_beginDraft Tp_rewind
    rw [show gi (si (si S 8 2 0) 8 3 (-1)) 20 4 = nI L from (tb_n fun e => absurd e.1 (by decide)).trans ((tb_n fun e => absurd e.1 (by decide)).trans h20), q_pu (by omega) (by omega)]; rfl
  obtain ⟨o1, o2, o3, o4, o5, o6⟩ := h
  have P : PzO n b L v T S 0 0 (([] : List Cl).flatMap clC) (([] : List Cl).flatMap clT) (si (si (si (si (si (si T 53 14 (nI v)) 53 3 (nI 0)) 53 4 mI) 53 5 (nI 0)) 57 v (nI 0)) 58 v (nI 0)) (si (si (si S 8 2 (nI 0)) 8 3 mI) 22 L (nI 0)) := by
    refine ⟨⟨hL, hv, ?_, ?_, fun i j q r s => ?_, fun i j q r s t u => ?_⟩, ⟨⟨o1, o2, ?_, fun i hi => ?_, ?_, fun i hi => ?_⟩, ?_, ?_, ?_, ?_, Nat.zero_le _⟩, ?_, Nat.zero_le _, Nat.zero_le _, ?_, fun j x hj => (by cases hj), ?_, fun j x hj => (by cases hj)⟩
    · exact (tb_n fun e => absurd e.1 (by decide)).trans ((tb_n fun e => absurd e.1 (by decide)).trans ((tb_n fun e => absurd e.1 (by decide)).trans h20))
    · (show gi _ _ _ = _; repeat (first | rw [tb_h] | rw [tb_n (by omega)] | rw [tb_e (by omega)])); try rfl
    · have sc2 : ¬ (i = 8 ∧ j = 2) := fun e => by rw [e.1, e.2] at q; cases q
      have sc3 : ¬ (i = 8 ∧ j = 3) := fun e => by rw [e.1, e.2] at q; cases q
      exact (tb_n fun e => s e).trans ((tb_n fun e => sc3 e).trans (tb_n fun e => sc2 e))
    · have c14 : ¬ (i = 53 ∧ j = 14) := fun e => by rw [e.1, e.2] at q; cases q
      have c3 : ¬ (i = 53 ∧ j = 3) := fun e => by rw [e.1, e.2] at q; cases q
      have c4 : ¬ (i = 53 ∧ j = 4) := fun e => by rw [e.1, e.2] at q; cases q
      have c5 : ¬ (i = 53 ∧ j = 5) := fun e => by rw [e.1, e.2] at q; cases q
      exact (tb_n fun e => t e).trans ((tb_n fun e => s e.1).trans ((tb_n fun e => c5 e).trans ((tb_n fun e => c4 e).trans ((tb_n fun e => c3 e).trans (tb_n fun e => c14 e)))))
    · exact (tb_n fun e => absurd e.1 (by decide)).trans ((tb_n fun e => absurd e.2 (by decide)).trans ((tb_n fun e => absurd e.2 (by decide)).trans o3))
    · exact (tb_n fun e => absurd e.1 (by decide)).trans ((tb_n fun e => absurd e.1 (by decide)).trans ((tb_n fun e => absurd e.1 (by decide)).trans (o4 i hi)))
    · exact (tb_n fun e => absurd e.1 (by decide)).trans ((tb_n fun e => absurd e.1 (by decide)).trans ((tb_n fun e => absurd e.2 (by decide)).trans ((tb_n fun e => absurd e.2 (by decide)).trans ((tb_n fun e => absurd e.2 (by decide)).trans ((tb_n fun e => absurd e.2 (by decide)).trans o5)))))
    · exact (tb_n fun e => absurd e.1 (by decide)).trans ((tb_n fun e => absurd e.1 (by decide)).trans ((tb_n fun e => absurd e.1 (by decide)).trans ((tb_n fun e => absurd e.1 (by decide)).trans ((tb_n fun e => absurd e.1 (by decide)).trans ((tb_n fun e => absurd e.1 (by decide)).trans (o6 i hi))))))
    · exact (tb_n fun e => absurd e.1 (by decide)).trans tb_h
    · exact (tb_n fun e => absurd e.1 (by decide)).trans ((tb_n fun e => absurd e.1 (by decide)).trans ((tb_n fun e => absurd e.2 (by decide)).trans tb_h))
    · exact (tb_n fun e => absurd e.1 (by decide)).trans ((tb_n fun e => absurd e.2 (by decide)).trans tb_h)
    · exact (tb_n fun e => absurd e.1 (by decide)).trans ((tb_n fun e => absurd e.1 (by decide)).trans ((tb_n fun e => absurd e.2 (by decide)).trans ((tb_n fun e => absurd e.2 (by decide)).trans tb_h)))
    · exact (tb_n fun e => absurd e.1 (by decide)).trans ((tb_n fun e => absurd e.1 (by decide)).trans tb_h)
    · exact tb_h
    · exact (tb_n fun e => absurd e.1 (by decide)).trans tb_h
  obtain ⟨T1, k, s', S', k2, t', T', c1, c2, c3, c4, c5, c6, c7, r, T'', c8, c9, c10⟩ := law_go n 0 [] _ _ 0 (by omega) P (Nat.zero_le _) (Nat.zero_le _) ⟨tb_h, fun k q hk => by cases hk⟩ (fun q hq => by cases hq)
  refine ⟨r, T'', S', ?_, ?_, ?_⟩
  · unfold Lr_firstFault
    rw [q_app, q_app, bg, show lpN Lr_firstFault_L18 FU (1, 0, si (si (si S 8 2 (nI 0)) 8 3 mI) 22 L (nI 0)) = some S' from c3.fin c4 (by omega), q_bind, c9]
  · unfold Md_readLaw
    rw [op, q_bind, c1, q_bind, c6.fin c7 (by omega), q_bind, c8, q_bind]
  · rcases c10 with ⟨d1, i, l, d2, d3, d4, d5⟩ | ⟨i, t, A, x⟩
    · have hin := d2.2.1.2.2.2.2.2
      exact ⟨d2.1.2.2.2.2.1, d2.1.2.2.2.2.2, d2.1.2.2.1, d2.2.1.1, Or.inl ⟨d1, l, ⟨by have := d2.2.2.2.1; omega, d2.2.2.2.2.2.1, d2.2.2.2.2.2.2.1⟩, ⟨by omega, by have := d2.2.2.2.2.1; omega, d4.1, d2.2.2.2.2.2.2.2.2, d4.2⟩, d5⟩⟩
    · obtain ⟨p, p1, p2, p3, -⟩ := x.p
      exact ⟨x.1.2.2.2.2.1, x.1.2.2.2.2.2, x.1.2.2.1, x.2.1, Or.inr ⟨p, p1, c9.symm.trans p3⟩⟩
end LG
