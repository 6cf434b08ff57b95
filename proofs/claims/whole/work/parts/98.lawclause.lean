/-! ===== a law's text: clauses ===== -/
section LE
variable {n : Nat} {b : Nat → Nat} {L v : Nat} {T0 S0 T S : Sm}
theorem PzO.tab {i d r j : Nat} {cs : List Int32} {ts : List Tk} {x : Int32} (h : PzO n b L v T0 S0 i d cs ts T S) (hr : (r = 58 ∧ j = v) ∨ ((r = 59 ∨ r = 60 ∨ r = 61) ∧ 140 * v ≤ j)) : PzO n b L v T0 S0 i d cs ts (si T r j x) S := by
  obtain ⟨⟨f1, f2, f3, f4, f5, f6⟩, ⟨⟨o1, o2, o3, o4, o5, o6⟩, o7, o8, o9, o10, o11⟩, g1, g2, g3, g4, g5, g6, g7⟩ := h
  refine ⟨⟨f1, f2, f3, (tb_n fun e => by omega).trans f4, f5, f6.st ?_⟩, ⟨⟨o1, o2, o3, o4, (tb_n fun e => by omega).trans o5, fun i hi => (tb_n fun e => by omega).trans (o6 i hi)⟩, o7, (tb_n fun e => by omega).trans o8, o9, (tb_n fun e => by omega).trans o10, o11⟩, (tb_n fun e => by omega).trans g1, g2, g3, g4, g5, (tb_n fun e => by omega).trans g6, fun j x hj => ⟨(tb_n fun e => by omega).trans (g7 j x hj).1, (tb_n fun e => by omega).trans (g7 j x hj).2⟩⟩
  rcases hr with hr | hr
  · exact Or.inr (Or.inr (Or.inr (Or.inl hr)))
  · exact Or.inr (Or.inr (Or.inr (Or.inr hr)))
theorem PzX.tab {i t0 A r j : Nat} {x : Int32} (h : PzX n b L v T0 S0 i t0 A T S) (hr : (r = 58 ∧ j = v) ∨ ((r = 59 ∨ r = 60 ∨ r = 61) ∧ 140 * v ≤ j)) : PzX n b L v T0 S0 i t0 A (si T r j x) S := by
  obtain ⟨⟨f1, f2, f3, f4, f5, f6⟩, ⟨o1, o2, o3, o4, o5, o6⟩, p, a, t, e, g3, g4, g5, g6, g7, g8, g9, g10, g11⟩ := h
  refine ⟨⟨f1, f2, f3, (tb_n fun e => by omega).trans f4, f5, f6.st ?_⟩, ⟨o1, o2, o3, o4, (tb_n fun e => by omega).trans o5, fun i hi => (tb_n fun e => by omega).trans (o6 i hi)⟩, p, a, t, e, g3, g4, (tb_n fun e => by omega).trans g5, (tb_n fun e => by omega).trans g6, (tb_n fun e => by omega).trans g7, g8, g9, g10, g11⟩
  rcases hr with hr | hr
  · exact Or.inr (Or.inr (Or.inr (Or.inl hr)))
  · exact Or.inr (Or.inr (Or.inr (Or.inr hr)))
theorem PzX.a1 {i t0 A : Nat} (h : PzX n b L v T0 S0 i t0 A T S) : PzX n b L v T0 S0 i t0 (A + 1) (si T 53 3 (gi T 53 3 + 1)) S := by
  obtain ⟨⟨f1, f2, f3, f4, f5, f6⟩, ⟨o1, o2, o3, o4, o5, o6⟩, p, a, t, e, g3, g4, g5, g6, g7, g8, g9, g10, g11⟩ := h
  rw [g6, show nI a + 1 = nI (a + 1) from q_add a 1]
  exact ⟨⟨f1, f2, f3, (tb_n fun e => absurd e.2 (by decide)).trans f4, f5, f6.st (Or.inl rfl)⟩, ⟨o1, o2, o3, o4, (tb_n fun e => absurd e.2 (by decide)).trans o5, fun i hi => (tb_n fun e => absurd e.1 (by decide)).trans (o6 i hi)⟩, p, a + 1, t, e, g3, g4, (tb_n fun e => absurd e.2 (by decide)).trans g5, tb_h, (tb_n fun e => absurd e.1 (by decide)).trans g7, by omega, by omega, g10, g11⟩
/-- any fault -/
def PzZ (n : Nat) (b : Nat → Nat) (L v : Nat) (T0 S0 T S : Sm) : Prop := ∃ i t A, PzX n b L v T0 S0 i t A T S
/-- what a clause leaves -/
def ClR (n : Nat) (b : Nat → Nat) (L v : Nat) (T0 S0 : Sm) (i m : Nat) (cs : List Int32) (ts : List Tk) (T T' S' : Sm) : Prop := (∃ q j, clOK q ∧ i + 3 ≤ j ∧ PzO n b L v T0 S0 j 0 (cs ++ clC q) (ts ++ clT q) T' S' ∧ gi T' 58 v = nI (m + 1) ∧ gi T' 59 (140 * v + m) = nI ts.length ∧ gi T' 60 (140 * v + m) = nI (ts.length + q.1.length) ∧ gi T' 61 (140 * v + m) = nI (ts.length + q.1.length + q.2.length) ∧ ∀ r k, 59 ≤ r → r ≤ 61 → k ≠ 140 * v + m → T'.1 r k = T.1 r k) ∨ PzZ n b L v T0 S0 T' S'
theorem md_251 {m : Nat} (hv : v ≤ 4) (hm : m < 140) (h14 : gi T 53 14 = nI v) : Md_clause_251 (nI (140 * v + m)) T = some (si (si T 61 (140 * v + m) (gi T 57 v)) 58 v (gi T 58 v + 1)) := by
  have c1 : ∀ x, gi (si T 61 (140 * v + m) x) 53 14 = nI v := fun x => (tb_n fun e => absurd e.1 (by decide)).trans h14
  have c2 : ∀ x, gi (si T 61 (140 * v + m) x) 58 v = gi T 58 v := fun x => tb_n fun e => absurd e.1 (by decide)
  unfold Md_clause_251
  rw [h14, if_pos (nI_in (by omega) (by omega)), if_pos (nI_in (by omega) (by omega)), q_ix (by omega), q_ix (by omega), c1, if_pos (nI_in (by omega) (by omega)), if_pos (nI_in (by omega) (by omega)), q_ix (by omega), c2]
theorem md_184_0 {m : Nat} (hv : v ≤ 4) (hm : m < 140) : Md_clause_184 (nI (140 * v + m)) 0 T = Md_clause_251 (nI (140 * v + m)) (si T 60 (140 * v + m) (gi T 59 (140 * v + m))) := by
  unfold Md_clause_184
  rw [if_pos (nI_in (by omega) (by omega)), if_pos (nI_in (by omega) (by omega)), if_pos rfl, q_ix (by omega)]
/-- a fault, and the tables -/
theorem PzX.fin {m i t0 A : Nat} (hm : m < 140) (h : PzX n b L v T0 S0 i t0 A T S) : ∃ T', Md_clause_251 (nI (140 * v + m)) T = some T' ∧ PzX n b L v T0 S0 i t0 A T' S :=
  ⟨_, md_251 h.1.2.1 hm h.1.2.2.2.1, (h.tab (Or.inr ⟨Or.inr (Or.inr rfl), by omega⟩)).tab (Or.inl ⟨rfl, rfl⟩)⟩
/-- the class, behind a fault -/
theorem xs_118 : XS n b L v T0 S0 Lr_readClause_118 := fun i t0 A T S h => ⟨_, rfl, h.wr _⟩
theorem xs_91 (x : Int32) : XS n b L v T0 S0 (Lr_readClause_91 x) := fun i t0 A T S h => by
  unfold Lr_readClause_91
  by_cases y : x = 0
  · rw [if_pos y]
    exact xs_118 i t0 A T S h
  · obtain ⟨-, s2⟩ := h.tk 63 (by decide)
    obtain ⟨S1, g1, g2⟩ := xs_sum (0 : Int32) i t0 A T _ (h.wr (-63))
    rw [if_neg y, s2, q_bind, q_app, g1, q_bind]
    exact xs_118 i t0 A T S1 g2
theorem xs_43 : XS n b L v T0 S0 (Lr_readClause_43 0) := fun i t0 A T S h => by
  obtain ⟨S1, g1, g2⟩ := xs_sum (0 : Int32) i t0 A T S h
  obtain ⟨s1, -, -⟩ := g2.sg
  unfold Lr_readClause_43
  rw [if_pos rfl, g1, q_bind, s1, q_bind]
  dsimp only
  rw [show Lr_isComparing mI = 0 by decide, if_pos rfl]
  exact xs_91 0 i t0 A T S1 g2
/-- a clause's end: both close it -/
theorem cl_fin {i j m t0 : Nat} {cs : List Int32} {ts us ws : List Tk} {Tb : Sm} (hi : cs.length ≤ i) (hm : m < 140) (hok : clOK (us, ws)) (hj : i + 3 ≤ j) (h : PzO n b L v T0 S0 j 0 (cs ++ ((if us = [] then [] else us.map tkC ++ [-63]) ++ ws.map tkC)) (ts ++ (us ++ ws)) T S) (hl : cs.length + (clC (us, ws)).length ≤ j) (h58 : gi T 58 v = nI m) (h59 : gi T 59 (140 * v + m) = nI ts.length) (h60 : gi T 60 (140 * v + m) = nI (ts.length + us.length)) (hT : ∀ r k, 59 ≤ r → r ≤ 61 → k ≠ 140 * v + m → T.1 r k = Tb.1 r k) : ∃ T', Md_clause_251 (nI (140 * v + m)) T = some T' ∧ ClR n b L v T0 S0 i m cs ts Tb T' (La_write (-59) S) := by
  refine ⟨_, md_251 h.1.2.1 hm h.1.2.2.2.1, Or.inl ⟨(us, ws), j, hok, hj, ?_, ?_, ?_, ?_, ?_, fun r k r1 r2 hk => ?_⟩⟩
  · have e : cs ++ clC (us, ws) = cs ++ ((if us = [] then [] else us.map tkC ++ [-63]) ++ ws.map tkC) ++ [-59] := by
      show cs ++ ((if us = [] then [] else us.map tkC ++ [-63]) ++ (ws.map tkC ++ [-59])) = _
      rw [List.append_assoc, List.append_assoc]
    have l : (cs ++ ((if us = [] then [] else us.map tkC ++ [-63]) ++ ws.map tkC)).length + 1 ≤ j := by
      have := congrArg List.length e
      rw [List.length_append, List.length_append (bs := [-59])] at this
      have : (cs ++ ((if us = [] then [] else us.map tkC ++ [-63]) ++ ws.map tkC)).length + 1 = cs.length + (clC (us, ws)).length := this.symm
      omega
    rw [e]
    exact ((pz_wS h l (-59)).tab (Or.inr ⟨Or.inr (Or.inr rfl), by omega⟩)).tab (Or.inl ⟨rfl, rfl⟩)
  · rw [h58]; exact tb_h.trans (q_add m 1)
  · exact (tb_n fun e => absurd e.1 (by decide)).trans ((tb_n fun e => absurd e.1 (by decide)).trans h59)
  · exact (tb_n fun e => absurd e.1 (by decide)).trans ((tb_n fun e => absurd e.1 (by decide)).trans h60)
  · refine (tb_n fun e => absurd e.1 (by decide)).trans (tb_h.trans ?_)
    rw [h.2.2.2.2.2.2.2.1, List.length_append, List.length_append, Nat.add_assoc]
  · exact (tb_n fun e => by omega).trans ((tb_n fun e => by omega).trans (hT r k r1 r2 hk))
/-- a clause without a condition, from its number on -/
theorem cl_tail0 {i m k : Nat} {cs : List Int32} {ts : List Tk} {Tb : Sm} (hi : cs.length ≤ i) (hm : m < 140) (k60 : k ≤ 60) (h : PzR n b L v T0 S0 (TyE false k) (i + 2) 0 cs ts T S) (h58 : gi T 58 v = nI m) (h59 : gi T 59 (140 * v + m) = nI ts.length) (hT : ∀ r k, 59 ≤ r → r ≤ 61 → k ≠ 140 * v + m → T.1 r k = Tb.1 r k) : ∃ T' S', Lr_readClause_118 S = some S' ∧ Md_clause_184 (nI (140 * v + m)) 0 T = some T' ∧ ClR n b L v T0 S0 i m cs ts Tb T' S' := by
  rcases h with ⟨us, j, h1, h2, h3⟩ | h
  · have l0 := List.length_pos_iff.mpr h2.1
    rw [md_184_0 h3.1.2.1 hm]
    obtain ⟨T', g1, g2⟩ := cl_fin (us := []) (ws := us) (Tb := Tb) (j := j) (T := si T 60 (140 * v + m) (gi T 59 (140 * v + m))) (S := S) (t0 := 0) hi hm ⟨Or.inl rfl, h2.2 [] (by show 0 + k ≤ 60; omega)⟩ (by omega) (by rw [if_pos rfl]; exact h3.tab (Or.inr ⟨Or.inr (Or.inl rfl), by omega⟩)) (by
      show cs.length + ([] ++ (us.map tkC ++ [-59])).length ≤ j
      rw [List.nil_append, List.length_append, List.length_map]; show cs.length + (us.length + 1) ≤ j; omega) ((tb_n fun e => absurd e.1 (by decide)).trans h58) ((tb_n fun e => absurd e.1 (by decide)).trans h59) (tb_h.trans h59) (fun r k r1 r2 hk => (tb_n fun e => by omega).trans (hT r k r1 r2 hk))
    exact ⟨T', _, rfl, g1, g2⟩
  · rw [md_184_0 h.1.2.1 hm]
    obtain ⟨T', g1, g2⟩ := PzX.fin (m := m) hm (h.tab (r := 60) (j := 140 * v + m) (x := gi T 59 (140 * v + m)) (Or.inr ⟨Or.inr (Or.inl rfl), by omega⟩))
    exact ⟨T', _, rfl, g1, Or.inr ⟨_, _, _, g2.wr _⟩⟩
/-- one sign that must be there -/
theorem sim_word {i c : Nat} {cs : List Int32} {ts : List Tk} (cc : c < 256) (h : PzO n b L v T0 S0 i 0 cs ts T S) : ∃ kk S', Tp_need (nI c) S = some S' ∧ Md_look T = some (lxs n b kk, si T 53 3 (nI kk)) ∧ ((lxs n b kk = nI c ∧ i ≤ kk ∧ PzO n b L v T0 S0 (kk + 1) 0 cs ts (si T 53 3 (nI (kk + 1))) S') ∨ (¬ lxs n b kk = nI c ∧ PzX n b L v T0 S0 i ts.length 240 (Md_bad (si T 53 3 (nI kk))) S')) := by
  have hb := h.2.1.1.2.1
  have n240 := h.2.1.1.1
  have ht := h.2.2.2.2.1
  obtain ⟨kk, w1, w2, w3, w4, w5⟩ := lx_look h.2.1
  have P1 := h.mv w1 w2
  have nd : Tp_need (nI c) S = Tp_need (nI c) (si S 8 2 (nI kk)) := by
    unfold Tp_need
    rw [w4, (lx_at P1.2.1 w3).1]
  refine ⟨kk, _, nd.trans (lx_need P1.2.1 w3 _), w5, ?_⟩
  by_cases y : lxs n b kk = nI c
  · obtain ⟨kn, -⟩ := (lxs_eq hb (by omega)).mp y
    rw [if_pos y, lx_ss]
    exact Or.inl ⟨y, w1, h.mv (by omega) kn⟩
  · rw [if_neg y, (lx_fail P1.2.1).2]
    exact Or.inr ⟨y, h.bad w1 w2 (by omega) (by omega)⟩
/-- a clause with a condition, from behind it on -/
theorem cl_tail1 {i m k : Nat} {cs : List Int32} {ts : List Tk} {Tb : Sm} (hi : cs.length ≤ i) (hm : m < 140) (k60 : k ≤ 60) (h : PzR n b L v T0 S0 (TyE true k) (i + 2) 0 cs ts T S) (h58 : gi T 58 v = nI m) (h59 : gi T 59 (140 * v + m) = nI ts.length) (hT : ∀ r k, 59 ≤ r → r ≤ 61 → k ≠ 140 * v + m → T.1 r k = Tb.1 r k) : ∃ T' S', Lr_readClause_91 1 S = some S' ∧ Md_clause_184 (nI (140 * v + m)) 1 T = some T' ∧ ClR n b L v T0 S0 i m cs ts Tb T' S' := by
  have e4 : ∀ x, gi (si T 60 (140 * v + m) x) 53 4 = gi T 53 4 := fun x => tb_n fun e => absurd e.1 (by decide)
  have ix0 : ∀ hv : v ≤ 4, ix (nI (140 * v + m)) = 140 * v + m := fun hv => q_ix (by omega)
  rcases h.e4 with ⟨us, j, h1, h2, h3, h4⟩ | ⟨x, h4⟩
  · have hv := h3.1.2.1
    have l0 := List.length_pos_iff.mpr h2.1
    have P := h3.tab (r := 60) (j := 140 * v + m) (x := gi T 59 (140 * v + m)) (Or.inr ⟨Or.inr (Or.inl rfl), by omega⟩)
    obtain ⟨kk, S1, g1, g2, g3⟩ := sim_word (c := 63) (by omega) P
    have g1 : Tp_need 63 S = some S1 := g1
    unfold Lr_readClause_91 Md_clause_184
    rw [if_neg (show ¬ (1 : Int32) = 0 by decide), g1, q_bind, q_app, if_pos (nI_in (by omega) (by omega)), if_pos (nI_in (by omega) (by omega)), if_neg (show ¬ (1 : Int32) = 0 by decide), ix0 hv, e4, if_pos h4, g2, q_bind]
    dsimp only
    rcases g3 with ⟨y, w1, P2⟩ | ⟨y, X⟩
    · have y : lxs n b kk = 63 := y
      rw [if_pos y, show gi (si (si T 60 (140 * v + m) (gi T 59 (140 * v + m))) 53 3 (nI kk)) 53 3 = nI kk from tb_h, lx_ss, show nI kk + 1 = nI (kk + 1) from q_add kk 1, P2.1.2.2.2.1, if_pos (nI_in (by omega) (by omega)), if_pos (nI_in (by omega) (by omega)), q_ix (by omega), P2.2.2.2.2.2.2.2.1]
      have P3 := (pz_wS P2 (by have := P.2.2.2.1; omega) (-63)).tab (r := 60) (j := 140 * v + m) (x := nI (ts ++ us).length) (Or.inr ⟨Or.inr (Or.inl rfl), by omega⟩)
      obtain ⟨T4, S4, y1, y2, y3, y4⟩ := sim_sum (d := 0) (by omega) _ _ _ _ _ P3
      have y1 : Lr_readSum_r 0 (La_write (-63) S1) = some S4 := y1
      rw [y1, q_bind, y2, q_bind]
      have tb : ∀ r k, 58 ≤ r → r ≤ 61 → ¬ (r = 60 ∧ k = 140 * v + m) → gi T4 r k = gi T r k := fun r k r1 r2 hk => (y3 r k r1 r2).trans ((tb_n fun e => hk e).trans ((tb_n fun e => by omega).trans (tb_n fun e => hk e)))
      rcases y4 with ⟨ws, j2, v1, v2, v3⟩ | x
      · have l1 := List.length_pos_iff.mpr v2.1
        have une : ¬ us = [] := h2.1
        obtain ⟨T', z1, z2⟩ := cl_fin (us := us) (ws := ws) (Tb := Tb) (j := j2) (T := T4) (S := S4) (t0 := 0) hi hm ⟨Or.inr (h2.2 [] (by show 0 + k ≤ 60; omega)), v2.2 [] (by decide)⟩ (by omega) (by
          rw [if_neg une, ← List.append_assoc, ← List.append_assoc, ← List.append_assoc]
          exact v3) (by
          show cs.length + ((if us = [] then [] else us.map tkC ++ [-63]) ++ (ws.map tkC ++ [-59])).length ≤ j2
          rw [if_neg une, List.length_append, List.length_append, List.length_append, List.length_map, List.length_map]
          show cs.length + (us.length + 1 + (ws.length + 1)) ≤ j2
          omega) ((tb 58 v (by omega) (by omega) (fun e => absurd e.1 (by decide))).trans h58) ((tb 59 _ (by omega) (by omega) (fun e => absurd e.1 (by decide))).trans h59) ((y3 60 _ (by omega) (by omega)).trans (tb_h.trans (by rw [List.length_append]))) (fun r k r1 r2 hk => (tb r k (by omega) r2 (fun e => hk e.2)).trans (hT r k r1 r2 hk))
        exact ⟨T', _, rfl, z1, z2⟩
      · obtain ⟨T', z1, z2⟩ := x.fin hm
        exact ⟨T', _, rfl, z1, Or.inr ⟨_, _, _, z2.wr _⟩⟩
    · have y : ¬ lxs n b kk = 63 := y
      obtain ⟨S2, z1, z2⟩ := xs_sum (0 : Int32) _ _ _ _ _ (X.wr (-63))
      rw [if_neg y, z1, q_bind, q_app]
      exact ⟨_, _, rfl, rfl, Or.inr ⟨_, _, _, z2.wr _⟩⟩
  · obtain ⟨S2, z1, z2⟩ := xs_91 1 _ _ _ _ _ x
    obtain ⟨T', z3, z4⟩ := (z2.tab (r := 60) (j := 140 * v + m) (x := gi T 59 (140 * v + m)) (Or.inr ⟨Or.inr (Or.inl rfl), by omega⟩)).fin hm
    have hv := x.1.2.1
    unfold Md_clause_184
    rw [if_pos (nI_in (by omega) (by omega)), if_pos (nI_in (by omega) (by omega)), if_neg (show ¬ (1 : Int32) = 0 by decide), ix0 hv, e4, if_neg h4]
    exact ⟨T', S2, z1, z3, Or.inr ⟨_, _, _, z4⟩⟩
end LE
