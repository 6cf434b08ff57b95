/-! ===== a law's text: conditions ===== -/
theorem bd_some {α : Type} (x : Option α) : x.bind some = x := by cases x <;> rfl
section LD
variable {n : Nat} {b : Nat → Nat} {L v : Nat} {T0 S0 T S : Sm}
def hcL (c : Int32) (A : Sm → Option Sm) (q : Int32 × Sm) : Option ((Int32 × Sm) ⊕ Sm) := (if (240 : Int32) ≤ q.1 then (some (.inr q.2)) else ((Tp_take c q.2).bind fun q1 => (if q1.1 = 0 then (some (.inr q1.2)) else ((A q1.2).bind fun q2 => (app (La_write (-c) q2) fun q3 => (some (.inl (q.1 + 1, q3))))))))
def htL (c t : Int32) (B : Sm → Option Sm) (q : Sm) : Option (Sm ⊕ Sm) := (if (gi q 53 4) = ((-1)) then ((Md_look q).bind fun q1 => (if q1.1 = c then ((B (si q1.2 53 3 ((gi q1.2 53 3) + 1))).bind fun q2 => ((Md_put t 0 q2).bind fun q3 => (some (.inl q3)))) else (some (.inr q1.2)))) else (some (.inr q)))
theorem lr_and (rc : Nat → Int32 → Sm → Option Sm) (d : Int32) (S : Sm) : Lr_readMoreUnits rc d S = lpN (hcL 38 (rc 0 d)) FU (0, S) := by
  unfold Lr_readMoreUnits
  show (lpN (hcL 38 (rc 0 d)) FU (0, S)).bind some = _
  exact bd_some _
theorem lr_or (rc : Nat → Int32 → Sm → Option Sm) (d : Int32) (S : Sm) : Lr_readMoreTruths rc d S = lpN (hcL 124 (fun S => (rc 0 d S).bind (rc 2 d))) FU (0, S) := by
  have e : Lr_readMoreTruths_L2 rc d = hcL 124 (fun S => (rc 0 d S).bind (rc 2 d)) := funext fun q => by
    unfold Lr_readMoreTruths_L2 hcL
    simp only [Option.bind_assoc]
  unfold Lr_readMoreTruths
  rw [e]
  exact bd_some _
theorem md_and (rc : Nat → Sm → Option Sm) (S : Sm) : Md_goOnAnd rc S = lpN (htL 38 10 (rc 0)) FU S := by
  unfold Md_goOnAnd
  show (lpN (htL 38 10 (rc 0)) FU S).bind some = _
  exact bd_some _
theorem md_or (rc : Nat → Sm → Option Sm) (S : Sm) : Md_goOnOr rc S = lpN (htL 124 11 (fun S => (rc 0 S).bind (rc 2))) FU S := by
  have e : Md_goOnOr_L0 rc = htL 124 11 (fun S => (rc 0 S).bind (rc 2)) := funext fun q => by
    unfold Md_goOnOr_L0 htL
    simp only [Option.bind_assoc]
  unfold Md_goOnOr
  rw [e]
  exact bd_some _
theorem xs_h {c : Int32} {A : Sm → Option Sm} (hc : ¬ mI = c) : XS n b L v T0 S0 (fun S => lpN (hcL c A) FU (0, S)) := fun i t0 AA T S h => by
  obtain ⟨s1, -⟩ := h.tk c hc
  refine ⟨S, lpN_run0 (fun _ => (0, S)) 0 (by omega) (fun t ht => absurd ht (by omega)) ?_ rfl, h⟩
  unfold hcL
  dsimp only
  rw [if_neg (show ¬ (240 : Int32) ≤ 0 by decide), s1, q_bind]
  dsimp only
  rw [if_pos rfl]
theorem xr_h {c t : Int32} {B : Sm → Option Sm} : XR (fun T => lpN (htL c t B) FU T) := fun T h => by
  refine lpN_run0 (fun _ => T) 0 (by omega) (fun t ht => absurd ht (by omega)) ?_ rfl
  unfold htL
  rw [if_neg h]
/-- what goes on with an operator, on both sides -/
theorem sim_h {d k c t : Nat} {A B : Sm → Option Sm} (hA : SimQ n b L v T0 S0 (TyE true k) d A B) (cc : c < 256) (en : -(nI c) = tkC (t, 0)) (er : ∀ st, rt1 (t, 0) (true :: true :: st) = some (true :: st)) : SimQ n b L v T0 S0 (TyC (k + 1)) d (fun S => lpN (hcL (nI c) A) FU (0, S)) (fun T => lpN (htL (nI c) (nI t) B) FU T) := fun i cs ts T S h => by
  have hb := h.2.1.1.2.1
  have n240 := h.2.1.1.1
  have hc := h.2.2.2.1
  have ht := h.2.2.2.2.1
  have m1 : ¬ mI = nI c := fun e => (q_meq (by omega)).mp e
  have loop : ∃ (S' : Sm) (T' : Sm), lpN (hcL (nI c) A) FU (0, S) = some S' ∧ lpN (htL (nI c) (nI t) B) FU T = some T' ∧ EqC T T' ∧ PzR n b L v T0 S0 (TyC (k + 1)) i d cs ts T' S' := by
    refine lp_rel (Q := fun (S' : Sm) (T' : Sm) => EqC T T' ∧ PzR n b L v T0 S0 (TyC (k + 1)) i d cs ts T' S') (fun it (s : Int32 × Sm) (T3 : Sm) => s.1 = nI it ∧ EqC T T3 ∧ PzR n b L v T0 S0 (fun us => TyC (k + 1) us ∧ 2 * it ≤ us.length) i d cs ts T3 s.2) 240 (by omega) ⟨rfl, EqC.rfl T, Or.inl ⟨[], i, Nat.le_refl _, ⟨fun st _ => rfl, Nat.le_refl _⟩, by rw [List.map_nil, List.append_nil, List.append_nil]; exact h⟩⟩ (fun it s T3 hit hq => ?_) (fun s T3 hq => ?_)
    · obtain ⟨s1, S2⟩ := s
      obtain ⟨(f1 : s1 = nI it), (f0 : EqC T T3), (hq : PzR n b L v T0 S0 (fun us => TyC (k + 1) us ∧ 2 * it ≤ us.length) i d cs ts T3 S2)⟩ := hq
      subst f1
      have c240 : ¬ (240 : Int32) ≤ nI it := fun z => by have := (q_le (a := 240) (by omega) (by omega)).mp z; omega
      rcases hq.e4 with ⟨us, j, v1, ⟨v3, v2⟩, v5, v4⟩ | ⟨x, v4⟩
      · obtain ⟨kk, w1, w2, w3, w4, w5⟩ := lx_look v5.2.1
        have P1 := v5.mv w1 w2
        have tk0 : Tp_take (nI c) S2 = Tp_take (nI c) (si S2 8 2 (nI kk)) := by
          unfold Tp_take
          rw [w4, (lx_at P1.2.1 w3).1]
        have tk := lx_take P1.2.1 w3 (nI c)
        rw [lx_ss] at tk
        by_cases y : lxs n b kk = nI c
        · obtain ⟨kn, -⟩ := (lxs_eq hb (by omega)).mp y
          rw [if_pos y] at tk
          obtain ⟨S4, T4, T5, y1, y2, y3, y4, y5⟩ := sim_op (P := TyC (k + 1)) (R := fun us => TyC (k + 1) us ∧ 2 * (it + 1) ≤ us.length) (t := t) hA v5 v3 v1 hc ht w1 kn (fun ws hw => ⟨fun st hst => by
            rw [rt_app, rt_app, v3 st hst]
            show ((rt ws (true :: st)).bind _) = _
            rw [hw.2 (true :: st) (by show st.length + 1 + k ≤ 60; omega)]
            show (rt1 (t, 0) (true :: true :: st)).bind (rt []) = _
            rw [er]; rfl, by
            have := List.length_pos_iff.mpr hw.1
            rw [List.length_append, List.length_append]; show 2 * (it + 1) ≤ us.length + ws.length + 1; omega⟩)
          refine Or.inl ⟨(nI it + 1, La_write (tkC (t, 0)) S4), T5, ?_, ?_, q_add it 1, f0.trans y4, y5⟩
          · unfold hcL
            dsimp only
            rw [if_neg c240, tk0, tk, q_bind]
            dsimp only
            rw [if_neg (show ¬ (1 : Int32) = 0 by decide), y1, q_bind, q_app, en]
          · unfold htL
            rw [if_pos v4, w5, q_bind]
            dsimp only
            rw [if_pos y, show gi (si T3 53 3 (nI kk)) 53 3 = nI kk from tb_h, lx_ss, show nI kk + 1 = nI (kk + 1) from q_add kk 1, y2, q_bind, y3, q_bind]
        · rw [if_neg y] at tk
          refine Or.inr ⟨si S2 8 2 (nI kk), _, ?_, ?_, f0.si (by omega), Or.inl ⟨us, kk, by omega, v3, P1⟩⟩
          · unfold hcL
            dsimp only
            rw [if_neg c240, tk0, tk, q_bind]
            dsimp only
            rw [if_pos rfl]
          · unfold htL
            rw [if_pos v4, w5, q_bind]
            dsimp only
            rw [if_neg y]
      · obtain ⟨s1, -⟩ := x.tk (nI c) m1
        refine Or.inr ⟨S2, T3, ?_, ?_, f0, Or.inr x⟩
        · unfold hcL
          dsimp only
          rw [if_neg c240, s1, q_bind]
          dsimp only
          rw [if_pos rfl]
        · unfold htL
          rw [if_neg v4]
    · obtain ⟨s1, S2⟩ := s
      obtain ⟨(f1 : s1 = nI 240), (f0 : EqC T T3), (hq : PzR n b L v T0 S0 (fun us => TyC (k + 1) us ∧ 2 * 240 ≤ us.length) i d cs ts T3 S2)⟩ := hq
      subst f1
      rcases hq.e4 with ⟨us, j, v1, ⟨v3, v2⟩, v5, v4⟩ | ⟨x, v4⟩
      · have := v5.2.1.2.2.2.2.2; omega
      · refine ⟨S2, T3, ?_, ?_, f0, Or.inr x⟩
        · unfold hcL
          dsimp only
          rw [if_pos (show (240 : Int32) ≤ nI 240 by decide)]
        · unfold htL
          rw [if_neg v4]
  obtain ⟨S', T', p1, p2, p3, p4⟩ := loop
  exact ⟨T', S', p1, p2, p3, p4⟩
/-- one up -/
theorem PzR.dn {P : List Tk → Prop} {i d : Nat} {cs : List Int32} {ts : List Tk} (h : PzR n b L v T0 S0 P i (d + 1) cs ts T S) (d6 : d ≤ 6) : PzR n b L v T0 S0 P i d cs ts (si T 53 5 (gi T 53 5 - 1)) S := by
  rcases h with ⟨us, k, h1, h2, h3⟩ | h
  · refine Or.inl ⟨us, k, h1, h2, ?_⟩
    rw [h3.2.2.1, show nI (d + 1) - 1 = nI d from (q_sub (a := d + 1) (b := 1) (by omega)).trans (by rfl)]
    exact h3.dep
  · have h6 : si (si T 53 3 (gi T 53 3)) 53 5 (gi T 53 5 - 1) = si T 53 5 (gi T 53 5 - 1) := by rw [si_same rfl]
    obtain ⟨⟨f1, f2, f3, f4, f5, f6⟩, ⟨o1, o2, o3, o4, o5, o6⟩, p, a, t, e, g3, g4, g5, g6, g7, g8, g9, g10, g11⟩ := h
    exact Or.inr ⟨⟨f1, f2, f3, (tb_n fun e => absurd e.2 (by decide)).trans f4, f5, f6.st (Or.inl rfl)⟩, ⟨o1, o2, o3, o4, (tb_n fun e => absurd e.2 (by decide)).trans o5, fun i hi => (tb_n fun e => absurd e.1 (by decide)).trans (o6 i hi)⟩, p, a, t, e, g3, g4, (tb_n fun e => absurd e.2 (by decide)).trans g5, (tb_n fun e => absurd e.2 (by decide)).trans g6, (tb_n fun e => absurd e.1 (by decide)).trans g7, g8, by omega, g10, g11⟩
/-- something opens -/
theorem sim_open {i d kk c : Nat} {cs : List Int32} {ts : List Tk} (h : PzO n b L v T0 S0 i d cs ts T S) (d6 : d ≤ 6) (w1 : i ≤ kk) (w2 : kk ≤ n) (w3 : LxN n b kk) (cc : c < 256) (y : lxs n b kk = nI c) : EqC T (Md_opens (si T 53 3 (nI kk))) ∧ ((d < 6 ∧ Lr_opens (nI c) (nI d) (si S 8 2 (nI kk)) = some (1, si S 8 2 (nI (kk + 1))) ∧ PzO n b L v T0 S0 (kk + 1) (d + 1) cs ts (Md_opens (si T 53 3 (nI kk))) (si S 8 2 (nI (kk + 1))) ∧ gi (Md_opens (si T 53 3 (nI kk))) 53 4 = -1) ∨ (∃ S', Lr_opens (nI c) (nI d) (si S 8 2 (nI kk)) = some (0, S') ∧ PzX n b L v T0 S0 i ts.length (250 - d) (Md_opens (si T 53 3 (nI kk))) S' ∧ ¬ gi (Md_opens (si T 53 3 (nI kk))) 53 4 = -1)) := by
  have hb := h.2.1.1.2.1
  have n240 := h.2.1.1.1
  have hc := h.2.2.2.1
  have ht := h.2.2.2.2.1
  have P1 := h.mv w1 w2
  have E1 : EqC T (si T 53 3 (nI kk)) := (EqC.rfl T).si (by omega)
  obtain ⟨kn, -⟩ := (lxs_eq hb (by omega)).mp y
  unfold Lr_opens Md_opens Md_opens_13
  rw [P1.2.2.1]
  by_cases d5 : d < 6
  · have tk := lx_take P1.2.1 w3 (lxs n b kk)
    rw [if_pos rfl, lx_ss, y] at tk
    have P2 := (P1.dep (d' := d + 1)).mv (show kk ≤ kk + 1 by omega) (show kk + 1 ≤ n from kn)
    rw [lx_ss] at P2
    have e1 : nI d + 1 = nI (d + 1) := q_add d 1
    have e2 : gi (si (si T 53 3 (nI kk)) 53 5 (nI (d + 1))) 53 3 + 1 = nI (kk + 1) := by
      rw [show gi (si (si T 53 3 (nI kk)) 53 5 (nI (d + 1))) 53 3 = nI kk from (tb_n fun e => absurd e.2 (by decide)).trans tb_h]
      exact q_add kk 1
    rw [if_pos (show nI d < 6 from (q_lt (b := 6) (by omega) (by omega)).mpr d5), if_neg (show ¬ nI d = 6 from fun e => by have := (q_eq (b := 6) (by omega) (by omega)).mp e; omega), tk, q_bind, e1, e2]
    exact ⟨(E1.si (by omega)).si (by omega), Or.inl ⟨d5, congrArg some (Prod.ext (show (1 : Int32) &&& 1 = 1 by decide) rfl), P2, P2.2.1.2.2.1⟩⟩
  · have d6' : d = 6 := by omega
    subst d6'
    have X := h.bad (i0 := i) (t0 := ts.length) (A := kk) w1 w2 (by omega) (Nat.le_refl _)
    have X2 := X.o13 (by omega) (gi (si (si T 53 3 (nI kk)) 53 4 (nI kk)) 53 5 + 1)
    obtain ⟨p, -, -, -, -, -, p4⟩ := X2.p
    rw [if_neg (show ¬ nI 6 < 6 by decide), if_pos (show nI 6 = 6 from rfl), (lx_fail P1.2.1).1, (lx_fail P1.2.1).2, q_app, q_app]
    exact ⟨((E1.si (by omega)).si (by omega)).si (by omega), Or.inr ⟨_, rfl, X2.w (Nat.le_refl _) (by omega), p4⟩⟩
/-- a unit of a condition -/
theorem sim_unit {d k : Nat} {rcS : Nat → Int32 → Sm → Option Sm} {rcT : Nat → Sm → Option Sm} (d6 : d ≤ 6) (hk : 16 ≤ k + 2 * d) (hN : d < 6 → SimQ n b L v T0 S0 (TyE true k) (d + 1) (rcS 0 (nI (d + 1))) (rcT 0)) (hC : d < 6 → SimQ n b L v T0 S0 (TyE true k) (d + 1) (rcS 1 (nI (d + 1))) (rcT 1)) : SimQ n b L v T0 S0 (TyE true k) d (Lr_readUnit rcS (nI d)) (Md_unit rcT) := fun i cs ts T S h => by
  have hb := h.2.1.1.2.1
  have n240 := h.2.1.1.1
  have hc := h.2.2.2.1
  have ht := h.2.2.2.2.1
  have e1 : nI d + 1 = nI (d + 1) := q_add d 1
  obtain ⟨kk, w1, w2, w3, w4, w5⟩ := lx_look h.2.1
  have P1 := h.mv w1 w2
  have E1 : EqC T (si T 53 3 (nI kk)) := (EqC.rfl T).si (by omega)
  unfold Lr_readUnit Lr_readUnit_86 Md_unit Md_unit_94
  rw [w4, w5, q_bind, q_bind]
  dsimp only
  by_cases y : lxs n b kk = 33
  · rw [if_pos y, if_pos y, y, q_app]
    obtain ⟨E2, g⟩ := sim_open (c := 33) h d6 w1 w2 w3 (by omega) y
    rcases g with ⟨d5, g1, g2, g3⟩ | ⟨S', g1, g2, g3⟩
    · obtain ⟨T4, S4, y1, y2, y3, y4⟩ := hN d5 _ _ _ _ _ g2
      obtain ⟨T5, z1, z2, z3⟩ := (y4.low (show i + 1 ≤ kk + 1 by omega)).put (a := 9) (c := 0) (Q := TyE true k) hc ht (fun us hu => ⟨by simp, fun st hst => by
        rw [rt_app, hu.2 st hst]; rfl⟩)
      have z1 : Md_put 9 0 T4 = some T5 := z1
      rw [show (33 : Int32) = nI 33 from rfl, g1, q_bind, if_pos g3, y2, q_bind, z1, q_bind]
      dsimp only
      rw [if_neg (show ¬ (1 : Int32) = 0 by decide), e1, y1, q_bind, q_app]
      exact ⟨_, _, rfl, rfl, ((E2.trans y3).trans z2).si (by omega), z3.dn d6⟩
    · rw [show (33 : Int32) = nI 33 from rfl, g1, q_bind, if_neg g3]
      dsimp only
      rw [if_pos rfl]
      exact ⟨_, _, rfl, rfl, E2, Or.inr g2⟩
  · rw [if_neg y, if_neg y]
    by_cases y2 : lxs n b kk = 40
    · rw [if_pos y2, if_pos y2, y2, q_app]
      obtain ⟨E2, g⟩ := sim_open (c := 40) h d6 w1 w2 w3 (by omega) y2
      rcases g with ⟨d5, g1, g2, g3⟩ | ⟨S', g1, g2, g3⟩
      · obtain ⟨T4, S4, y1, y2, y3, y4⟩ := hC d5 _ _ _ _ _ g2
        obtain ⟨T5, S5, z1, z2, z3, z4⟩ := sim_close (c := 41) (Q := TyE true k) (by omega) d6 (y4.low (show i ≤ kk + 1 by omega)) fun us hu => hu
        have z1 : Tp_need 41 S4 = some S5 := z1
        have z2 : Md_closes 41 T4 = some T5 := z2
        rw [show (40 : Int32) = nI 40 from rfl, g1, q_bind, if_pos g3, y2, q_bind, z2, q_bind]
        dsimp only
        rw [if_neg (show ¬ (1 : Int32) = 0 by decide), e1, y1, q_bind, z1, q_bind]
        exact ⟨_, _, rfl, rfl, (E2.trans y3).trans z3, z4⟩
      · rw [show (40 : Int32) = nI 40 from rfl, g1, q_bind, if_neg g3]
        dsimp only
        rw [if_pos rfl]
        exact ⟨_, _, rfl, rfl, E2, Or.inr g2⟩
    · rw [if_neg y2, if_neg y2]
      obtain ⟨T4, S4, y1, y2, y3, y4⟩ := sim_seq (R := TyE true k) (sim_sum d6) (sim_cmp d6) (xs_comp _) xr_comp (fun us ws hu hw => ⟨fun e => hu.1 (List.append_eq_nil_iff.mp e).1, fun st hst => by
        rw [rt_app, hu.2 st (by omega)]
        exact hw st (by omega)⟩) _ _ _ _ _ P1
      have r : ((Md_sum_r (si T 53 3 (nI kk))).bind fun q2 => (if (gi q2 53 4) = ((-1)) then ((Md_compare q2).bind fun q3 => (some q3)) else (some q2))) = some T4 := by
        rw [← y2]
        refine congrArg _ (funext fun q2 => ?_)
        by_cases z : gi q2 53 4 = -1
        · rw [if_pos z]; exact bd_some _
        · rw [if_neg z, xr_comp q2 z]
      have r2 : ((Lr_readSum_r (nI d) (si S 8 2 (nI kk))).bind fun q2 => ((Lr_readComparison (nI d) q2).bind fun q3 => (some q3))) = some S4 := by
        rw [← y1]
        exact congrArg _ (funext fun q2 => bd_some _)
      rw [r, r2]
      exact ⟨_, _, rfl, rfl, E1.trans y3, y4.low w1⟩
/-- behind a fault the class reads on -/
theorem xs_u (D : Nat) (d : Int32) : XS n b L v T0 S0 (fLu (D + 1) 0 d) := fun i t0 A T S h => by
  obtain ⟨s1, -, -⟩ := h.sg
  obtain ⟨S1, g1, g2⟩ := xs_sum d i t0 A T S h
  obtain ⟨S2, g3, g4⟩ := xs_comp d i t0 A T S1 g2
  refine ⟨S2, ?_, g4⟩
  show Lr_readUnit (fLu D) d S = _
  unfold Lr_readUnit Lr_readUnit_86
  rw [s1, q_bind]
  dsimp only
  rw [if_neg (show ¬ mI = 33 by decide), if_neg (show ¬ mI = 40 by decide), g1, q_bind, g3, q_bind]
theorem xs_and (D : Nat) (d : Int32) : XS n b L v T0 S0 (fLu (D + 1) 2 d) := by
  have e : fLu (D + 1) 2 d = fun S => lpN (hcL 38 (fLu D 0 d)) FU (0, S) := funext fun S => lr_and (fLu D) d S
  rw [e]
  exact xs_h (by decide)
theorem xs_or (D : Nat) (d : Int32) : XS n b L v T0 S0 (fLu (D + 1) 3 d) := by
  have e : fLu (D + 1) 3 d = fun S => lpN (hcL 124 (fun S => (fLu D 0 d S).bind (fLu D 2 d))) FU (0, S) := funext fun S => lr_or (fLu D) d S
  rw [e]
  exact xs_h (by decide)
theorem xr_and (D : Nat) : XR (fMu (D + 1) 2) := by
  have e : fMu (D + 1) 2 = fun S => lpN (htL 38 10 (fMu D 0)) FU S := funext fun S => md_and (fMu D) S
  rw [e]
  exact xr_h
theorem xr_or (D : Nat) : XR (fMu (D + 1) 3) := by
  have e : fMu (D + 1) 3 = fun S => lpN (htL 124 11 (fun S => (fMu D 0 S).bind (fMu D 2))) FU S := funext fun S => md_or (fMu D) S
  rw [e]
  exact xr_h
theorem sim_and {d k D : Nat} (h : SimQ n b L v T0 S0 (TyE true k) d (fLu D 0 (nI d)) (fMu D 0)) : SimQ n b L v T0 S0 (TyC (k + 1)) d (fLu (D + 1) 2 (nI d)) (fMu (D + 1) 2) := by
  have e : fLu (D + 1) 2 (nI d) = fun S => lpN (hcL 38 (fLu D 0 (nI d))) FU (0, S) := funext fun S => lr_and (fLu D) (nI d) S
  have e2 : fMu (D + 1) 2 = fun S => lpN (htL 38 10 (fMu D 0)) FU S := funext fun S => md_and (fMu D) S
  rw [e, e2]
  exact sim_h (c := 38) (t := 10) h (by omega) rfl (fun _ => rfl)
theorem sim_or {d k D : Nat} (h : SimQ n b L v T0 S0 (TyE true k) d (fLu (D + 1) 0 (nI d)) (fMu (D + 1) 0)) (h2 : SimQ n b L v T0 S0 (TyC (k + 1)) d (fLu (D + 1) 2 (nI d)) (fMu (D + 1) 2)) : SimQ n b L v T0 S0 (TyC (k + 2)) d (fLu (D + 2) 3 (nI d)) (fMu (D + 2) 3) := by
  have e : fLu (D + 2) 3 (nI d) = fun S => lpN (hcL 124 (fun S => (fLu (D + 1) 0 (nI d) S).bind (fLu (D + 1) 2 (nI d)))) FU (0, S) := funext fun S => lr_or (fLu (D + 1)) (nI d) S
  have e2 : fMu (D + 2) 3 = fun S => lpN (htL 124 11 (fun S => (fMu (D + 1) 0 S).bind (fMu (D + 1) 2))) FU S := funext fun S => md_or (fMu (D + 1)) S
  rw [e, e2]
  refine sim_h (c := 124) (t := 11) (k := k + 1) (sim_seq h h2 (xs_and D _) (xr_and D) fun us ws hu hw => ⟨fun e => hu.1 (List.append_eq_nil_iff.mp e).1, fun st hst => ?_⟩) (by omega) rfl (fun _ => rfl)
  rw [rt_app, hu.2 st (by omega)]
  exact hw st hst
theorem sim_cond {d k D : Nat} (h : SimQ n b L v T0 S0 (TyE true k) d (fLu (D + 2) 0 (nI d)) (fMu (D + 2) 0)) (h2 : SimQ n b L v T0 S0 (TyC (k + 1)) d (fLu (D + 2) 2 (nI d)) (fMu (D + 2) 2)) (h3 : SimQ n b L v T0 S0 (TyC (k + 2)) d (fLu (D + 2) 3 (nI d)) (fMu (D + 2) 3)) : SimQ n b L v T0 S0 (TyE true (k + 2)) d (fLu (D + 3) 1 (nI d)) (fMu (D + 3) 1) := by
  have e : fLu (D + 3) 1 (nI d) = fun S => (fLu (D + 2) 0 (nI d) S).bind fun S => (fLu (D + 2) 2 (nI d) S).bind (fLu (D + 2) 3 (nI d)) := funext fun S => by
    show Lr_readCondition (fLu (D + 2)) (nI d) S = _
    unfold Lr_readCondition
    refine congrArg _ (funext fun q1 => congrArg _ (funext fun q2 => bd_some _))
  have e2 : fMu (D + 3) 1 = fun S => (fMu (D + 2) 0 S).bind fun S => (fMu (D + 2) 2 S).bind (fMu (D + 2) 3) := funext fun S => by
    show Md_condition (fMu (D + 2)) S = _
    unfold Md_condition
    refine congrArg _ (funext fun q1 => congrArg _ (funext fun q2 => bd_some _))
  rw [e, e2]
  have t : SimQ n b L v T0 S0 (TyC (k + 2)) d (fun S => (fLu (D + 2) 2 (nI d) S).bind (fLu (D + 2) 3 (nI d))) (fun S => (fMu (D + 2) 2 S).bind (fMu (D + 2) 3)) := sim_seq h2 h3 (xs_or (D + 1) _) (xr_or (D + 1)) fun us ws hu hw st hst => by
    rw [rt_app, hu st (by omega)]
    exact hw st hst
  refine sim_seq h t (xs_seq (xs_and (D + 1) _) (xs_or (D + 1) _)) (xr_seq (xr_and (D + 1)) (xr_or (D + 1))) fun us ws hu hw => ⟨fun e => hu.1 (List.append_eq_nil_iff.mp e).1, fun st hst => ?_⟩
  rw [rt_app, hu.2 st (by omega)]
  exact hw st hst
/-- units, what goes on, conditions: the depth from behind -/
theorem sim_lu : ∀ e, e ≤ 6 → ∀ D, 4 * e + 1 ≤ D → SimQ n b L v T0 S0 (TyE true (4 + 2 * e)) (6 - e) (fLu D 0 (nI (6 - e))) (fMu D 0)
  | 0, _ => fun D hD => by
    obtain ⟨D, rfl⟩ : ∃ x, D = x + 1 := ⟨D - 1, by omega⟩
    exact sim_unit (d := 6) (rcS := fLu D) (rcT := fMu D) (by omega) (by omega) (fun h => absurd h (by omega)) (fun h => absurd h (by omega))
  | e + 1, he => fun D hD => by
    obtain ⟨D, rfl⟩ : ∃ x, D = x + 4 := ⟨D - 4, by omega⟩
    have u : ∀ x, 4 * e + 1 ≤ x → SimQ n b L v T0 S0 (TyE true (4 + 2 * e)) (6 - e) (fLu x 0 (nI (6 - e))) (fMu x 0) := fun x hx => sim_lu e (by omega) x hx
    have c : SimQ n b L v T0 S0 (TyE true (4 + 2 * e + 2)) (6 - e) (fLu (D + 3) 1 (nI (6 - e))) (fMu (D + 3) 1) := sim_cond (u (D + 2) (by omega)) (sim_and (u (D + 1) (by omega))) (sim_or (u (D + 1) (by omega)) (sim_and (u D (by omega))))
    refine sim_unit (d := 6 - (e + 1)) (rcS := fLu (D + 3)) (rcT := fMu (D + 3)) (by omega) (by omega) (fun h => ?_) (fun h => ?_)
    · rw [show 6 - (e + 1) + 1 = 6 - e by omega]
      exact (u (D + 3) (by omega)).imp fun us hu => hu.up (by omega)
    · rw [show 6 - (e + 1) + 1 = 6 - e by omega]
      exact c.imp fun us hu => hu.up (by omega)
theorem sim_and0 : SimQ n b L v T0 S0 (TyC 17) 0 (Lr_readMoreUnits_r 0) Md_goOnAnd_r := sim_and (d := 0) (D := 39) (sim_lu 6 (by omega) 39 (by omega))
theorem sim_or0 : SimQ n b L v T0 S0 (TyC 18) 0 (Lr_readMoreTruths_r 0) Md_goOnOr_r := sim_or (d := 0) (D := 38) (sim_lu 6 (by omega) 39 (by omega)) (sim_and (sim_lu 6 (by omega) 38 (by omega)))
theorem sim_cond0 : SimQ n b L v T0 S0 (TyE true 18) 0 (Lr_readCondition_r 0) Md_condition_r := sim_cond (d := 0) (D := 37) (sim_lu 6 (by omega) 39 (by omega)) (sim_and (sim_lu 6 (by omega) 38 (by omega))) (sim_or (sim_lu 6 (by omega) 38 (by omega)) (sim_and (sim_lu 6 (by omega) 37 (by omega))))
end LD
