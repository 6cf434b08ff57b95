/-! ===== a law's text: sums ===== -/
section LB
variable {n : Nat} {b : Nat → Nat} {L v : Nat} {T0 S0 T S : Sm}
/-- the reference, behind a fault: one on, one up -/
theorem PzX.c20 {i t0 A : Nat} (h : PzX n b L v T0 S0 i t0 A T S) (hA : A ≤ 300) (x : Int32) : PzX n b L v T0 S0 i t0 (A + 1) (si (si T 53 3 (gi T 53 3 + 1)) 53 5 x) S := by
  obtain ⟨⟨f1, f2, f3, f4, f5, f6⟩, ⟨o1, o2, o3, o4, o5, o6⟩, p, a, t, e, h3, h4, h5, h6, h7, h8, h9, h10, h11⟩ := h
  rw [h6, show nI a + 1 = nI (a + 1) from q_add a 1]
  refine ⟨⟨f1, f2, f3, ?_, f5, (f6.st (Or.inl rfl)).st (Or.inl rfl)⟩, ⟨o1, o2, o3, o4, ?_, fun i hi => ?_⟩, p, a + 1, t, e, h3, h4, ?_, ?_, ?_, by omega, by omega, h10, h11⟩
  · exact (tb_n fun e => absurd e.2 (by decide)).trans ((tb_n fun e => absurd e.2 (by decide)).trans f4)
  · exact (tb_n fun e => absurd e.2 (by decide)).trans ((tb_n fun e => absurd e.2 (by decide)).trans o5)
  · exact (tb_n fun e => absurd e.1 (by decide)).trans ((tb_n fun e => absurd e.1 (by decide)).trans (o6 i hi))
  · exact (tb_n fun e => absurd e.2 (by decide)).trans ((tb_n fun e => absurd e.2 (by decide)).trans h5)
  · exact (tb_n fun e => absurd e.2 (by decide)).trans tb_h
  · exact (tb_n fun e => absurd e.1 (by decide)).trans ((tb_n fun e => absurd e.1 (by decide)).trans h7)
theorem lx_sc {x y : Int32} : si (si T 53 5 x) 53 3 y = si (si T 53 3 y) 53 5 x := by
  refine Prod.ext (funext fun i => funext fun j => ?_) rfl
  show (if i = 53 ∧ j = 3 then y else if i = 53 ∧ j = 5 then x else T.1 i j) = if i = 53 ∧ j = 5 then x else if i = 53 ∧ j = 3 then y else T.1 i j
  by_cases c : i = 53 ∧ j = 3
  · rw [if_pos c, if_neg (show ¬ (i = 53 ∧ j = 5) from fun e => by omega), if_pos c]
  · rw [if_neg c, if_neg c]
theorem PzX.o13 {i t0 A : Nat} (h : PzX n b L v T0 S0 i t0 A T S) (hA : A ≤ 300) (x : Int32) : PzX n b L v T0 S0 i t0 (A + 1) (si (si T 53 5 x) 53 3 (gi (si T 53 5 x) 53 3 + 1)) S := by
  rw [show gi (si T 53 5 x) 53 3 = gi T 53 3 from tb_n fun e => absurd e.2 (by decide), lx_sc]
  exact h.c20 hA x
theorem PzR.low {P : List Tk → Prop} {i j d : Nat} {cs : List Int32} {ts : List Tk} (h : PzR n b L v T0 S0 P j d cs ts T S) (hj : i ≤ j) : PzR n b L v T0 S0 P i d cs ts T S := by
  rcases h with ⟨us, k, h1, h2, h3⟩ | h
  · exact Or.inl ⟨us, k, by omega, h2, h3⟩
  · exact Or.inr (h.w (by omega) (Nat.le_refl _))
theorem pz_c20 (x : Int32) : Md_closes_20 T = some (si (si T 53 3 (gi T 53 3 + 1)) 53 5 (gi (si T 53 3 (gi T 53 3 + 1)) 53 5 - 1)) ∧ EqC T (si (si T 53 3 (gi T 53 3 + 1)) 53 5 x) := ⟨rfl, ((EqC.rfl T).si (by omega)).si (by omega)⟩
/-- a fault where one stands -/
theorem PzO.bad {i k d t0 i0 : Nat} {cs : List Int32} {ts : List Tk} (h : PzO n b L v T0 S0 i d cs ts T S) (h1 : i ≤ k) (h2 : k ≤ n) (ha : ts.length + i0 ≤ k + t0) {A : Nat} (hA : k ≤ A) : PzX n b L v T0 S0 i0 t0 A (si (si T 53 3 (nI k)) 53 4 (nI k)) (si (si S 8 2 (nI k)) 8 3 (nI k)) := by
  have := (h.mv h1 h2).flt (p := k) (a := k) (t0 := t0) (i0 := i0) h2 ha A hA
  rw [lx_ss] at this
  exact this
/-- what is left open is closed on both sides -/
theorem sim_close {i d c : Nat} {P Q : List Tk → Prop} {cs : List Int32} {ts : List Tk} (hc : c < 256) (d6 : d ≤ 6) (h : PzR n b L v T0 S0 P i (d + 1) cs ts T S) (hq : ∀ us, P us → Q us) : ∃ T' S', Tp_need (nI c) S = some S' ∧ Md_closes (nI c) T = some T' ∧ EqC T T' ∧ PzR n b L v T0 S0 Q i d cs ts T' S' := by
  rcases h.e4 with ⟨us, j, u1, u2, u3, u4⟩ | ⟨x, u4⟩
  · have hb := u3.2.1.1.2.1
    have n240 := u3.2.1.1.1
    obtain ⟨kk, w1, w2, w3, w4, w5⟩ := lx_look u3.2.1
    have P1 := u3.mv w1 w2
    have nd : Tp_need (nI c) S = Tp_need (nI c) (si S 8 2 (nI kk)) := by
      unfold Tp_need
      rw [w4, (lx_at P1.2.1 w3).1]
    have c5 : ∀ U, gi (si U 53 3 (nI (kk + 1))) 53 5 = gi U 53 5 := fun U => tb_n fun e => absurd e.2 (by decide)
    have d1 : nI (d + 1) - 1 = nI d := (q_sub (a := d + 1) (b := 1) (by omega)).trans (by rfl)
    rw [nd, lx_need P1.2.1 w3]
    unfold Md_closes
    rw [if_pos u4, w5, q_bind]
    dsimp only
    by_cases y : lxs n b kk = nI c
    · obtain ⟨kn, -⟩ := (lxs_eq hb (by omega)).mp y
      rw [if_pos y, if_pos y, lx_ss]
      refine ⟨_, _, rfl, rfl, ((EqC.rfl T).si (by omega)).si (by omega) |>.si (by omega), Or.inl ⟨us, kk + 1, by omega, hq us u2, ?_⟩⟩
      have P2 := (u3.mv (show j ≤ kk + 1 by omega) (show kk + 1 ≤ n from kn)).dep (d' := d)
      rw [show gi (si T 53 3 (nI kk)) 53 3 = nI kk from tb_h, show nI kk + 1 = nI (kk + 1) from q_add kk 1, lx_ss, c5, u3.2.2.1, d1]
      exact P2
    · rw [if_neg y, if_neg y, q_app, md_bad tb_h ((tb_n fun e => absurd e.2 (by decide)).trans u4)]
      have X := u3.bad (i0 := i) (t0 := ts.length) (A := kk) w1 w2 (by rw [List.length_append]; omega) (Nat.le_refl _)
      exact ⟨_, _, rfl, rfl, (((EqC.rfl T).si (by omega)).si (by omega) |>.si (by omega)).si (by omega), Or.inr ((X.c20 (by omega) _).w (Nat.le_refl _) (by omega))⟩
  · obtain ⟨s1, s2⟩ := x.tk (nI c) (fun e => (q_meq (by omega)).mp e)
    unfold Md_closes
    rw [s2, if_neg u4]
    exact ⟨_, _, rfl, rfl, ((EqC.rfl T).si (by omega)).si (by omega), Or.inr ((x.c20 (by omega) _).w (Nat.le_refl _) (by omega))⟩
/-- an atom -/
theorem sim_atom {d k : Nat} {rcS : Nat → Int32 → Sm → Option Sm} {rcT : Nat → Sm → Option Sm} (d6 : d ≤ 6) (k1 : 1 ≤ k) (hR : d < 6 → SimQ n b L v T0 S0 (TyE false k) (d + 1) (rcS 0 (nI (d + 1))) (rcT 0)) : SimQ n b L v T0 S0 (TyE false k) d (Lr_readAtom rcS (nI d)) (Md_atom rcT) := fun i cs ts T S h => by
  have hb := h.2.1.1.2.1
  have n240 := h.2.1.1.1
  have hc := h.2.2.2.1
  have ht := h.2.2.2.2.1
  obtain ⟨kk, w1, w2, w3, w4, w5⟩ := lx_look h.2.1
  have P1 := h.mv w1 w2
  have f4 : gi (si T 53 3 (nI kk)) 53 4 = mI := P1.2.1.2.2.1
  have E1 : EqC T (si T 53 3 (nI kk)) := (EqC.rfl T).si (by omega)
  unfold Lr_readAtom Lr_readAtom_85 Md_atom Md_atom_89
  rw [w4, w5, q_bind, q_bind]
  dsimp only
  rw [dg_T hb]
  by_cases z : dgt n b kk
  · -- a number
    have kn := z.1
    have z1 := z.2.1
    have z2 := z.2.2
    obtain ⟨j, j0, j1, j2⟩ := dg_ex n b kk 4
    have jp : 1 ≤ j := by
      by_cases y : j = 0
      · subst y; exact absurd z (j2 (by omega))
      · omega
    have kj : kk + j ≤ n := by have := (j1 (j - 1) (by omega)).1; omega
    have vl := dgv_lt (n := n) (b := b) (k := kk) j j1
    have p4 : 10 ^ j ≤ 10 ^ 4 := Nat.pow_le_pow_right (by decide) j0
    have nl : Lr_isLetter (lxs n b kk) = 0 := by
      rcases t_ltr (b kk) (by have := hb kk kn; omega) with e | e
      · rw [lxs_in kn]; exact e.2
      · obtain ⟨l, -, e⟩ := List.any_eq_true.mp e
        have e := of_decide_eq_true e
        exact absurd ⟨z1, z2⟩ e.2.2.2.1
    have n91 : ¬ lxs n b kk = 91 := fun e => by have := ((lxs_eq (c := 91) hb (by omega)).mp e).2; omega
    rw [if_neg n91, nl, if_pos rfl, show (4 : Int32) = nI 4 from rfl, num_S P1.2.1 (by omega) z j0 j1 j2, q_bind, q_app, decide_eq_true z, bI_t, if_neg (show ¬ nI 1 = 0 by decide), pl_num P1.2.1 z j0 j1 j2, q_bind]
    dsimp only
    have R : PzR n b L v T0 S0 (fun us => us = []) (i + 1) d cs ts (if dgt n b (kk + j) then si (si (si T 53 3 (nI kk)) 53 3 (nI (kk + j))) 53 4 (nI (kk + j)) else si (si T 53 3 (nI kk)) 53 3 (nI (kk + j))) (if dgt n b (kk + j) then si (si (si S 8 2 (nI kk)) 8 2 (nI (kk + j))) 8 3 (nI (kk + j)) else si (si S 8 2 (nI kk)) 8 2 (nI (kk + j))) := by
      rw [lx_ss, lx_ss]
      by_cases y : dgt n b (kk + j)
      · rw [if_pos y, if_pos y]
        exact Or.inr (h.bad (by omega) kj (by omega) (by omega))
      · rw [if_neg y, if_neg y]
        refine Or.inl ⟨[], kk + j, by show i + 1 + 0 ≤ kk + j; omega, rfl, ?_⟩
        rw [List.map_nil, List.append_nil, List.append_nil]
        exact h.mv (by omega) kj
    have E2 : EqC T (if dgt n b (kk + j) then si (si (si T 53 3 (nI kk)) 53 3 (nI (kk + j))) 53 4 (nI (kk + j)) else si (si T 53 3 (nI kk)) 53 3 (nI (kk + j))) := by
      by_cases y : dgt n b (kk + j)
      · rw [if_pos y]; exact (E1.si (by omega)).si (by omega)
      · rw [if_neg y]; exact E1.si (by omega)
    obtain ⟨T5, r1, r2, r3⟩ := R.put (a := 0) (c := dgv b kk j) (Q := TyE false k) hc ht (fun us e => ⟨by simp, fun st hst => by
      rw [e]
      show (if dgv b kk j ≤ 9999 ∧ st.length < 60 then some (false :: st) else none).bind (rt []) = _
      rw [if_pos ⟨by omega, by omega⟩]; rfl⟩)
    rw [show (0 : Int32) = nI 0 from rfl, r1, q_bind]
    exact ⟨_, _, rfl, rfl, E2.trans r2, r3⟩
  · rw [decide_eq_false z, bI_f, if_pos (show nI 0 = 0 from rfl)]
    by_cases y : lxs n b kk = 91
    · -- what is in brackets
      obtain ⟨kn, -⟩ := (lxs_eq (c := 91) hb (by omega)).mp y
      rw [if_pos y, y, show Md_letterOf 91 = mI from t_91.1, if_pos (show mI = -1 from rfl), if_pos rfl]
      unfold Lr_opens Md_opens Md_opens_13
      rw [P1.2.2.1]
      by_cases d5 : d < 6
      · have tk := lx_take P1.2.1 w3 (lxs n b kk)
        rw [if_pos rfl, lx_ss, y] at tk
        have P2 := (P1.dep (d' := d + 1)).mv (show kk ≤ kk + 1 by omega) (show kk + 1 ≤ n from kn)
        rw [lx_ss] at P2
        obtain ⟨T4, S4, y1, y2, y3, y4⟩ := hR d5 _ _ _ _ _ P2
        obtain ⟨T5, S5, z1, z2, z3, z4⟩ := sim_close (c := 93) (Q := TyE false k) (by omega) d6 (y4.low (show i ≤ kk + 1 by omega)) fun us hu => hu
        have e1 : nI d + 1 = nI (d + 1) := q_add d 1
        have e2 : gi (si (si T 53 3 (nI kk)) 53 5 (nI (d + 1))) 53 3 + 1 = nI (kk + 1) := by
          rw [show gi (si (si T 53 3 (nI kk)) 53 5 (nI (d + 1))) 53 3 = nI kk from (tb_n fun e => absurd e.2 (by decide)).trans tb_h]
          exact q_add kk 1
        rw [if_pos (show nI d < 6 from (q_lt (b := 6) (by omega) (by omega)).mpr d5), if_neg (show ¬ nI d = 6 from fun e => by have := (q_eq (b := 6) (by omega) (by omega)).mp e; omega), tk, q_bind, q_bind]
        dsimp only
        rw [if_neg (show ¬ (1 : Int32) &&& 1 = 0 by decide), e1, y1, q_bind, show (93 : Int32) = nI 93 from rfl, z1, q_app, e2, if_pos (show gi (si (si (si T 53 3 (nI kk)) 53 5 (nI (d + 1))) 53 3 (nI (kk + 1))) 53 4 = -1 from P2.2.1.2.2.1), y2, q_bind, q_bind, z2]
        exact ⟨_, _, rfl, rfl, (((E1.si (by omega)).si (by omega)).trans y3).trans z3, z4⟩
      · have d6' : d = 6 := by omega
        subst d6'
        have X := h.bad (i0 := i) (t0 := ts.length) (A := kk) w1 w2 (by omega) (Nat.le_refl _)
        have X2 := X.o13 (by omega) (gi (si (si T 53 3 (nI kk)) 53 4 (nI kk)) 53 5 + 1)
        obtain ⟨p, -, -, -, -, -, p4⟩ := X2.p
        rw [if_neg (show ¬ nI 6 < 6 by decide), if_pos (show nI 6 = 6 from rfl), (lx_fail P1.2.1).1, (lx_fail P1.2.1).2, q_app, q_app, q_app, q_bind]
        dsimp only
        rw [if_pos rfl, if_neg p4]
        exact ⟨_, _, rfl, rfl, ((E1.si (by omega)).si (by omega)).si (by omega), Or.inr (X2.w (Nat.le_refl _) (by omega))⟩
    · rw [if_neg y]
      by_cases yl : ∃ l, l < 5 ∧ kk < n ∧ Md_letterOf (lxs n b kk) = nI l ∧ Lr_isLetter (lxs n b kk) = 1 ∧ -(lxs n b kk) = tkC (1, l)
      · -- a letter
        obtain ⟨l, l5, kn, q1, q2, q3⟩ := yl
        have tk := lx_take P1.2.1 w3 (lxs n b kk)
        rw [if_pos rfl, lx_ss] at tk
        have P2 := h.mv (show i ≤ kk + 1 by omega) (show kk + 1 ≤ n from kn)
        have R : PzR n b L v T0 S0 (fun us => us = []) (i + 1) d cs ts (si T 53 3 (nI (kk + 1))) (si S 8 2 (nI (kk + 1))) := by
          refine Or.inl ⟨[], kk + 1, by show i + 1 + 0 ≤ kk + 1; omega, rfl, ?_⟩
          rw [List.map_nil, List.append_nil, List.append_nil]
          exact P2
        obtain ⟨T5, r1, r2, r3⟩ := R.put (a := 1) (c := l) (Q := TyE false k) hc ht (fun us e => ⟨by simp, fun st hst => by
          rw [e]
          show (if l < 5 ∧ st.length < 60 then some (false :: st) else none).bind (rt []) = _
          rw [if_pos ⟨l5, by omega⟩]; rfl⟩)
        have e1 : Md_put 1 (nI l) (si T 53 3 (nI (kk + 1))) = some T5 := r1
        rw [q2, if_neg (show ¬ (1 : Int32) = 0 by decide), tk, q_bind]
        dsimp only
        rw [q_app, q3, q1, if_neg (show ¬ nI l = -1 from fun z => (q_eqm (by omega)).mp z), show gi (si T 53 3 (nI kk)) 53 3 = nI kk from tb_h, lx_ss, show nI kk + 1 = nI (kk + 1) from q_add kk 1, e1, q_bind]
        exact ⟨_, _, rfl, rfl, ((EqC.rfl T).si (by omega)).trans r2, r3⟩
      · -- nothing that fits
        have nn : Md_letterOf (lxs n b kk) = mI ∧ Lr_isLetter (lxs n b kk) = 0 := by
          by_cases kn : kk < n
          · rcases t_ltr (b kk) (by have := hb kk kn; omega) with e | e
            · rw [lxs_in kn]; exact e
            · obtain ⟨l, l1, e⟩ := List.any_eq_true.mp e
              have e := of_decide_eq_true e
              exact absurd ⟨l, List.mem_range.mp l1, kn, by rw [lxs_in kn]; exact e.1, by rw [lxs_in kn]; exact e.2.1, by rw [lxs_in kn]; exact e.2.2.1⟩ yl
          · rw [lxs_out kn]; exact t_91.2
        have X := h.bad (i0 := i) (t0 := ts.length) (A := kk) w1 w2 (by omega) (Nat.le_refl _)
        rw [nn.1, nn.2, if_pos (show mI = -1 from rfl), if_pos rfl, num_N P1.2.1 w3 4 z (by decide), q_bind, q_app, if_neg y, (lx_fail P1.2.1).2, q_app]
        exact ⟨_, _, rfl, rfl, E1.si (by omega), Or.inr ((X.wr _).w (Nat.le_refl _) (by omega))⟩
end LB
