/-! ===== a law's text: a whole clause ===== -/
section LF
variable {n : Nat} {b : Nat → Nat} {L v : Nat} {T0 S0 T S : Sm}
theorem PzX.m71 {i t0 A : Nat} (h : PzX n b L v T0 S0 i t0 A T S) (x : Int32) : ∃ T', Md_clause_71 x T = some T' ∧ PzZ n b L v T0 S0 T' S := by
  obtain ⟨p, -, -, -, -, -, p4⟩ := h.a1.p
  unfold Md_clause_71
  rw [if_neg p4]
  exact ⟨_, rfl, _, _, _, h.a1⟩
theorem PzX.m40 {i t0 A : Nat} (h : PzX n b L v T0 S0 i t0 A T S) (x : Int32) : ∃ T', Md_clause_40 x T = some T' ∧ PzZ n b L v T0 S0 T' S := by
  obtain ⟨p, -, -, -, -, -, p4⟩ := h.a1.p
  unfold Md_clause_40
  rw [if_neg p4]
  exact h.a1.m71 x
/-- the class behind a fault in a clause's head -/
theorem xs_head {i t0 A : Nat} (h : PzX n b L v T0 S0 i t0 A T S) : ∃ S', ((Tp_sign S).bind fun q3 => (if q3.1 = 33 then (Lr_readClause_38 q3.2) else (if q3.1 = 40 then (Lr_readClause_38 q3.2) else (Lr_readClause_43 0 q3.2)))) = some S' ∧ PzX n b L v T0 S0 i t0 A T S' := by
  obtain ⟨s1, -, -⟩ := h.sg
  obtain ⟨S1, g1, g2⟩ := xs_43 i t0 A T S h
  rw [s1, q_bind]
  dsimp only
  rw [if_neg (show ¬ mI = 33 by decide), if_neg (show ¬ mI = 40 by decide), g1]
  exact ⟨S1, rfl, g2⟩
theorem PzZ.to {T' S' : Sm} (h : PzZ n b L v T0 S0 T' S') {T1 S1 : Sm} (h1 : ∀ i t A, PzX n b L v T0 S0 i t A T' S' → PzX n b L v T0 S0 i t A T1 S1) : PzZ n b L v T0 S0 T1 S1 := by
  obtain ⟨i, t, A, x⟩ := h
  exact ⟨i, t, A, h1 i t A x⟩
/-- what stands behind "y:" without a condition's sign -/
theorem cl_plain {i m : Nat} {cs : List Int32} {ts : List Tk} {Tb : Sm} (hi : cs.length ≤ i) (hm : m < 140) (h : PzO n b L v T0 S0 (i + 2) 0 cs ts T S) (h58 : gi T 58 v = nI m) (h59 : gi T 59 (140 * v + m) = nI ts.length) (hT : ∀ r k, 59 ≤ r → r ≤ 61 → k ≠ 140 * v + m → T.1 r k = Tb.1 r k) : ∃ T' S', Lr_readClause_43 0 S = some S' ∧ Md_clause_128 (nI (140 * v + m)) 0 T = some T' ∧ ClR n b L v T0 S0 i m cs ts Tb T' S' := by
  obtain ⟨T1, S1, y1, y2, y3, y4⟩ := sim_sum (d := 0) (by omega) _ _ _ _ _ h
  have y1 : Lr_readSum_r 0 S = some S1 := y1
  unfold Lr_readClause_43 Md_clause_128
  rw [if_pos rfl, if_pos rfl, y1, y2, q_bind, q_bind]
  rcases y4.e4 with ⟨us, j, u1, u2, u3, u4⟩ | ⟨x, u4⟩
  · have hb := u3.2.1.1.2.1
    obtain ⟨kk, w1, w2, w3, w4, w5⟩ := lx_look u3.2.1
    have P1 := u3.mv w1 w2
    have E1 : EqC T (si T1 53 3 (nI kk)) := y3.si (by omega)
    rw [w4, q_bind, if_pos u4, w5, q_bind]
    dsimp only
    have q : (Lr_isComparing (lxs n b kk) = 0 ∧ Md_isSign (lxs n b kk) = 0) ∨ (Lr_isComparing (lxs n b kk) = 1 ∧ Md_isSign (lxs n b kk) = 1) := by
      by_cases kn : kk < n
      · rw [lxs_in kn]
        rcases t_cmp (b kk) (by have := hb kk kn; omega) with e | e
        · exact Or.inl ⟨e.1, e.2.1⟩
        · exact Or.inr ⟨e.1, e.2.1⟩
      · rw [lxs_out kn]; exact Or.inl (by decide)
    rcases q with ⟨q1, q2⟩ | ⟨q1, q2⟩
    · rw [q1, q2, if_pos rfl, if_pos rfl]
      unfold Lr_readClause_91 Md_clause_166 Md_clause_167
      rw [if_pos rfl, if_pos rfl]
      exact cl_tail0 (k := 15) hi hm (by omega) (Or.inl ⟨us, kk, by omega, u2, P1⟩) ((E1 _ _ (by omega) (by omega)).trans h58) ((E1 _ _ (by omega) (by omega)).trans h59) fun r k r1 r2 hk => (E1 r k (by omega) r2).trans (hT r k r1 r2 hk)
    · have sq := sim_seq (R := fun ws => ∀ st : List Bool, st.length + 18 ≤ 60 → rt ws (false :: st) = some (true :: st)) (sim_cmp (n := n) (b := b) (L := L) (v := v) (T0 := T0) (S0 := S0) (d := 0) (by omega)) (sim_seq (R := TyC 18) sim_and0 sim_or0 (xs_or 39 0) (xr_or 39) (fun us ws hu hw st hst => by
        rw [rt_app, hu st (by omega)]; exact hw st hst)) (xs_seq (xs_and 39 0) (xs_or 39 0)) (xr_seq (xr_and 39) (xr_or 39)) (fun us ws hu hw st hst => by
        rw [rt_app, hu st (by omega)]; exact hw st hst)
      obtain ⟨T2, S2, z1, z2, z3, z4⟩ := sq _ _ _ _ _ P1
      have z5 : PzR n b L v T0 S0 (TyE true 18) (i + 2) 0 cs ts T2 S2 := z4.after (by omega) fun ws hw => ⟨fun e => u2.1 (List.append_eq_nil_iff.mp e).1, fun st hst => by
        rw [rt_app, u2.2 st (by omega)]; exact hw st hst⟩
      have E2 : EqC T T2 := E1.trans z3
      obtain ⟨T3, S3, r1, r2, r3⟩ := cl_tail1 (k := 18) (Tb := Tb) hi hm (by omega) z5 ((E2 _ _ (by omega) (by omega)).trans h58) ((E2 _ _ (by omega) (by omega)).trans h59) fun r k r1 r2 hk => (E2 r k (by omega) r2).trans (hT r k r1 r2 hk)
      refine ⟨T3, S3, ?_, ?_, r3⟩
      · rw [q1, if_neg (show ¬ (1 : Int32) = 0 by decide), ← r1]
        have z1 : (Lr_readComparison 0 (si S1 8 2 (nI kk))).bind (fun S => (Lr_readMoreUnits_r 0 S).bind (Lr_readMoreTruths_r 0)) = some S2 := z1
        show _ = (some S2).bind (Lr_readClause_91 1)
        rw [← z1, Option.bind_assoc]
        exact congrArg _ (funext fun q => (Option.bind_assoc _ _ _).symm)
      · rw [q2, if_neg (show ¬ (1 : Int32) = 0 by decide)]
        unfold Md_clause_167
        rw [if_neg (show ¬ (1 : Int32) = 0 by decide), ← r2]
        show _ = (some T2).bind (Md_clause_184 (nI (140 * v + m)) 1)
        rw [← z2, Option.bind_assoc]
        exact congrArg _ (funext fun q => (Option.bind_assoc _ _ _).symm)
  · obtain ⟨s1, -, -⟩ := x.sg
    rw [s1, q_bind, if_neg u4]
    dsimp only
    rw [show Lr_isComparing mI = 0 by decide, if_pos rfl]
    unfold Lr_readClause_91 Md_clause_166 Md_clause_167
    rw [if_pos rfl, if_pos rfl]
    exact cl_tail0 (k := 15) hi hm (by omega) (Or.inr x) ((y3 _ _ (by omega) (by omega)).trans h58) ((y3 _ _ (by omega) (by omega)).trans h59) fun r k r1 r2 hk => (y3 r k (by omega) r2).trans (hT r k r1 r2 hk)
/-- what stands behind "y:", with a condition's sign -/
theorem cl_cond {i m : Nat} {cs : List Int32} {ts : List Tk} {Tb : Sm} (hi : cs.length ≤ i) (hm : m < 140) (h : PzO n b L v T0 S0 (i + 2) 0 cs ts T S) (h58 : gi T 58 v = nI m) (h59 : gi T 59 (140 * v + m) = nI ts.length) (hT : ∀ r k, 59 ≤ r → r ≤ 61 → k ≠ 140 * v + m → T.1 r k = Tb.1 r k) : ∃ T' S', Lr_readClause_38 S = some S' ∧ Md_clause_123 (nI (140 * v + m)) T = some T' ∧ ClR n b L v T0 S0 i m cs ts Tb T' S' := by
  obtain ⟨T1, S1, y1, y2, y3, y4⟩ := sim_cond0 _ _ _ _ _ h
  unfold Lr_readClause_38 Lr_readClause_43 Md_clause_123 Md_clause_128
  rw [if_neg (show ¬ (1 : Int32) = 0 by decide), if_neg (show ¬ (1 : Int32) = 0 by decide), y1, y2, q_bind, q_bind]
  exact cl_tail1 (k := 18) hi hm (by omega) y4 ((y3 _ _ (by omega) (by omega)).trans h58) ((y3 _ _ (by omega) (by omega)).trans h59) fun r k r1 r2 hk => (y3 r k (by omega) r2).trans (hT r k r1 r2 hk)
/-- a clause -/
theorem cl_all {i m : Nat} {cs : List Int32} {ts : List Tk} (hm : m < 140) (h : PzO n b L v T0 S0 i 0 cs ts T S) (h58 : gi T 58 v = nI m) : ∃ T' S', Lr_readClause S = some S' ∧ Md_clause T = some T' ∧ ClR n b L v T0 S0 i m cs ts T T' S' := by
  have hv := h.1.2.1
  have hc := h.2.2.2.1
  have h14 := h.1.2.2.2.1
  have h4 : gi T 53 4 = -1 := h.2.1.2.2.1
  have ei : 140 * nI v + nI m = nI (140 * v + m) := by
    rw [show (140 : Int32) = nI 140 from rfl, q_mul, q_add]
  obtain ⟨kk, S1, a1, a2, a3⟩ := sim_word (c := 121) (by omega) h
  have a1 : Tp_need 121 S = some S1 := a1
  unfold Lr_readClause Md_clause
  rw [h14, if_pos (nI_in (by omega) (by omega)), if_pos h4, a1, a2, q_bind, q_bind, q_ix (by omega), h58, ei]
  dsimp only
  rcases a3 with ⟨y, w1, P2⟩ | ⟨y, X⟩
  · have y : lxs n b kk = 121 := y
    obtain ⟨k2, S2, b1, b2, b3⟩ := sim_word (c := 58) (by omega) P2
    have b1 : Tp_need 58 S1 = some S2 := b1
    have h4' : gi (si T 53 3 (nI (kk + 1))) 53 4 = -1 := P2.2.1.2.2.1
    have s3 : ∀ U k, si (si U 53 3 (nI k)) 53 3 (gi (si U 53 3 (nI k)) 53 3 + 1) = si U 53 3 (nI (k + 1)) := fun U k => by
      rw [show gi (si U 53 3 (nI k)) 53 3 = nI k from tb_h, lx_ss, show nI k + 1 = nI (k + 1) from q_add k 1]
    rw [if_pos y, b1, q_bind]
    unfold Md_clause_40
    rw [s3, if_pos h4', b2, q_bind]
    dsimp only
    rcases b3 with ⟨y2, w2, P3⟩ | ⟨y2, X⟩
    · have y2 : lxs n b k2 = 58 := y2
      rw [if_pos y2]
      have P4 := P3.tab (r := 59) (j := 140 * v + m) (x := nI ts.length) (Or.inr ⟨Or.inl rfl, by omega⟩)
      obtain ⟨k3, w3, w4, w5, w6, w7⟩ := lx_look P4.2.1
      have P5 := P4.mv w3 w4
      have h4'' : gi (si (si T 53 3 (nI (kk + 1))) 53 3 (nI (k2 + 1))) 53 4 = -1 := P3.2.1.2.2.1
      unfold Md_clause_71
      rw [s3, if_pos h4'', P3.1.2.2.2.1, if_pos (nI_in (by omega) (by omega)), if_pos (nI_in (by omega) (by omega)), q_ix (by omega), q_ix (by omega), P3.2.2.2.2.2.2.2.1, w6, w7, q_bind, q_bind]
      dsimp only
      have q1 : gi (si (si (si (si T 53 3 (nI (kk + 1))) 53 3 (nI (k2 + 1))) 59 (140 * v + m) (nI ts.length)) 53 3 (nI k3)) 58 v = nI m := (tb_n fun e => absurd e.1 (by decide)).trans ((tb_n fun e => absurd e.1 (by decide)).trans ((tb_n fun e => absurd e.1 (by decide)).trans ((tb_n fun e => absurd e.1 (by decide)).trans h58)))
      have q2 : gi (si (si (si (si T 53 3 (nI (kk + 1))) 53 3 (nI (k2 + 1))) 59 (140 * v + m) (nI ts.length)) 53 3 (nI k3)) 59 (140 * v + m) = nI ts.length := (tb_n fun e => absurd e.1 (by decide)).trans tb_h
      have q3 : ∀ r k, 59 ≤ r → r ≤ 61 → k ≠ 140 * v + m → (si (si (si (si T 53 3 (nI (kk + 1))) 53 3 (nI (k2 + 1))) 59 (140 * v + m) (nI ts.length)) 53 3 (nI k3)).1 r k = T.1 r k := fun r k r1 r2 hk => (tb_n fun e => by omega).trans ((tb_n fun e => hk e.2).trans ((tb_n fun e => by omega).trans (tb_n fun e => by omega)))
      have P6 : PzO n b L v T0 S0 (k3 - 2 + 2) 0 cs ts (si (si (si (si T 53 3 (nI (kk + 1))) 53 3 (nI (k2 + 1))) 59 (140 * v + m) (nI ts.length)) 53 3 (nI k3)) (si S2 8 2 (nI k3)) := by
        rw [show k3 - 2 + 2 = k3 by omega]; exact P5
      have lw : ∀ T' S', ClR n b L v T0 S0 (k3 - 2) m cs ts T T' S' → ClR n b L v T0 S0 i m cs ts T T' S' := fun T' S' h => by
        rcases h with ⟨q, j, c1, c2, c3⟩ | h
        · exact Or.inl ⟨q, j, c1, by omega, c3⟩
        · exact Or.inr h
      generalize (si (si (si (si T 53 3 (nI (kk + 1))) 53 3 (nI (k2 + 1))) 59 (140 * v + m) (nI ts.length)) 53 3 (nI k3)) = T5 at *
      by_cases c1 : lxs n b k3 = 33
      · rw [if_pos c1, if_pos c1]
        obtain ⟨T', S', z1, z2, z3⟩ := cl_cond (i := k3 - 2) (Tb := T) (by omega) hm P6 q1 q2 q3
        exact ⟨T', S', z1, z2, lw _ _ z3⟩
      · rw [if_neg c1, if_neg c1, (lx_at P5.2.1 w5).2, q_bind]
        dsimp only
        by_cases c2 : lxs n b k3 = 40
        · rw [if_pos c2, if_pos c2]
          obtain ⟨T', S', z1, z2, z3⟩ := cl_cond (i := k3 - 2) (Tb := T) (by omega) hm P6 q1 q2 q3
          exact ⟨T', S', z1, z2, lw _ _ z3⟩
        · rw [if_neg c2, if_neg c2]
          obtain ⟨T', S', z1, z2, z3⟩ := cl_plain (i := k3 - 2) (Tb := T) (by omega) hm P6 q1 q2 q3
          exact ⟨T', S', z1, z2, lw _ _ z3⟩
    · have y2 : ¬ lxs n b k2 = 58 := y2
      obtain ⟨S3, z1, z2⟩ := xs_head X
      obtain ⟨T3, z3, z4⟩ := z2.m71 (nI (140 * v + m))
      rw [if_neg y2, q_app, z1, z3]
      exact ⟨_, _, rfl, rfl, Or.inr z4⟩
  · have y : ¬ lxs n b kk = 121 := y
    obtain ⟨-, s2⟩ := X.tk 58 (by decide)
    obtain ⟨S3, z1, z2⟩ := xs_head X
    obtain ⟨T3, z3, z4⟩ := z2.m40 (nI (140 * v + m))
    rw [if_neg y, q_app, s2, q_bind, z1, z3]
    exact ⟨_, _, rfl, rfl, Or.inr z4⟩
end LF
