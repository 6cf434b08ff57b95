/-! ===== sent, lamp, show, guard ===== -/
theorem tb_e {S : Sm} {i j a b : Nat} {v : Int32} (h : a = i ∧ b = j) : gi (si S i j v) a b = v := if_pos h
theorem tr_set {S : Sm} {r k : Nat} {v : Int32} (hr : r < 8) (hk : k < 7) : Mo_setTrain (nI r) (nI k) v S = si S 26 (7 * r + k) v := by
  unfold Mo_setTrain
  simp (disch := omega) only [q_lit, q_m1, q_m2, q_hid, q_add, q_mul, q_sub, q_le, q_lt, q_eq, q_mlt, q_mle, q_ltm, q_lem, q_meq, q_eqm, q_m2lt, q_m2le, q_ltm2, q_lem2, q_eqm2, q_mm2, q_m2m, q_mm, q_mnm, q_ix, q_inb, q_a0, q_a1, q_app, q_bind, if_true, if_false, if_pos, if_neg, q_pu]
  rw [Nat.mul_comm]
theorem md_put {T : Sm} {r k : Nat} {v : Int32} (hr : r < 8) (hk : k < 6) : Md_put_ (nI r) (nI k) v T = some (si T 70 (88 + 6 * r + k) v) := by
  unfold Md_put_
  simp (disch := omega) only [q_lit, q_m1, q_m2, q_hid, q_add, q_mul, q_sub, q_le, q_lt, q_eq, q_mlt, q_mle, q_ltm, q_lem, q_meq, q_eqm, q_m2lt, q_m2le, q_ltm2, q_lem2, q_eqm2, q_mm2, q_m2m, q_mm, q_mnm, q_ix, q_inb, q_a0, q_a1, q_app, q_bind, if_true, if_false, if_pos, if_neg]
theorem f31r_id {q : Int32 × Sm} {S1 : Sm} (h : q.2.1 31 = S1.1 31) : (some q).map (f31r (S1.1 31)) = some q := by
  show some (q.1, f31 (S1.1 31) q.2) = some q
  rw [f31_id h]
theorem f31r_ix {v : Int32} {S1 S2 : Sm} (h : S2.1 31 = S1.1 31) : (some (v, S2)).map (f31r (S1.1 31)) = some (v, S2) := f31r_id h
section AC
variable {N K F R w : Nat} {U : List Nat} {X : List (List Cl)} {T S : Sm}
theorem op_sent (h : RelP N K F R U X w T S) (hw : w ≤ 1000) (v1 v2 v3 : Int32) : KpOp N K F R U X w S (Dk_sent v1 v2 v3 S) (Md_sent v1 v2 v3 T) := by
  unfold Dk_sent Md_sent Dk_sent_42 Md_sent_39
  rcases mouthC h.1 v1 with ⟨a, b⟩ | ⟨m, hm, rfl, a, b⟩
  · rw [a, b]; exact kp_nil h
  · rw [a, b, if_neg (show ¬ nI 1 = 0 by decide), if_neg (show ¬ nI 1 = 0 by decide)]
    rcases lampC h.1 (pos_of hm) v2 with ⟨a, b⟩ | ⟨c, hc, hc6, rfl, a, b⟩
    · rw [a, b]; exact kp_nil h
    · rw [a, b, if_neg (show ¬ nI 1 = 0 by decide), if_neg (show ¬ nI 1 = 0 by decide)]
      rcases rngG v3 0 9 (by omega) (by omega) with ⟨z, f⟩ | ⟨d, -, hd, rfl, f⟩
      · rw [show Md_in v3 0 9 = nI 0 from f, rng_lt (a := 0) (n := 9) z]; exact kp_nil h
      · rw [show Md_in (nI d) 0 9 = nI 1 from f, if_neg (show ¬ nI d < 0 from nI_pos (by omega)), if_neg (show ¬ (9 : Int32) < nI d from nI_nlt (a := 9) (b := d) hd (by omega)), if_neg (show ¬ nI 1 = 0 by decide)]
        have hh := h.2.2.2.1
        obtain ⟨-, n, hr, q, ho⟩ := hh
        have n8 := ho.2.1
        obtain ⟨-, -, -, -, ⟨c1, c2⟩, -⟩ := ho
        unfold Mo_isFull Mo_isFull_14
        have c2' : gi S 25 4 = nI n := c2
        have c1' : gi T 70 136 = nI n := c1
        rw [c2', c1']
        by_cases f8 : n = 8
        · subst f8
          rw [if_pos (show nI 8 = 8 from rfl)]
          exact kp_nil h
        · rw [if_pos (show nI n < 8 from (q_lt (b := 8) (by omega) (by omega)).mpr (by omega)), if_neg (show ¬ nI n = 8 from fun e => f8 ((q_eq (b := 8) (by omega) (by omega)).mp e)), if_pos (show (0 : Int32) &&& 1 = 0 by decide)]
          obtain ⟨T1, t1, t2, rel, g, k1, k2, k3, k4, k5⟩ := keep_ok h hw
          rw [t1, t2, q_bind, q_bind]
          generalize kpS S = S1 at *
          have hh := rel.2.2.2.1
          have hm8 : m < 8 := by have := rel.1.2.2.2.2.2.2.1; omega
          have e4 : gi S1 25 4 = nI n := (congrFun (k1 25 (by omega) (by omega) (by omega)) 4).trans c2
          have e136 : gi T1 70 136 = nI n := (congrFun (k2 70 (by omega) (by omega)) 136).trans c1
          obtain ⟨hD, n', hr', q', ho⟩ := hh
          obtain ⟨o1, o2, o3, o4, ⟨o5, o5'⟩, ⟨o6, o6'⟩, o7, ⟨o8, o8'⟩, o9, o10⟩ := ho
          have nn : n' = n := (q_eq (by omega) (by omega)).mp (o5.symm.trans e136)
          subst nn
          have e5 : gi S1 25 5 = nI hr' := o6'
          have e137 : gi T1 70 137 = nI hr' := o6
          have aS : Mo_addTrain (nI m) (nI c) 0 (nI d) S1 = (nI n', si (si (si (si (si (si (si (si S1 25 4 (nI (n' + 1))) 26 (7 * n' + 0) (nI m)) 26 (7 * n' + 1) (nI c)) 26 (7 * n' + 2) (nI hr')) 26 (7 * n' + 3) (nI hr')) 26 (7 * n' + 4) (nI d)) 26 (7 * n' + 5) (nI 0)) 26 (7 * n' + 6) (nI 0)) := by
            unfold Mo_addTrain
            simp (disch := omega) only [q_lit, q_m1, q_m2, q_hid, q_add, q_mul, q_sub, q_le, q_lt, q_eq, q_mlt, q_mle, q_ltm, q_lem, q_meq, q_eqm, q_m2lt, q_m2le, q_ltm2, q_lem2, q_eqm2, q_mm2, q_m2m, q_mm, q_mnm, q_ix, q_inb, q_a0, q_a1, q_app, q_bind, if_true, if_false, if_pos, if_neg, e4, tr_set, gi_si, e5, Nat.add_zero, true_and, false_and, and_true, and_false]
          have aT : Md_begin (nI n') (nI m) (nI c) (nI hr') (nI d) T1 = some (si (si (si (si (si (si T1 70 (88 + 6 * n' + 0) (nI m)) 70 (88 + 6 * n' + 1) (nI c)) 70 (88 + 6 * n' + 2) (nI hr')) 70 (88 + 6 * n' + 3) (nI hr')) 70 (88 + 6 * n' + 4) (nI d)) 70 (88 + 6 * n' + 5) mI) := by
            unfold Md_begin
            simp (disch := omega) only [q_lit, q_m1, q_m2, q_hid, q_add, q_mul, q_sub, q_le, q_lt, q_eq, q_mlt, q_mle, q_ltm, q_lem, q_meq, q_eqm, q_m2lt, q_m2le, q_ltm2, q_lem2, q_eqm2, q_mm2, q_m2m, q_mm, q_mnm, q_ix, q_inb, q_a0, q_a1, q_app, q_bind, if_true, if_false, if_pos, if_neg, md_put]
          unfold Dk_sent_51
          rw [aS, e136, e137, aT, q_bind, q_app, f31r_ix]
          rotate_left
          · rfl
          generalize hS7 : si (si (si (si (si (si (si (si S1 25 4 (nI (n' + 1))) 26 (7 * n' + 0) (nI m)) 26 (7 * n' + 1) (nI c)) 26 (7 * n' + 2) (nI hr')) 26 (7 * n' + 3) (nI hr')) 26 (7 * n' + 4) (nI d)) 26 (7 * n' + 5) (nI 0)) 26 (7 * n' + 6) (nI 0) = S7
          generalize hT6 : si (si (si (si (si (si T1 70 (88 + 6 * n' + 0) (nI m)) 70 (88 + 6 * n' + 1) (nI c)) 70 (88 + 6 * n' + 2) (nI hr')) 70 (88 + 6 * n' + 3) (nI hr')) 70 (88 + 6 * n' + 4) (nI d)) 70 (88 + 6 * n' + 5) mI = T6
          have sO : ∀ b, b ≠ 25 → b ≠ 26 → S7.1 b = S1.1 b := fun b h1 h2 => by subst hS7; rw [si_row h2, si_row h2, si_row h2, si_row h2, si_row h2, si_row h2, si_row h2, si_row h1]
          have s25 : ∀ j, j ≠ 4 → S7.1 25 j = S1.1 25 j := fun j hj => by subst hS7; (show gi _ _ _ = _; repeat (first | rw [tb_h] | rw [tb_n (by omega)] | rw [tb_e (by omega)])); try rfl
          have s254 : S7.1 25 4 = nI (n' + 1) := by subst hS7; (show gi _ _ _ = _; repeat (first | rw [tb_h] | rw [tb_n (by omega)] | rw [tb_e (by omega)])); try rfl
          have s26 : ∀ j, j < 7 * n' → S7.1 26 j = S1.1 26 j := fun j hj => by subst hS7; (show gi _ _ _ = _; repeat (first | rw [tb_h] | rw [tb_n (by omega)] | rw [tb_e (by omega)])); try rfl
          have tO : ∀ b, b ≠ 70 → T6.1 b = T1.1 b := fun b h1 => by subst hT6; rw [si_row h1, si_row h1, si_row h1, si_row h1, si_row h1, si_row h1]
          have t70 : ∀ j, j < 88 + 6 * n' ∨ 94 + 6 * n' ≤ j → T6.1 70 j = T1.1 70 j := fun j hj => by subst hT6; (show gi _ _ _ = _; repeat (first | rw [tb_h] | rw [tb_n (by omega)] | rw [tb_e (by omega)])); try rfl
          have e6 : gi T6 70 136 = nI n' := (t70 136 (by omega)).trans e136
          rw [e6]
          have t7 : ∀ j, j ≠ 136 → (si T6 70 136 (nI n' + 1)).1 70 j = T6.1 70 j := fun j hj => if_neg fun e => hj e.2
          refine ⟨_, _, rfl, rfl, ?_, ?_, ?_⟩
          · show nI n' = (si T6 70 136 (nI n' + 1)).1 70 136 - 1
            rw [show (si T6 70 136 (nI n' + 1)).1 70 136 = nI n' + 1 from tb_h, show (1 : Int32) = nI 1 from rfl, q_add, q_sub (by omega), Nat.add_sub_cancel]
          · show gNs S ≤ ix (S7.1 31 40)
            rw [sO 31 (by omega) (by omega)]; exact g
          · refine rel.now (fun b hb _ => sO b (by omega) (by omega)) (fun b h1 _ => ?_) ⟨fun p => ?_, n' + 1, hr', q', fun m' hm' => ?_, by omega, o3, o4, ⟨?_, s254⟩, ⟨?_, ?_⟩, ?_, ⟨?_, ?_⟩, fun r hr => ?_, fun i hi => ?_⟩
            · show (si T6 70 136 _).1 b = _
              rw [si_row h1, tO b h1]
            · show DkR N U (S1.1 13) ((si T6 70 136 (nI n' + 1)).1 70) (S7.1 27)
              rw [sO 27 (by omega) (by omega)]
              exact (hD p).ext (fun k hk => by rw [t7 k (by omega), t70 k (by omega)]) (fun _ _ => rfl) fun _ _ => rfl
            · obtain ⟨g', g1, g2, g3⟩ := o1 m' hm'
              show ∃ g, g ≤ 9 ∧ (si T6 70 136 (nI n' + 1)).1 70 (80 + m') = nI g ∧ S7.1 28 m' = nI g
              refine ⟨g', g1, ?_, ?_⟩
              · rw [t7 _ (by omega), t70 _ (by omega)]; exact g2
              · rw [sO 28 (by omega) (by omega)]; exact g3
            · show (si T6 70 136 (nI n' + 1)).1 70 136 = _
              rw [show (si T6 70 136 (nI n' + 1)).1 70 136 = nI n' + 1 from tb_h]; exact q_add n' 1
            · show (si T6 70 136 (nI n' + 1)).1 70 137 = _
              rw [t7 _ (by omega), t70 _ (by omega)]; exact o6
            · rw [s25 _ (by omega)]; exact o6'
            · show (si T6 70 136 (nI n' + 1)).1 70 138 = _
              rw [t7 _ (by omega), t70 _ (by omega), s25 _ (by omega)]; exact o7
            · show (si T6 70 136 (nI n' + 1)).1 70 139 = _
              rw [t7 _ (by omega), t70 _ (by omega)]; exact o8
            · rw [s25 _ (by omega)]; exact o8'
            · show TnR N K hr' ((si T6 70 136 (nI n' + 1)).1 70) (S7.1 26) r
              by_cases y : r = n'
              · subst y
                refine ⟨m, c, hr', hr', d, hm, hc, by omega, by omega, hd, ⟨?_, ?_⟩, ⟨?_, ?_⟩, ⟨?_, ?_⟩, ⟨?_, ?_⟩, ⟨?_, ?_⟩, Or.inl ⟨?_, ?_⟩⟩
                · rw [t7 _ (by omega)]; subst hT6; (show gi _ _ _ = _; repeat (first | rw [tb_h] | rw [tb_n (by omega)] | rw [tb_e (by omega)])); try rfl
                · subst hS7; (show gi _ _ _ = _; repeat (first | rw [tb_h] | rw [tb_n (by omega)] | rw [tb_e (by omega)])); try rfl
                · rw [t7 _ (by omega)]; subst hT6; (show gi _ _ _ = _; repeat (first | rw [tb_h] | rw [tb_n (by omega)] | rw [tb_e (by omega)])); try rfl
                · subst hS7; (show gi _ _ _ = _; repeat (first | rw [tb_h] | rw [tb_n (by omega)] | rw [tb_e (by omega)])); try rfl
                · rw [t7 _ (by omega)]; subst hT6; (show gi _ _ _ = _; repeat (first | rw [tb_h] | rw [tb_n (by omega)] | rw [tb_e (by omega)])); try rfl
                · subst hS7; (show gi _ _ _ = _; repeat (first | rw [tb_h] | rw [tb_n (by omega)] | rw [tb_e (by omega)])); try rfl
                · rw [t7 _ (by omega)]; subst hT6; (show gi _ _ _ = _; repeat (first | rw [tb_h] | rw [tb_n (by omega)] | rw [tb_e (by omega)])); try rfl
                · subst hS7; (show gi _ _ _ = _; repeat (first | rw [tb_h] | rw [tb_n (by omega)] | rw [tb_e (by omega)])); try rfl
                · rw [t7 _ (by omega)]; subst hT6; (show gi _ _ _ = _; repeat (first | rw [tb_h] | rw [tb_n (by omega)] | rw [tb_e (by omega)])); try rfl
                · subst hS7; (show gi _ _ _ = _; repeat (first | rw [tb_h] | rw [tb_n (by omega)] | rw [tb_e (by omega)])); try rfl
                · rw [t7 _ (by omega)]; subst hT6; (show gi _ _ _ = _; repeat (first | rw [tb_h] | rw [tb_n (by omega)] | rw [tb_e (by omega)])); try rfl
                · subst hS7; (show gi _ _ _ = _; repeat (first | rw [tb_h] | rw [tb_n (by omega)] | rw [tb_e (by omega)])); try rfl
              · have f := o9 r (by omega)
                have uM : ∀ k, k < 6 → (si T6 70 136 (nI n' + 1)).1 70 (88 + 6 * r + k) = T1.1 70 (88 + 6 * r + k) := fun k hk => by rw [t7 _ (by omega), t70 _ (by omega)]
                have uS : ∀ k, k < 7 → S7.1 26 (7 * r + k) = S1.1 26 (7 * r + k) := fun k hk => s26 _ (by omega)
                obtain ⟨m, c, s, t, d, i1, i2, i3, i4, i5, ⟨j1, j2⟩, ⟨k1, k2⟩, ⟨l1, l2⟩, ⟨m1, m2⟩, ⟨n1, n2⟩, o⟩ := f
                refine ⟨m, c, s, t, d, i1, i2, i3, i4, i5, ⟨(uM 0 (by omega)).trans j1, (uS 0 (by omega)).trans j2⟩, ⟨(uM 1 (by omega)).trans k1, (uS 1 (by omega)).trans k2⟩, ⟨(uM 2 (by omega)).trans l1, (uS 3 (by omega)).trans l2⟩, ⟨(uM 3 (by omega)).trans m1, (uS 2 (by omega)).trans m2⟩, ⟨(uM 4 (by omega)).trans n1, (uS 4 (by omega)).trans n2⟩, ?_⟩
                rcases o with ⟨o1, o2⟩ | ⟨u, u1, u2, u3, u4, u5⟩
                · exact Or.inl ⟨(uM 5 (by omega)).trans o1, (uS 5 (by omega)).trans o2⟩
                · exact Or.inr ⟨u, u1, u2, (uM 5 (by omega)).trans u3, (uS 5 (by omega)).trans u4, (uS 6 (by omega)).trans u5⟩
            · obtain ⟨r, m, t, r1, r2, r3, r4, r5, r6, r7⟩ := o10 i hi
              have i60 : i < 60 := by omega
              show ∃ r m t, _ ∧ _ ∧ _ ∧ (si T6 70 136 (nI n' + 1)).1 70 (140 + 3 * i) = _ ∧ (si T6 70 136 (nI n' + 1)).1 70 (140 + 3 * i + 1) = _ ∧ (si T6 70 136 (nI n' + 1)).1 70 (140 + 3 * i + 2) = _ ∧ S7.1 29 _ = _
              refine ⟨r, m, t, r1, r2, r3, ?_, ?_, ?_, ?_⟩
              · rw [t7 _ (by omega), t70 _ (by omega)]; exact r4
              · rw [t7 _ (by omega), t70 _ (by omega)]; exact r5
              · rw [t7 _ (by omega), t70 _ (by omega)]; exact r6
              · rw [sO 29 (by omega) (by omega)]; exact r7
/-- a moment with some of its trains' numbers changed -/
theorem MoN.tr {N K n h q : Nat} {M M' tr tr' gd lg ob : Nat → Int32} (h0 : MoN N K n h q M tr gd lg ob) {r : Nat} (hr : r < n) (hM : ∀ k, k < 88 + 6 * r ∨ 94 + 6 * r ≤ k → M' k = M k) (hS : ∀ k, k < 7 * r ∨ 7 * r + 7 ≤ k → tr' k = tr k) (hn : TnR N K h M' tr' r) : MoN N K n h q M' tr' gd lg ob := by
  obtain ⟨h1, h2, h3, h4, ⟨a1, a2⟩, ⟨b1, b2⟩, c, ⟨d1, d2⟩, e, f⟩ := h0
  refine ⟨fun m hm => ?_, h2, h3, h4, ⟨(hM _ (by omega)).trans a1, a2⟩, ⟨(hM _ (by omega)).trans b1, b2⟩, (hM _ (by omega)).trans c, ⟨(hM _ (by omega)).trans d1, d2⟩, fun r' hr' => ?_, fun i hi => ?_⟩
  · obtain ⟨g, g1, g2, g3⟩ := h1 m hm
    exact ⟨g, g1, (hM _ (by omega)).trans g2, g3⟩
  · by_cases y : r' = r
    · rw [y]; exact hn
    · have uM : ∀ k, k < 6 → M' (88 + 6 * r' + k) = M (88 + 6 * r' + k) := fun k hk => hM _ (by omega)
      have uS : ∀ k, k < 7 → tr' (7 * r' + k) = tr (7 * r' + k) := fun k hk => hS _ (by omega)
      obtain ⟨m, c, s, t, d, i1, i2, i3, i4, i5, ⟨j1, j2⟩, ⟨k1, k2⟩, ⟨l1, l2⟩, ⟨m1, m2⟩, ⟨n1, n2⟩, o⟩ := e r' hr'
      refine ⟨m, c, s, t, d, i1, i2, i3, i4, i5, ⟨(uM 0 (by omega)).trans j1, (uS 0 (by omega)).trans j2⟩, ⟨(uM 1 (by omega)).trans k1, (uS 1 (by omega)).trans k2⟩, ⟨(uM 2 (by omega)).trans l1, (uS 3 (by omega)).trans l2⟩, ⟨(uM 3 (by omega)).trans m1, (uS 2 (by omega)).trans m2⟩, ⟨(uM 4 (by omega)).trans n1, (uS 4 (by omega)).trans n2⟩, ?_⟩
      rcases o with ⟨o1, o2⟩ | ⟨u, u1, u2, u3, u4, u5⟩
      · exact Or.inl ⟨(uM 5 (by omega)).trans o1, (uS 5 (by omega)).trans o2⟩
      · exact Or.inr ⟨u, u1, u2, (uM 5 (by omega)).trans u3, (uS 5 (by omega)).trans u4, (uS 6 (by omega)).trans u5⟩
  · obtain ⟨r, m, t, r1, r2, r3, r4, r5, r6, r7⟩ := f i hi
    have i60 : i < 60 := by omega
    exact ⟨r, m, t, r1, r2, r3, (hM _ (by omega)).trans r4, (hM _ (by omega)).trans r5, (hM _ (by omega)).trans r6, r7⟩
theorem op_lamp (h : RelP N K F R U X w T S) (hw : w ≤ 1000) (v1 v2 : Int32) : KpOp N K F R U X w S (Dk_lamp v1 v2 S) (Md_lamp v1 v2 T) := by
  unfold Dk_lamp Md_lamp Dk_lamp_35 Md_lamp_26
  have hh := h.2.2.2.1
  obtain ⟨hD, n, hr, q, ho⟩ := hh
  rcases trainC (M := T.1 70) ho v1 with ⟨a, b⟩ | ⟨r, hrn, rfl, a, b⟩
  · rw [a, b]; exact kp_nil h
  · rw [a, b, if_neg (show ¬ nI 1 = 0 by decide), if_neg (show ¬ nI 1 = 0 by decide)]
    have n8 := ho.2.1
    have e5 : gi S 25 5 = nI hr := ho.2.2.2.2.2.1.2
    obtain ⟨m, c0, s, t, d, i1, i2, i3, i4, i5, j, k, l, m', n', o⟩ := ho.2.2.2.2.2.2.2.2.1 r hrn
    have hN : 0 < N := pos_of i1
    rcases lampC h.1 hN v2 with ⟨a, b⟩ | ⟨c, hc, hc6, rfl, a, b⟩
    · rw [a, b]; exact kp_nil h
    · rw [a, b, if_neg (show ¬ nI 1 = 0 by decide), if_neg (show ¬ nI 1 = 0 by decide), show (5 : Int32) = nI 5 from rfl, mo_of (by omega) (by omega), md_of (by omega) (by omega), q_bind]
      rcases o with ⟨o1, o2⟩ | ⟨u, u1, u2, u3, u4, u5⟩
      · have o1' : gi T 70 (88 + 6 * r + 5) = mI := o1
        have o2' : gi S 26 (7 * r + 5) = nI 0 := o2
        rw [o1', o2', if_neg (show ¬ nI 0 = 1 by decide), if_pos (show mI = -1 from rfl)]
        obtain ⟨T1, t1, t2, rel, g, k1, k2, k3, k4, k5⟩ := keep_ok h hw
        obtain ⟨cc, hcc, l1, -⟩ := lamp_S h.1 ho e5 hrn
        have e70 : T1.1 70 = T.1 70 := k2 70 (by omega) (by omega)
        have hn1 : NetR N K F T1 S := by
          have := h.1
          simp only [NetR, gi, k2 68 (by omega) (by omega)] at this ⊢; exact this
        have ho1 : MoN N K n hr q (T1.1 70) (S.1 26) (S.1 28) (S.1 29) (S.1 25) := by rw [e70]; exact ho
        obtain ⟨cc', hcc', l1', l2⟩ := lamp_S hn1 ho1 e5 hrn
        have ecc : nI cc' = nI cc := Option.some.inj (l1'.symm.trans l1)
        rw [ecc] at l2
        have l1s : Hr_lampOf (nI r) S = some (nI cc) := l1
        rw [l1s, t1, t2, q_bind, q_bind, q_bind, l2, q_bind, show (1 : Int32) = nI 1 from rfl, show (2 : Int32) = nI 2 from rfl, md_put (by omega) (by omega), q_bind]
        have e137 : gi (si T1 70 (88 + 6 * r + 1) (nI c)) 70 137 = nI hr := by
          rw [tb_n (fun e => by omega)]
          exact (congrFun e70 137).trans ho.2.2.2.2.2.1.1
        rw [e137, md_put (by omega) (by omega), q_bind]
        generalize kpS S = S1 at *
        have e5' : gi (si S1 26 (7 * r + 1) (nI c)) 25 5 = nI hr := by
          rw [tb_n (fun e => absurd e.1 (by decide))]
          exact (congrFun (k1 25 (by omega) (by omega) (by omega)) 5).trans e5
        unfold Dk_lamp_53 Mo_relight
        rw [show (1 : Int32) = nI 1 from rfl, show (3 : Int32) = nI 3 from rfl, tr_set (by omega) (by omega), q_app, q_app, e5', tr_set (by omega) (by omega), q_app, f31r_ix]
        rotate_left
        · rfl
        have hm1 := rel.2.2.2.1
        obtain ⟨hD1, n1, hr1, q1, ho2⟩ := hm1
        have en : n1 = n := by
          have x1 := ho2.2.2.2.2.1.1
          have x2 := ho.2.2.2.2.1.1
          have x3 := ho2.2.1
          rw [e70] at x1
          exact (q_eq (by omega) (by omega)).mp (x1.symm.trans x2)
        have ehr : hr1 = hr := by
          have x1 := ho2.2.2.2.2.2.1.1
          have x2 := ho.2.2.2.2.2.1.1
          have x3 := ho2.2.2.1
          have x4 := ho.2.2.1
          rw [e70] at x1
          exact (q_eq (by omega) (by omega)).mp (x1.symm.trans x2)
        subst en ehr
        obtain ⟨m, c0, s, t, d, i1, i2, i3, i4, i5, j, k, l, m', n', o⟩ := ho2.2.2.2.2.2.2.2.2.1 r hrn
        refine ⟨_, _, rfl, rfl, rfl, g, rel.now (fun b hb _ => ?_) (fun b h1 _ => ?_) ⟨fun p => ?_, n1, hr1, q1, ?_⟩⟩
        · show (si (si S1 26 _ _) 26 _ _).1 b = _
          rw [si_row (by omega), si_row (by omega)]
        · show (si (si T1 70 _ _) 70 _ _).1 b = _
          rw [si_row h1, si_row h1]
        · exact (hD1 p).ext (fun k hk => by (show gi _ _ _ = _; repeat (first | rw [tb_h] | rw [tb_n (by omega)] | rw [tb_e (by omega)])); try rfl) (fun _ _ => rfl) fun _ _ => rfl
        · have uM : ∀ k, k ≠ 88 + 6 * r + 1 → k ≠ 88 + 6 * r + 2 → (si (si T1 70 (88 + 6 * r + 1) (nI c)) 70 (88 + 6 * r + 2) (nI hr1)).1 70 k = T1.1 70 k := fun k h1 h2 => by (show gi _ _ _ = _; repeat (first | rw [tb_h] | rw [tb_n (by omega)] | rw [tb_e (by omega)])); try rfl
          have uS : ∀ k, k ≠ 7 * r + 1 → k ≠ 7 * r + 3 → (si (si S1 26 (7 * r + 1) (nI c)) 26 (7 * r + 3) (nI hr1)).1 26 k = S1.1 26 k := fun k h1 h2 => by (show gi _ _ _ = _; repeat (first | rw [tb_h] | rw [tb_n (by omega)] | rw [tb_e (by omega)])); try rfl
          refine ho2.tr hrn (fun k hk => uM k (by omega) (by omega)) (fun k hk => uS k (by omega) (by omega)) ⟨m, c, hr1, t, d, i1, hc, by omega, i4, i5, ⟨(uM _ (by omega) (by omega)).trans j.1, (uS _ (by omega) (by omega)).trans j.2⟩, ⟨?_, ?_⟩, ⟨?_, ?_⟩, ⟨(uM _ (by omega) (by omega)).trans m'.1, (uS _ (by omega) (by omega)).trans m'.2⟩, ⟨(uM _ (by omega) (by omega)).trans n'.1, (uS _ (by omega) (by omega)).trans n'.2⟩, ?_⟩
          · (show gi _ _ _ = _; repeat (first | rw [tb_h] | rw [tb_n (by omega)] | rw [tb_e (by omega)])); try rfl
          · (show gi _ _ _ = _; repeat (first | rw [tb_h] | rw [tb_n (by omega)] | rw [tb_e (by omega)])); try rfl
          · (show gi _ _ _ = _; repeat (first | rw [tb_h] | rw [tb_n (by omega)] | rw [tb_e (by omega)])); try rfl
          · (show gi _ _ _ = _; repeat (first | rw [tb_h] | rw [tb_n (by omega)] | rw [tb_e (by omega)])); try rfl
          · rcases o with ⟨p1, p2⟩ | ⟨u, u1, u2, u3, u4, u5⟩
            · exact Or.inl ⟨(uM _ (by omega) (by omega)).trans p1, (uS _ (by omega) (by omega)).trans p2⟩
            · exact Or.inr ⟨u, u1, u2, (uM _ (by omega) (by omega)).trans u3, (uS _ (by omega) (by omega)).trans u4, (uS _ (by omega) (by omega)).trans u5⟩
      · have u3' : gi T 70 (88 + 6 * r + 5) = nI u := u3
        have u4' : gi S 26 (7 * r + 5) = nI 1 := u4
        have h9 := ho.2.2.1
        rw [u3', u4', if_pos (show nI 1 = 1 from rfl), if_neg (show ¬ nI u = -1 from fun e => (q_eqm (by omega)).mp e)]
        exact kp_nil h
theorem op_show (h : RelP N K F R U X w T S) (hw : w ≤ 1000) (v1 v2 v3 : Int32) : KpOp N K F R U X w S (Dk_show v1 v2 v3 S) (Md_show v1 v2 v3 T) := by
  unfold Dk_show Md_show Dk_show_33 Md_show_24
  rcases mouthC h.1 v1 with ⟨a, b⟩ | ⟨m, hm, rfl, a, b⟩
  · rw [a, b]; exact kp_nil h
  · rw [a, b, if_neg (show ¬ nI 1 = 0 by decide), if_neg (show ¬ nI 1 = 0 by decide)]
    rcases colourC h.1 v2 with ⟨a, b⟩ | ⟨c, hc, rfl, a, b⟩
    · rw [a, b]; exact kp_nil h
    · rw [a, b, if_neg (show ¬ nI 1 = 0 by decide), if_neg (show ¬ nI 1 = 0 by decide)]
      rcases mouthC h.1 v3 with ⟨a, b⟩ | ⟨g, hg, rfl, a, b⟩
      · rw [a, b]; exact kp_nil h
      · rw [a, b, if_neg (show ¬ nI 1 = 0 by decide), if_neg (show ¬ nI 1 = 0 by decide)]
        have h8 := h.1.2.2.2.2.2.2.1
        have h5 := h.1.2.2.2.2.2.2.2.1
        have hN := pos_of hm
        have hh := h.2.2.2.1
        obtain ⟨hD, n, hr, q, ho⟩ := hh
        obtain ⟨d1, d2, d3⟩ := hD hN m c (by omega) (by omega)
        have ib : inb (0 + (5 * nI m + nI c)) 320 := by
          rw [show (0 : Int32) = nI 0 from rfl, show (5 : Int32) = nI 5 from rfl, q_mul, q_add, q_add]
          exact nI_in (by omega) (by omega)
        have ii : ix (0 + (5 * nI m + nI c)) = 5 * m + c := by
          rw [show (0 : Int32) = nI 0 from rfl, show (5 : Int32) = nI 5 from rfl, q_mul, q_add, q_add, q_ix (by omega)]; omega
        rw [if_pos ib, ii, mo_leads (by omega) (by omega)]
        have eL : ∀ S1 : Sm, Mo_lead (nI m) (nI c) (nI g) S1 = si S1 27 (5 * m + c) (nI g) := fun S1 => by
          unfold Mo_lead Dk_darkOf
          simp (disch := omega) only [q_lit, q_m1, q_m2, q_hid, q_add, q_mul, q_sub, q_le, q_lt, q_eq, q_mlt, q_mle, q_ltm, q_lem, q_meq, q_eqm, q_m2lt, q_m2le, q_ltm2, q_lem2, q_eqm2, q_mm2, q_m2m, q_mm, q_mnm, q_ix, q_inb, q_a0, q_a1, q_app, q_bind, if_true, if_false, if_pos, if_neg, q_pu]
          rw [Nat.mul_comm]
        have main : ∀ v : Int32, KpOp N K F R U X w S ((Ac_keep S).bind fun k1 => (some (v, si k1 27 (5 * m + c) (nI g))).map (f31r (k1.1 31))) ((Md_keep T).bind fun q3 => some (v, si q3 70 (5 * m + c) (nI g))) := fun v => by
          obtain ⟨T1, t1, t2, rel, g1, k1, k2, k3, k4, k5⟩ := keep_ok h hw
          have e31 : (si (kpS S) 27 (5 * m + c) (nI g)).1 31 = (kpS S).1 31 := si_row (by omega)
          rw [t1, t2, q_bind, q_bind, f31r_id e31]
          generalize kpS S = S1 at *
          obtain ⟨hD1, n1, hr1, q1, ho2⟩ := rel.2.2.2.1
          refine ⟨_, _, rfl, rfl, rfl, g1, rel.now (fun b hb _ => si_row (by omega)) (fun b h1 _ => si_row h1) ⟨fun p m' c' hm' hc' => ?_, n1, hr1, q1, ho2.ext (fun k h1 hk => if_neg fun e => by omega) (fun _ _ => rfl) (fun _ _ => rfl) (fun _ _ => rfl) fun _ _ _ => rfl⟩⟩
          obtain ⟨x1, x2⟩ := hD1 p m' c' hm' hc'
          show ((si T1 70 (5 * m + c) (nI g)).1 70 (5 * m' + c') = mI2 ∧ (si S1 27 (5 * m + c) (nI g)).1 27 (5 * m' + c') = mI ∧ _ ∨ _ ∨ _) ∧ (si T1 70 (5 * m + c) (nI g)).1 70 (40 + (5 * m' + c')) = _ ∧ _
          by_cases y : 5 * m' + c' = 5 * m + c
          · refine ⟨Or.inr (Or.inr ⟨g, hg, ?_, ?_⟩), ?_⟩
            · rw [y]; exact tb_h
            · rw [y]; exact tb_h
            · rw [show (si T1 70 (5 * m + c) (nI g)).1 70 (40 + (5 * m' + c')) = T1.1 70 (40 + (5 * m' + c')) from tb_n fun e => by omega]
              exact x2
          · rw [show (si T1 70 (5 * m + c) (nI g)).1 70 (40 + (5 * m' + c')) = T1.1 70 (40 + (5 * m' + c')) from tb_n fun e => by omega, show (si T1 70 (5 * m + c) (nI g)).1 70 (5 * m' + c') = T1.1 70 (5 * m' + c') from tb_n fun e => y e.2, show (si S1 27 (5 * m + c) (nI g)).1 27 (5 * m' + c') = S1.1 27 (5 * m' + c') from tb_n fun e => y e.2]
            exact ⟨x1, x2⟩
        have e61 : ∀ u v : Int32, (if u = -1 then -1000000 else u) = v → (fun k1 => (Dk_show_61 (nI m) (nI c) (nI g) u k1).map (f31r (k1.1 31))) = fun k1 => (some (v, si k1 27 (5 * m + c) (nI g))).map (f31r (k1.1 31)) := fun u v e => funext fun k1 => by
          unfold Dk_show_61 Dk_show_84
          rw [eL, q_app, ← e]
          split <;> rfl
        have e71 : ∀ v : Int32, ¬ v = nI g → Md_show_71 (nI g) (5 * nI m + nI c) v T = (Md_keep T).bind fun q3 => some (v, si q3 70 (5 * m + c) (nI g)) := fun v hv => by
          unfold Md_show_71
          rw [if_neg hv]
          congr 1
          funext q3
          rw [if_pos ib, ii]
        have e71' : ∀ v : Int32, v = nI g → Md_show_71 (nI g) (5 * nI m + nI c) v T = some (mI, T) := fun v hv => by
          unfold Md_show_71
          rw [if_pos hv]; rfl
        have ld := md_ld (T := T) (m := m) (c := c) (by omega) (by omega)
        unfold Md_show_52
        rcases d1 with ⟨x1, x2, -⟩ | ⟨x1, x2, -⟩ | ⟨a, ha, x1, x2⟩
        · have x1' : gi T 70 (5 * m + c) = mI2 := x1
          have x2' : gi S 27 (5 * m + c) = mI := x2
          rw [x1', x2', if_pos (show mI2 = -2 from rfl), if_neg (show ¬ (1 : Int32) = 0 by decide), if_neg (fun e => (q_meq (a := g) (by omega)).mp e), e61 mI (-1000000) (if_pos rfl), e71 (-1000000) (fun e => (q_heq (a := g) (by omega)).mp e)]
          exact main _
        · have x1' : gi T 70 (5 * m + c) = mI := x1
          have x2' : gi S 27 (5 * m + c) = nI m := x2
          rw [x1', if_neg (show ¬ (0 : Int32) ≤ mI by decide)] at ld
          rw [x1', x2', if_neg (show ¬ mI = -2 by decide), if_pos rfl, ld, q_bind]
          by_cases y : nI m = nI g
          · rw [if_pos y, e71' _ y]; exact kp_nil h
          · rw [if_neg y, e61 (nI m) (nI m) (if_neg fun e => (q_eqm (by omega)).mp e), e71 _ y]
            exact main _
        · have x1' : gi T 70 (5 * m + c) = nI a := x1
          have x2' : gi S 27 (5 * m + c) = nI a := x2
          rw [x1', if_pos (show (0 : Int32) ≤ nI a from nI_pos' (by omega))] at ld
          rw [x1', x2', if_neg (show ¬ nI a = -2 from fun e => (q_eqm2 (by omega)).mp e), if_pos rfl, ld, q_bind]
          by_cases y : nI a = nI g
          · rw [if_pos y, e71' _ y]; exact kp_nil h
          · rw [if_neg y, e61 (nI a) (nI a) (if_neg fun e => (q_eqm (by omega)).mp e), e71 _ y]
            exact main _
theorem op_guard (h : RelP N K F R U X w T S) (hw : w ≤ 1000) (v1 v2 : Int32) : KpOp N K F R U X w S (Dk_guard v1 v2 S) (Md_guard v1 v2 T) := by
  unfold Dk_guard Md_guard Dk_guard_30 Dk_guard_42 Dk_guard_51 Md_guard_27 Md_guard_30 Md_guard_55
  rcases mouthC h.1 v1 with ⟨a, b⟩ | ⟨m, hm, rfl, a, b⟩
  · rw [a, b]; exact kp_nil h
  · rw [a, b, if_neg (show ¬ nI 1 = 0 by decide), if_neg (show ¬ nI 1 = 0 by decide)]
    have h8 := h.1.2.2.2.2.2.2.1
    have hh := h.2.2.2.1
    obtain ⟨hD, n, hr, q, ho⟩ := hh
    obtain ⟨g, g9, y1, y2⟩ := ho.1 m (by omega)
    have ib : inb (80 + nI m) 320 := by
      rw [show (80 : Int32) = nI 80 from rfl, q_add]
      exact nI_in (by omega) (by omega)
    have ii : ix (80 + nI m) = 80 + m := by
      rw [show (80 : Int32) = nI 80 from rfl, q_add, q_ix (by omega)]
    have y1' : gi T 70 (80 + m) = nI g := y1
    have y2' : gi S 28 m = nI g := y2
    have eG : ∀ (v : Int32) (S1 : Sm), Mo_setGuards (nI m) v S1 = si S1 28 m v := fun v S1 => by
      unfold Mo_setGuards
      simp (disch := omega) only [q_lit, q_m1, q_m2, q_hid, q_add, q_mul, q_sub, q_le, q_lt, q_eq, q_mlt, q_mle, q_ltm, q_lem, q_meq, q_eqm, q_m2lt, q_m2le, q_ltm2, q_lem2, q_eqm2, q_mm2, q_m2m, q_mm, q_mnm, q_ix, q_inb, q_a0, q_a1, q_app, q_bind, if_true, if_false, if_pos, if_neg, q_pu]
    obtain ⟨T1, t1, t2, rel, g1, k1, k2, k3, k4, k5⟩ := keep_ok h hw
    have y3 : gi T1 70 (80 + m) = nI g := (congrFun (k2 70 (by omega) (by omega)) _).trans y1
    have e31 : ∀ v, (si (kpS S) 28 m v).1 31 = (kpS S).1 31 := fun v => si_row (by omega)
    have fin : ∀ g', g' ≤ 9 → KpOp N K F R U X w S (some (nI g', si (kpS S) 28 m (nI g'))) (some (nI g', si T1 70 (80 + m) (nI g'))) := fun g' hg' => by
      generalize kpS S = S1 at *
      obtain ⟨hD1, n1, hr1, q1, ho2⟩ := rel.2.2.2.1
      refine ⟨_, _, rfl, rfl, rfl, g1, rel.now (fun b hb _ => si_row (by omega)) (fun b h1 _ => si_row h1) ⟨fun p => ?_, n1, hr1, q1, ?_⟩⟩
      · exact (hD1 p).ext (fun k hk => if_neg fun e => by omega) (fun _ _ => rfl) fun _ _ => rfl
      · have uM : ∀ k, k ≠ 80 + m → (si T1 70 (80 + m) (nI g')).1 70 k = T1.1 70 k := fun k hk => if_neg fun e => hk e.2
        obtain ⟨h1, h2, h3, h4, ⟨a1, a2⟩, ⟨b1, b2⟩, c, ⟨d1, d2⟩, e, f⟩ := ho2
        refine ⟨fun m' hm' => ?_, h2, h3, h4, ⟨(uM _ (by omega)).trans a1, a2⟩, ⟨(uM _ (by omega)).trans b1, b2⟩, (uM _ (by omega)).trans c, ⟨(uM _ (by omega)).trans d1, d2⟩, fun r hr => ?_, fun i hi => ?_⟩
        · by_cases z : m' = m
          · subst z
            exact ⟨g', hg', tb_h, tb_h⟩
          · obtain ⟨g0, p1, p2, p3⟩ := h1 m' hm'
            refine ⟨g0, p1, (uM _ (by omega)).trans p2, ?_⟩
            exact (if_neg fun e => z e.2).trans p3
        · obtain ⟨m, c, s, t, d, i1, i2, i3, i4, i5, ⟨j1, j2⟩, ⟨k1, k2⟩, ⟨l1, l2⟩, ⟨m1, m2⟩, ⟨n1, n2⟩, o⟩ := e r hr
          refine ⟨m, c, s, t, d, i1, i2, i3, i4, i5, ⟨(uM _ (by omega)).trans j1, j2⟩, ⟨(uM _ (by omega)).trans k1, k2⟩, ⟨(uM _ (by omega)).trans l1, l2⟩, ⟨(uM _ (by omega)).trans m1, m2⟩, ⟨(uM _ (by omega)).trans n1, n2⟩, ?_⟩
          rcases o with ⟨o1, o2⟩ | ⟨u, u1, u2, u3, u4, u5⟩
          · exact Or.inl ⟨(uM _ (by omega)).trans o1, o2⟩
          · exact Or.inr ⟨u, u1, u2, (uM _ (by omega)).trans u3, u4, u5⟩
        · obtain ⟨r, m, t, r1, r2, r3, r4, r5, r6, r7⟩ := f i hi
          exact ⟨r, m, t, r1, r2, r3, (uM _ (by omega)).trans r4, (uM _ (by omega)).trans r5, (uM _ (by omega)).trans r6, r7⟩
    rw [mo_ga (by omega), y2', if_pos ib, ii, y1']
    by_cases z : v2 = 0
    · rw [if_pos z, if_pos z]
      by_cases g0 : g = 0
      · subst g0
        rw [if_pos (show nI 0 + -1 < 0 by decide), if_pos (show nI 0 = 0 from rfl)]
        exact kp_nil h
      · have eg : nI g + -1 = nI (g - 1) := q_addm (by omega)
        rw [eg, if_neg (show ¬ nI (g - 1) < 0 from nI_pos (by omega)), if_pos (show nI (g - 1) ≤ 9 from nI_le (b := 9) (by omega) (by omega)), if_neg (show ¬ nI g = 0 from fun e => g0 ((q_eq (b := 0) (by omega) (by omega)).mp e)), t1, t2, q_bind, q_bind, eG, q_app, f31r_id (e31 _), if_pos ib, if_pos z, if_pos ib, if_pos ib, y3, eg, show gi (si T1 70 (80 + m) (nI (g - 1))) 70 (80 + m) = nI (g - 1) from tb_h]
        exact fin _ (by omega)
    · rw [if_neg z, if_neg z]
      by_cases g0 : g = 9
      · subst g0
        rw [if_neg (show ¬ nI 9 + 1 < 0 by decide), if_neg (show ¬ nI 9 + 1 ≤ 9 by decide), if_pos (show nI 9 = 9 from rfl)]
        exact kp_nil h
      · have eg : nI g + 1 = nI (g + 1) := q_add g 1
        rw [eg, if_neg (show ¬ nI (g + 1) < 0 from nI_pos (by omega)), if_pos (show nI (g + 1) ≤ 9 from nI_le (b := 9) (by omega) (by omega)), if_neg (show ¬ nI g = 9 from fun e => g0 ((q_eq (b := 9) (by omega) (by omega)).mp e)), t1, t2, q_bind, q_bind, eG, q_app, f31r_id (e31 _), if_pos ib, if_neg z, if_pos ib, if_pos ib, y3, eg, show gi (si T1 70 (80 + m) (nI (g + 1))) 70 (80 + m) = nI (g + 1) from tb_h]
        exact fin _ (by omega)
end AC
