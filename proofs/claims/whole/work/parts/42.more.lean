/-! ===== more readers: astray, visits, safe, yards ===== -/
theorem cnt_t {p : Nat → Bool} {n : Nat} (h : p n = true) : cntN p (n + 1) = cntN p n + 1 := by rw [cnt_s, if_pos h]
theorem cnt_n {p : Nat → Bool} {n : Nat} (h : p n = false) : cntN p (n + 1) = cntN p n := by rw [cnt_s, h]; rfl
section ME
variable {N K F R w : Nat} {U : List Nat} {X : List (List Cl)} {T S : Sm}
theorem op_astray (h : RelP N K F R U X w T S) : ∃ v, Dk_astray S = some v ∧ Md_astray T = some v := by
  unfold Dk_astray Md_astray Dk_astray_21 Mo_trainsInside
  rcases toldC h.1 with ⟨-, a, b⟩ | ⟨hN, a, b, b'⟩
  · rw [a, b]; exact ⟨mI, rfl, rfl⟩
  · obtain ⟨-, -, -, ⟨-, n, hh, q, ho⟩, -⟩ := h
    obtain ⟨-, n8, h9, -, ⟨n1, n2⟩, -, -, -, ht, -⟩ := ho
    have e0 : gi T 70 136 = nI n := n1
    have e1 : gi S 25 4 = nI n := n2
    suffices hl : ∃ r u, lpN (Mo_trainsInside_L4 S) FU (nI 0, nI 0) = some r ∧ lpN (Md_astray_L15 T) FU (nI 0, nI 0) = some u ∧ r = u by
      obtain ⟨r, u, e1, e2, rfl⟩ := hl
      have t1 : ¬ nI 1 = 0 := by decide
      rw [a, if_neg t1, if_neg b', show (0 : Int32) = nI 0 from rfl, e1, e2]
      exact ⟨r, rfl, rfl⟩
    refine lp_rel (fun i (s t : Int32 × Int32) => s = t ∧ s.2 = nI i) n (by omega) ⟨rfl, rfl⟩ (fun i s t hi hq => ?_) (fun s t hq => ?_)
    · obtain ⟨s1, s2⟩ := s
      obtain ⟨rfl, hq⟩ := hq
      have hq : s2 = nI i := hq
      subst hq
      obtain ⟨m, c, s, t, d, -, -, -, -, -, -, -, -, -, -, hd⟩ := ht i hi
      have e2 := mo_of (S := S) (r := i) (k := 5) (by omega) (by omega)
      have e3 := md_of (T := T) (r := i) (k := 5) (by omega) (by omega)
      unfold Mo_trainsInside_L4 Md_astray_L15 Md_astray_45_L15
      rcases hd with ⟨p1, p2⟩ | ⟨u, u1, u2, p1, p2, p3⟩
      · have p1 : gi T 70 (88 + 6 * i + 5) = mI := p1
        have p2 : gi S 26 (7 * i + 5) = nI 0 := p2
        have z0 : iShl (nI 0) (nI i) = nI 0 := by rw [q_shla (by omega) (Or.inl rfl), Nat.zero_mul]
        refine Or.inl ⟨(s1 ||| nI 0, nI (i + 1)), (s1 ||| nI 0, nI (i + 1)), ?_, ?_, rfl, rfl⟩
        · simp (disch := omega) only [q_lit, q_m1, q_m2, q_hid, q_add, q_mul, q_sub, q_le, q_lt, q_eq, q_mlt, q_mle, q_ltm, q_lem, q_meq, q_eqm, q_m2lt, q_m2le, q_ltm2, q_lem2, q_eqm2, q_mm2, q_m2m, q_mm, q_mnm, q_ix, q_inb, q_a0, q_a1, q_app, q_bind, if_true, if_false, if_pos, if_neg, e1, e2, p2, z0]
        · simp (disch := omega) only [q_lit, q_m1, q_m2, q_hid, q_add, q_mul, q_sub, q_le, q_lt, q_eq, q_mlt, q_mle, q_ltm, q_lem, q_meq, q_eqm, q_m2lt, q_m2le, q_ltm2, q_lem2, q_eqm2, q_mm2, q_m2m, q_mm, q_mnm, q_ix, q_inb, q_a0, q_a1, q_app, q_bind, if_true, if_false, if_pos, if_neg, e0, e3, p1]
      · have p1 : gi T 70 (88 + 6 * i + 5) = nI u := p1
        have p2 : gi S 26 (7 * i + 5) = nI 1 := p2
        refine Or.inl ⟨(s1 ||| iShl (nI 1) (nI i), nI (i + 1)), (s1 ||| iShl (nI 1) (nI i), nI (i + 1)), ?_, ?_, rfl, rfl⟩
        · simp (disch := omega) only [q_lit, q_m1, q_m2, q_hid, q_add, q_mul, q_sub, q_le, q_lt, q_eq, q_mlt, q_mle, q_ltm, q_lem, q_meq, q_eqm, q_m2lt, q_m2le, q_ltm2, q_lem2, q_eqm2, q_mm2, q_m2m, q_mm, q_mnm, q_ix, q_inb, q_a0, q_a1, q_app, q_bind, if_true, if_false, if_pos, if_neg, e1, e2, p2]
        · simp (disch := omega) only [q_lit, q_m1, q_m2, q_hid, q_add, q_mul, q_sub, q_le, q_lt, q_eq, q_mlt, q_mle, q_ltm, q_lem, q_meq, q_eqm, q_m2lt, q_m2le, q_ltm2, q_lem2, q_eqm2, q_mm2, q_m2m, q_mm, q_mnm, q_ix, q_inb, q_a0, q_a1, q_app, q_bind, if_true, if_false, if_pos, if_neg, e0, e3, p1]
    · obtain ⟨s1, s2⟩ := s
      obtain ⟨rfl, hq⟩ := hq
      have hq : s2 = nI n := hq
      subst hq
      refine ⟨s1, s1, ?_, ?_, rfl⟩
      · unfold Mo_trainsInside_L4
        simp (disch := omega) only [q_lit, q_m1, q_m2, q_hid, q_add, q_mul, q_sub, q_le, q_lt, q_eq, q_mlt, q_mle, q_ltm, q_lem, q_meq, q_eqm, q_m2lt, q_m2le, q_ltm2, q_lem2, q_eqm2, q_mm2, q_m2m, q_mm, q_mnm, q_ix, q_inb, q_a0, q_a1, q_app, q_bind, if_true, if_false, if_pos, if_neg, e1, Nat.le_refl]
      · unfold Md_astray_L15
        simp (disch := omega) only [q_lit, q_m1, q_m2, q_hid, q_add, q_mul, q_sub, q_le, q_lt, q_eq, q_mlt, q_mle, q_ltm, q_lem, q_meq, q_eqm, q_m2lt, q_m2le, q_ltm2, q_lem2, q_eqm2, q_mm2, q_m2m, q_mm, q_mnm, q_ix, q_inb, q_a0, q_a1, q_app, q_bind, if_true, if_false, if_pos, if_neg, e0, Nat.le_refl]
theorem op_visits (h : RelP N K F R U X w T S) (v1 : Int32) : ∃ v, Dk_visits v1 S = some v ∧ Md_visits v1 T = some v := by
  unfold Dk_visits Md_visits Dk_visits_23 Mo_timesOut
  rcases mouthC h.1 v1 with ⟨a, b⟩ | ⟨g, hg, rfl, a, b⟩
  · rw [a, b]; exact ⟨mI, rfl, rfl⟩
  · have h8 := h.1.2.2.2.2.2.2.1
    obtain ⟨-, -, -, ⟨-, n, hh, q, ho⟩, -⟩ := h
    obtain ⟨-, n8, h9, hq, -, -, -, ⟨d1, d2⟩, -, hl⟩ := ho
    have e0 : gi T 70 139 = nI (min q 60) := d1
    have e1 : gi S 25 7 = nI q := d2
    have em : iMin (nI q) (nI 60) = nI (min q 60) := q_min (by omega) (by omega)
    have mlt : min q 60 ≤ 60 := Nat.min_le_right _ _
    have hx : ∃ mm : Nat → Nat, ∀ p, p < min q 60 → mm p < 8 ∧ gi T 70 (140 + 3 * p + 1) = nI (mm p) ∧ ∀ i, i = min q 60 - 1 - p → Mo_logged (nI i) (nI 1) S = nI (mm p) := by
      refine ⟨fun p => ix (gi T 70 (140 + 3 * p + 1)), fun p hp => ?_⟩
      obtain ⟨r, m, t, h1, h2, h3, p1, p2, p3, p4⟩ := hl p hp
      have g2 : gi T 70 (140 + 3 * p + 1) = nI m := p2
      show ix (gi T 70 (140 + 3 * p + 1)) < 8 ∧ gi T 70 (140 + 3 * p + 1) = nI (ix (gi T 70 (140 + 3 * p + 1))) ∧ ∀ i, i = min q 60 - 1 - p → Mo_logged (nI i) (nI 1) S = nI (ix (gi T 70 (140 + 3 * p + 1)))
      rw [g2, q_ix (by omega)]
      refine ⟨h2, rfl, fun i hi => ?_⟩
      have x1 : q - min q 60 + p = q - 1 - i := by omega
      rw [x1] at p4
      have p4' : gi S 29 ((q - 1 - i) % 60) = nI ((t * 8 + m) * 8 + r) := p4
      have m60 : (q - 1 - i) % 60 < 60 := Nat.mod_lt _ (by omega)
      have a2 : ((t * 8 + m) * 8 + r) / 8 % 8 = m := by omega
      unfold Mo_logged Mo_logged_21 Mo_logged_75 Mo_logLength
      simp (disch := omega) only [q_lit, q_m1, q_m2, q_hid, q_add, q_mul, q_sub, q_le, q_lt, q_eq, q_mlt, q_mle, q_ltm, q_lem, q_meq, q_eqm, q_m2lt, q_m2le, q_ltm2, q_lem2, q_eqm2, q_mm2, q_m2m, q_mm, q_mnm, q_ix, q_inb, q_a0, q_a1, q_app, q_bind, if_true, if_false, if_pos, if_neg, e1, em, q_rem, q_at, q_div, p4', a2]
    obtain ⟨mm, hmm⟩ := hx
    have r1 : lpN (Mo_timesOut_L4 (nI g) S) FU (0, 0) = some (nI (cntN (fun i => decide (mm (min q 60 - 1 - i) = g)) (min q 60))) := by
      refine lpN_run0 (fun i => (nI (cntN (fun i => decide (mm (min q 60 - 1 - i) = g)) i), nI i)) (min q 60) (by omega) (fun i hi => ?_) ?_ rfl
      · obtain ⟨b1, b2, b3⟩ := hmm (min q 60 - 1 - i) (by omega)
        have b3 := b3 i (by omega)
        show Mo_timesOut_L4 (nI g) S (_, _) = _
        unfold Mo_timesOut_L4 Mo_timesOut_28_L4 Mo_logLength
        have cl := cnt_le (fun i => decide (mm (min q 60 - 1 - i) = g)) i
        by_cases z : mm (min q 60 - 1 - i) = g
        · rw [cnt_t (p := fun i => decide (mm (min q 60 - 1 - i) = g)) (decide_eq_true z)]
          simp (disch := omega) only [q_lit, q_m1, q_m2, q_hid, q_add, q_mul, q_sub, q_le, q_lt, q_eq, q_mlt, q_mle, q_ltm, q_lem, q_meq, q_eqm, q_m2lt, q_m2le, q_ltm2, q_lem2, q_eqm2, q_mm2, q_m2m, q_mm, q_mnm, q_ix, q_inb, q_a0, q_a1, q_app, q_bind, if_true, if_false, if_pos, if_neg, e1, em, b3, z]
        · rw [cnt_n (p := fun i => decide (mm (min q 60 - 1 - i) = g)) (decide_eq_false z)]
          simp (disch := omega) only [q_lit, q_m1, q_m2, q_hid, q_add, q_mul, q_sub, q_le, q_lt, q_eq, q_mlt, q_mle, q_ltm, q_lem, q_meq, q_eqm, q_m2lt, q_m2le, q_ltm2, q_lem2, q_eqm2, q_mm2, q_m2m, q_mm, q_mnm, q_ix, q_inb, q_a0, q_a1, q_app, q_bind, if_true, if_false, if_pos, if_neg, e1, em, b3, z, Nat.add_zero]
      · show Mo_timesOut_L4 (nI g) S (_, _) = _
        unfold Mo_timesOut_L4 Mo_logLength
        simp (disch := omega) only [q_lit, q_m1, q_m2, q_hid, q_add, q_mul, q_sub, q_le, q_lt, q_eq, q_mlt, q_mle, q_ltm, q_lem, q_meq, q_eqm, q_m2lt, q_m2le, q_ltm2, q_lem2, q_eqm2, q_mm2, q_m2m, q_mm, q_mnm, q_ix, q_inb, q_a0, q_a1, q_app, q_bind, if_true, if_false, if_pos, if_neg, e1, em, Nat.le_refl]
    have r2 : lpN (Md_visits_L14 (nI g) T) FU (0, 0) = some (nI (cntN (fun i => decide (mm i = g)) (min q 60))) := by
      refine lpN_run0 (fun i => (nI (cntN (fun i => decide (mm i = g)) i), nI i)) (min q 60) (by omega) (fun i hi => ?_) ?_ rfl
      · obtain ⟨b1, b2, b3⟩ := hmm i (by omega)
        have i1 : ix (nI 140 + nI 3 * nI i + nI 1) = 140 + 3 * i + 1 := by simp (disch := omega) only [q_lit, q_m1, q_m2, q_hid, q_add, q_mul, q_sub, q_le, q_lt, q_eq, q_mlt, q_mle, q_ltm, q_lem, q_meq, q_eqm, q_m2lt, q_m2le, q_ltm2, q_lem2, q_eqm2, q_mm2, q_m2m, q_mm, q_mnm, q_ix, q_inb, q_a0, q_a1, q_app, q_bind, if_true, if_false, if_pos, if_neg]
        have i2 : inb (nI 140 + nI 3 * nI i + nI 1) 320 := by simp (disch := omega) only [q_lit, q_m1, q_m2, q_hid, q_add, q_mul, q_sub, q_le, q_lt, q_eq, q_mlt, q_mle, q_ltm, q_lem, q_meq, q_eqm, q_m2lt, q_m2le, q_ltm2, q_lem2, q_eqm2, q_mm2, q_m2m, q_mm, q_mnm, q_ix, q_inb, q_a0, q_a1, q_app, q_bind, if_true, if_false, if_pos, if_neg]; omega
        show Md_visits_L14 (nI g) T (_, _) = _
        unfold Md_visits_L14 Md_visits_50_L14
        by_cases z : mm i = g
        · rw [cnt_t (p := fun i => decide (mm i = g)) (decide_eq_true z)]
          simp (disch := omega) only [q_lit, q_m1, q_m2, q_hid, q_add, q_mul, q_sub, q_le, q_lt, q_eq, q_mlt, q_mle, q_ltm, q_lem, q_meq, q_eqm, q_m2lt, q_m2le, q_ltm2, q_lem2, q_eqm2, q_mm2, q_m2m, q_mm, q_mnm, q_ix, q_inb, q_a0, q_a1, q_app, q_bind, if_true, if_false, if_pos, if_neg, e0, b2, z]
        · rw [cnt_n (p := fun i => decide (mm i = g)) (decide_eq_false z)]
          simp (disch := omega) only [q_lit, q_m1, q_m2, q_hid, q_add, q_mul, q_sub, q_le, q_lt, q_eq, q_mlt, q_mle, q_ltm, q_lem, q_meq, q_eqm, q_m2lt, q_m2le, q_ltm2, q_lem2, q_eqm2, q_mm2, q_m2m, q_mm, q_mnm, q_ix, q_inb, q_a0, q_a1, q_app, q_bind, if_true, if_false, if_pos, if_neg, e0, b2, z, Nat.add_zero]
      · show Md_visits_L14 (nI g) T (_, _) = _
        unfold Md_visits_L14
        simp (disch := omega) only [q_lit, q_m1, q_m2, q_hid, q_add, q_mul, q_sub, q_le, q_lt, q_eq, q_mlt, q_mle, q_ltm, q_lem, q_meq, q_eqm, q_m2lt, q_m2le, q_ltm2, q_lem2, q_eqm2, q_mm2, q_m2m, q_mm, q_mnm, q_ix, q_inb, q_a0, q_a1, q_app, q_bind, if_true, if_false, if_pos, if_neg, e0, Nat.le_refl]
    have e3 := cnt_rev (fun i => decide (mm i = g)) (min q 60)
    rw [a, b, r1, r2, e3]
    exact ⟨_, rfl, rfl⟩
theorem pop1 : ∀ A, A < 256 → (pop A = 1 ↔ ∃ j, j < 8 ∧ A = 2 ^ j) := by decide +kernel
theorem pop_one {P : Nat → Prop} {A : Nat} (hA : A < 256) (hb : ∀ j, A.testBit j = true ↔ P j) : pop A = 1 ↔ ∃ j, j < 8 ∧ ∀ i, P i ↔ j = i := by
  rw [pop1 A hA]
  constructor
  · rintro ⟨j, hj, rfl⟩
    exact ⟨j, hj, fun i => by rw [← hb i, tb_pow, decide_eq_true_iff]⟩
  · rintro ⟨j, hj, h⟩
    exact ⟨j, hj, Nat.eq_of_testBit_eq fun i => by rw [Bool.eq_iff_iff, hb i, h i, tb_pow, decide_eq_true_iff]⟩
theorem op_safe (h : RelP N K F R U X w T S) : ∃ v, Dk_safe S = some v ∧ Md_safe T = some v := by
  unfold Dk_safe Md_safe Dk_safe_21 Wy_sameByAll
  rcases toldC h.1 with ⟨-, a, b⟩ | ⟨hN, a, b, b'⟩
  · rw [a, b]; exact ⟨mI, rfl, rfl⟩
  · obtain ⟨hP, hS, hT⟩ := way_of h hN
    have hA := n_all h.1
    have h8 := hP.1
    have h5 := hP.2.1
    have hK := hP.2.2.2.1
    have hp := pow5 h5
    have inner : ∀ m v, m < N → ∃ b, lpN (Md_safe_L30 v (nI m) T) FU (nI 1, nI 1) = some b ∧ (b = nI 1 ∧ (∀ c, c < K → Ld (T.1 70) m c = Ld (T.1 70) m 0) ∨ b = nI 0 ∧ ¬ ∀ c, c < K → Ld (T.1 70) m c = Ld (T.1 70) m 0) := by
      intro m v hm
      refine lp_inv (fun i (q : Int32 × Int32) => q.2 = nI (i + 1) ∧ (q.1 = nI 1 ∧ (∀ c, c < i + 1 → Ld (T.1 70) m c = Ld (T.1 70) m 0) ∨ q.1 = nI 0 ∧ ¬ ∀ c, c < K → Ld (T.1 70) m c = Ld (T.1 70) m 0)) (K - 1) (by omega) ⟨rfl, Or.inl ⟨rfl, fun c hc => by rw [show c = 0 by omega]⟩⟩ (fun i q hi hq => ?_) (fun q hq => ?_)
      · obtain ⟨b, ii⟩ := q
        obtain ⟨rfl, hq⟩ := hq
        have e1 := (hT.2.2 m (i + 1) hm (Or.inl (by omega))).1
        have e2 := (hT.2.2 m 0 hm (Or.inl (by omega))).1
        have l1 := (hP.2.2.2.2 m (i + 1) hm (Or.inl (by omega))).1
        have l2 := (hP.2.2.2.2 m 0 hm (Or.inl (by omega))).1
        refine Or.inl ?_
        unfold Md_safe_L30 Md_safe_65_L30 Md_safe_66_L30
        rcases hq with ⟨h1, h2⟩ | ⟨h1, h2⟩
        · have h1 : b = nI 1 := h1
          subst h1
          by_cases z : Ld (T.1 70) m (i + 1) = Ld (T.1 70) m 0
          · refine ⟨(nI 1, nI (i + 1 + 1)), ?_, rfl, Or.inl ⟨rfl, fun c hc => ?_⟩⟩
            · simp (disch := omega) only [q_lit, q_m1, q_m2, q_hid, q_add, q_mul, q_sub, q_le, q_lt, q_eq, q_mlt, q_mle, q_ltm, q_lem, q_meq, q_eqm, q_m2lt, q_m2le, q_ltm2, q_lem2, q_eqm2, q_mm2, q_m2m, q_mm, q_mnm, q_ix, q_inb, q_a0, q_a1, q_app, q_bind, if_true, if_false, if_pos, if_neg, hT.2.1, e1, e2, z]
            · by_cases y : c = i + 1
              · rw [y]; exact z
              · exact h2 c (by omega)
          · refine ⟨(nI 0, nI (i + 1 + 1)), ?_, rfl, Or.inr ⟨rfl, fun g => z (g (i + 1) (by omega))⟩⟩
            simp (disch := omega) only [q_lit, q_m1, q_m2, q_hid, q_add, q_mul, q_sub, q_le, q_lt, q_eq, q_mlt, q_mle, q_ltm, q_lem, q_meq, q_eqm, q_m2lt, q_m2le, q_ltm2, q_lem2, q_eqm2, q_mm2, q_m2m, q_mm, q_mnm, q_ix, q_inb, q_a0, q_a1, q_app, q_bind, if_true, if_false, if_pos, if_neg, hT.2.1, e1, e2, z]
        · have h1 : b = nI 0 := h1
          subst h1
          refine ⟨(nI 0, nI (i + 1 + 1)), ?_, rfl, Or.inr ⟨rfl, h2⟩⟩
          simp (disch := omega) only [q_lit, q_m1, q_m2, q_hid, q_add, q_mul, q_sub, q_le, q_lt, q_eq, q_mlt, q_mle, q_ltm, q_lem, q_meq, q_eqm, q_m2lt, q_m2le, q_ltm2, q_lem2, q_eqm2, q_mm2, q_m2m, q_mm, q_mnm, q_ix, q_inb, q_a0, q_a1, q_app, q_bind, if_true, if_false, if_pos, if_neg, hT.2.1]
      · obtain ⟨b, ii⟩ := q
        obtain ⟨rfl, hq⟩ := hq
        refine ⟨b, ?_, ?_⟩
        · unfold Md_safe_L30
          simp (disch := omega) only [q_lit, q_m1, q_m2, q_hid, q_add, q_mul, q_sub, q_le, q_lt, q_eq, q_mlt, q_mle, q_ltm, q_lem, q_meq, q_eqm, q_m2lt, q_m2le, q_ltm2, q_lem2, q_eqm2, q_mm2, q_m2m, q_mm, q_mnm, q_ix, q_inb, q_a0, q_a1, q_app, q_bind, if_true, if_false, if_pos, if_neg, hT.2.1]
        · rcases hq with ⟨h1, h2⟩ | h
          · exact Or.inl ⟨h1, fun c hc => h2 c (by omega)⟩
          · exact Or.inr h
    suffices hl : ∃ r u, lpN (Wy_sameByAll_L4 S) FU (nI 0, nI 0) = some r ∧ lpN (Md_safe_L15 T) FU (nI 0, nI 0) = some u ∧ r = u by
      obtain ⟨r, u, e1, e2, rfl⟩ := hl
      have t1 : ¬ nI 1 = 0 := by decide
      rw [a, if_neg t1, if_neg b', show (0 : Int32) = nI 0 from rfl, e1, e2]
      exact ⟨r, rfl, rfl⟩
    refine lp_rel (fun i (s t : Int32 × Int32) => s = t ∧ s.2 = nI i) N (by omega) ⟨rfl, rfl⟩ (fun i s t hi hq => ?_) (fun s t hq => ?_)
    · obtain ⟨s1, s2⟩ := s
      obtain ⟨rfl, hq⟩ := hq
      have hq : s2 = nI i := hq
      subst hq
      obtain ⟨r, e1, A, hA1, hA2, hA3⟩ := wy_bo hP hS (s := 2 ^ K - 1) (Msk.one (m := i) (by omega)) (by omega)
      subst hA2
      obtain ⟨bc, bp⟩ := bc_all A hA1
      obtain ⟨b, e2, hb⟩ := inner i s1 hi
      have sh := q_shl (m := i) (by omega)
      have key : pop A = 1 ↔ ∀ c, c < K → Ld (T.1 70) i c = Ld (T.1 70) i 0 := by
        rw [pop_one hA1 hA3]
        constructor
        · rintro ⟨j, hj, hi2⟩ c hc
          have g : ∀ c, c < K → j = Ld (T.1 70) i c := fun c hc => (hi2 _).mp ⟨i, c, hi, rfl, hc, by rw [Nat.testBit_two_pow_sub_one, decide_eq_true_iff]; exact hc, rfl⟩
          rw [← g c hc, ← g 0 hK]
        · intro g
          have l2 := (hP.2.2.2.2 i 0 hi (Or.inl hK)).1
          refine ⟨Ld (T.1 70) i 0, by omega, fun k => ⟨?_, ?_⟩⟩
          · rintro ⟨m, c, -, rfl, hc, -, rfl⟩
            exact (g c hc).symm
          · rintro rfl
            exact ⟨i, 0, hi, rfl, hK, by rw [Nat.testBit_two_pow_sub_one, decide_eq_true_iff]; exact hK, rfl⟩
      unfold Wy_sameByAll_L4 Wy_sameByAll_46_L4 Md_safe_L15 Md_safe_85_L15
      rcases hb with ⟨rfl, hb⟩ | ⟨rfl, hb⟩
      · have z := key.mpr hb
        refine Or.inl ⟨(s1 ||| nI (2 ^ i), nI (i + 1)), (s1 ||| nI (2 ^ i), nI (i + 1)), ?_, ?_, rfl, rfl⟩
        · simp (disch := omega) only [q_lit, q_m1, q_m2, q_hid, q_add, q_mul, q_sub, q_le, q_lt, q_eq, q_mlt, q_mle, q_ltm, q_lem, q_meq, q_eqm, q_m2lt, q_m2le, q_ltm2, q_lem2, q_eqm2, q_mm2, q_m2m, q_mm, q_mnm, q_ix, q_inb, q_a0, q_a1, q_app, q_bind, if_true, if_false, if_pos, if_neg, hS.1, sh, hA, e1, bc, z]
        · simp (disch := omega) only [q_lit, q_m1, q_m2, q_hid, q_add, q_mul, q_sub, q_le, q_lt, q_eq, q_mlt, q_mle, q_ltm, q_lem, q_meq, q_eqm, q_m2lt, q_m2le, q_ltm2, q_lem2, q_eqm2, q_mm2, q_m2m, q_mm, q_mnm, q_ix, q_inb, q_a0, q_a1, q_app, q_bind, if_true, if_false, if_pos, if_neg, hT.1, sh, e2]
      · have z : ¬ pop A = 1 := fun z => hb (key.mp z)
        refine Or.inl ⟨(s1 ||| nI 0, nI (i + 1)), (s1 ||| nI 0, nI (i + 1)), ?_, ?_, rfl, rfl⟩
        · simp (disch := omega) only [q_lit, q_m1, q_m2, q_hid, q_add, q_mul, q_sub, q_le, q_lt, q_eq, q_mlt, q_mle, q_ltm, q_lem, q_meq, q_eqm, q_m2lt, q_m2le, q_ltm2, q_lem2, q_eqm2, q_mm2, q_m2m, q_mm, q_mnm, q_ix, q_inb, q_a0, q_a1, q_app, q_bind, if_true, if_false, if_pos, if_neg, hS.1, sh, hA, e1, bc, z]
        · simp (disch := omega) only [q_lit, q_m1, q_m2, q_hid, q_add, q_mul, q_sub, q_le, q_lt, q_eq, q_mlt, q_mle, q_ltm, q_lem, q_meq, q_eqm, q_m2lt, q_m2le, q_ltm2, q_lem2, q_eqm2, q_mm2, q_m2m, q_mm, q_mnm, q_ix, q_inb, q_a0, q_a1, q_app, q_bind, if_true, if_false, if_pos, if_neg, hT.1, sh, e2]
    · obtain ⟨s1, s2⟩ := s
      obtain ⟨rfl, hq⟩ := hq
      have hq : s2 = nI N := hq
      subst hq
      refine ⟨s1, s1, ?_, ?_, rfl⟩
      · unfold Wy_sameByAll_L4
        simp (disch := omega) only [q_lit, q_m1, q_m2, q_hid, q_add, q_mul, q_sub, q_le, q_lt, q_eq, q_mlt, q_mle, q_ltm, q_lem, q_meq, q_eqm, q_m2lt, q_m2le, q_ltm2, q_lem2, q_eqm2, q_mm2, q_m2m, q_mm, q_mnm, q_ix, q_inb, q_a0, q_a1, q_app, q_bind, if_true, if_false, if_pos, if_neg, hS.1, Nat.le_refl]
      · unfold Md_safe_L15
        simp (disch := omega) only [q_lit, q_m1, q_m2, q_hid, q_add, q_mul, q_sub, q_le, q_lt, q_eq, q_mlt, q_mle, q_ltm, q_lem, q_meq, q_eqm, q_m2lt, q_m2le, q_ltm2, q_lem2, q_eqm2, q_mm2, q_m2m, q_mm, q_mnm, q_ix, q_inb, q_a0, q_a1, q_app, q_bind, if_true, if_false, if_pos, if_neg, hT.1, Nat.le_refl]
theorem op_yards (h : RelP N K F R U X w T S) (v1 v2 v3 : Int32) : ∃ v, Dk_yards v1 v2 v3 S = some v ∧ Md_yards v1 v2 v3 T = some v := by
  unfold Dk_yards Md_yards Dk_yards_32 Md_yards_26 Hr_yardsOf
  rcases mouthC h.1 v1 with ⟨a, b⟩ | ⟨g, hg, rfl, a, b⟩
  · rw [a, b]; exact ⟨mI, rfl, rfl⟩
  · obtain ⟨hP, hS, hT⟩ := way_of h (pos_of hg)
    have hf := n_f h.1
    obtain ⟨-, -, -, -, -, hft, h8, h5, hF, -⟩ := h.1
    rcases lampC h.1 (pos_of hg) v2 with ⟨c, d⟩ | ⟨c, hc, hc6, rfl, c', d⟩
    · rw [a, b, c, d]; exact ⟨mI, rfl, rfl⟩
    · rw [a, b, c', d]
      rcases rngG v3 0 60 (by omega) (by omega) with ⟨q, e⟩ | ⟨n, n0, hn, rfl, e⟩
      · rw [show Md_in v3 0 60 = nI 0 from e]
        refine ⟨mI, ?_, rfl⟩
        rw [if_neg (by decide), if_neg (by decide), rng_le (a := 0) (n := 60) q]; rfl
      · rw [show Md_in (nI n) 0 60 = nI 1 from e]
        have inner : ∀ y, y < N → ∃ r u, lpN (Hr_mouthOutAfter_L9 (nI c) (nI n) S) FU (nI y, nI 0, nI 0) = some r ∧ lpN (Md_comesOut_L6 (nI c) (nI n) (nI g) T) FU (nI 0, nI y) = some u ∧ ∃ m t, m < N ∧ t ≤ 100 ∧ r = (nI m, nI t) ∧ u = (nI t, nI m) := by
          intro y hy
          refine lp_rel (fun i (s : Int32 × Int32 × Int32) (u : Int32 × Int32) => ∃ m t, m < N ∧ i ≤ t ∧ t ≤ n + 9 ∧ s = (nI m, nI t, nI i) ∧ u = (nI t, nI m)) n (by omega) ⟨y, 0, hy, Nat.le_refl _, by omega, rfl, rfl⟩ (fun i s u hi hq => ?_) (fun s u hq => ?_)
          · obtain ⟨m, t, hm, ht, ht9, rfl, rfl⟩ := hq
            by_cases z : n ≤ t
            · refine Or.inr ⟨(nI m, nI t), (nI t, nI m), ?_, ?_, m, t, hm, by omega, rfl, rfl⟩
              · unfold Hr_mouthOutAfter_L9
                simp (disch := omega) only [q_lit, q_m1, q_m2, q_hid, q_add, q_mul, q_sub, q_le, q_lt, q_eq, q_mlt, q_mle, q_ltm, q_lem, q_meq, q_eqm, q_m2lt, q_m2le, q_ltm2, q_lem2, q_eqm2, q_mm2, q_m2m, q_mm, q_mnm, q_ix, q_inb, q_a0, q_a1, q_app, q_bind, if_true, if_false, if_pos, if_neg]
              · unfold Md_comesOut_L6
                simp (disch := omega) only [q_lit, q_m1, q_m2, q_hid, q_add, q_mul, q_sub, q_le, q_lt, q_eq, q_mlt, q_mle, q_ltm, q_lem, q_meq, q_eqm, q_m2lt, q_m2le, q_ltm2, q_lem2, q_eqm2, q_mm2, q_m2m, q_mm, q_mnm, q_ix, q_inb, q_a0, q_a1, q_app, q_bind, if_true, if_false, if_pos, if_neg]
            · have hlm := fd_lamp (c := c) (a := t) (F := F) hc
              obtain ⟨l1, l2, l3⟩ := hP.2.2.2.2 m _ hm hlm
              obtain ⟨s1, s2⟩ := hS.2.2 m _ hm hlm
              obtain ⟨t1, t2⟩ := hT.2.2 m _ hm hlm
              have f1 := dk_fd (c := c) (a := t) (F := F) hc6 (by omega) hF
              have f2 := md_fd (c := c) (a := t) hft hc6 (by omega) hF
              refine Or.inl ⟨(nI (Ld (T.1 70) m (fd c t F)), nI (t + Ln (T.1 70) m (fd c t F)), nI (i + 1)), (nI (t + Ln (T.1 70) m (fd c t F)), nI (Ld (T.1 70) m (fd c t F))), ?_, ?_, _, _, l1, ?_, ?_, rfl, rfl⟩
              · unfold Hr_mouthOutAfter_L9
                simp (disch := omega) only [q_lit, q_m1, q_m2, q_hid, q_add, q_mul, q_sub, q_le, q_lt, q_eq, q_mlt, q_mle, q_ltm, q_lem, q_meq, q_eqm, q_m2lt, q_m2le, q_ltm2, q_lem2, q_eqm2, q_mm2, q_m2m, q_mm, q_mnm, q_ix, q_inb, q_a0, q_a1, q_app, q_bind, if_true, if_false, if_pos, if_neg, hf, f1, s1, s2]
              · unfold Md_comesOut_L6
                simp (disch := omega) only [q_lit, q_m1, q_m2, q_hid, q_add, q_mul, q_sub, q_le, q_lt, q_eq, q_mlt, q_mle, q_ltm, q_lem, q_meq, q_eqm, q_m2lt, q_m2le, q_ltm2, q_lem2, q_eqm2, q_mm2, q_m2m, q_mm, q_mnm, q_ix, q_inb, q_a0, q_a1, q_app, q_bind, if_true, if_false, if_pos, if_neg, f2, t1, t2]
              · omega
              · omega
          · obtain ⟨m, t, hm, ht, ht9, rfl, rfl⟩ := hq
            refine ⟨(nI m, nI t), (nI t, nI m), ?_, ?_, m, t, hm, by omega, rfl, rfl⟩
            · unfold Hr_mouthOutAfter_L9
              simp (disch := omega) only [q_lit, q_m1, q_m2, q_hid, q_add, q_mul, q_sub, q_le, q_lt, q_eq, q_mlt, q_mle, q_ltm, q_lem, q_meq, q_eqm, q_m2lt, q_m2le, q_ltm2, q_lem2, q_eqm2, q_mm2, q_m2m, q_mm, q_mnm, q_ix, q_inb, q_a0, q_a1, q_app, q_bind, if_true, if_false, if_pos, if_neg, Nat.le_refl]
            · unfold Md_comesOut_L6
              simp (disch := omega) only [q_lit, q_m1, q_m2, q_hid, q_add, q_mul, q_sub, q_le, q_lt, q_eq, q_mlt, q_mle, q_ltm, q_lem, q_meq, q_eqm, q_m2lt, q_m2le, q_ltm2, q_lem2, q_eqm2, q_mm2, q_m2m, q_mm, q_mnm, q_ix, q_inb, q_a0, q_a1, q_app, q_bind, if_true, if_false, if_pos, if_neg]
        have both : ∀ y, y < N → (Hr_mouthOutAfter (nI y) (nI c) (nI n) S = some (nI g) ∧ Md_comesOut (nI y) (nI c) (nI n) (nI g) T = some (nI 1)) ∨ ∃ z, Hr_mouthOutAfter (nI y) (nI c) (nI n) S = some z ∧ ¬ z = nI g ∧ Md_comesOut (nI y) (nI c) (nI n) (nI g) T = some (nI 0) := by
          intro y hy
          obtain ⟨r, u, e1, e2, m, t, hm, ht, rfl, rfl⟩ := inner y hy
          unfold Hr_mouthOutAfter Hr_mouthOutAfter_83 Md_comesOut Md_comesOut_64 Md_comesOut_65
          rw [show (0 : Int32) = nI 0 from rfl, e1, e2]
          by_cases z : t = n
          · subst z
            by_cases x : m = g
            · subst x
              refine Or.inl ⟨?_, ?_⟩ <;> simp (disch := omega) only [q_lit, q_m1, q_m2, q_hid, q_add, q_mul, q_sub, q_le, q_lt, q_eq, q_mlt, q_mle, q_ltm, q_lem, q_meq, q_eqm, q_m2lt, q_m2le, q_ltm2, q_lem2, q_eqm2, q_mm2, q_m2m, q_mm, q_mnm, q_ix, q_inb, q_a0, q_a1, q_app, q_bind, if_true, if_false, if_pos, if_neg]
            · refine Or.inr ⟨nI m, ?_, ?_, ?_⟩
              · simp (disch := omega) only [q_lit, q_m1, q_m2, q_hid, q_add, q_mul, q_sub, q_le, q_lt, q_eq, q_mlt, q_mle, q_ltm, q_lem, q_meq, q_eqm, q_m2lt, q_m2le, q_ltm2, q_lem2, q_eqm2, q_mm2, q_m2m, q_mm, q_mnm, q_ix, q_inb, q_a0, q_a1, q_app, q_bind, if_true, if_false, if_pos, if_neg]
              · rw [q_eq (by omega) (by omega)]; exact x
              · simp (disch := omega) only [q_lit, q_m1, q_m2, q_hid, q_add, q_mul, q_sub, q_le, q_lt, q_eq, q_mlt, q_mle, q_ltm, q_lem, q_meq, q_eqm, q_m2lt, q_m2le, q_ltm2, q_lem2, q_eqm2, q_mm2, q_m2m, q_mm, q_mnm, q_ix, q_inb, q_a0, q_a1, q_app, q_bind, if_true, if_false, if_pos, if_neg, x]
          · refine Or.inr ⟨mI, ?_, ?_, ?_⟩
            · simp (disch := omega) only [q_lit, q_m1, q_m2, q_hid, q_add, q_mul, q_sub, q_le, q_lt, q_eq, q_mlt, q_mle, q_ltm, q_lem, q_meq, q_eqm, q_m2lt, q_m2le, q_ltm2, q_lem2, q_eqm2, q_mm2, q_m2m, q_mm, q_mnm, q_ix, q_inb, q_a0, q_a1, q_app, q_bind, if_true, if_false, if_pos, if_neg, z]
            · rw [q_meq (by omega)]; exact id
            · simp (disch := omega) only [q_lit, q_m1, q_m2, q_hid, q_add, q_mul, q_sub, q_le, q_lt, q_eq, q_mlt, q_mle, q_ltm, q_lem, q_meq, q_eqm, q_m2lt, q_m2le, q_ltm2, q_lem2, q_eqm2, q_mm2, q_m2m, q_mm, q_mnm, q_ix, q_inb, q_a0, q_a1, q_app, q_bind, if_true, if_false, if_pos, if_neg, z]
        suffices hl : ∃ r u, lpN (Hr_yardsOf_L6 (nI g) (nI c) (nI n) S) FU (nI 0, nI 0) = some r ∧ lpN (Md_yards_L34 (nI g) (nI c) (nI n) T) FU (nI 0, nI 0) = some u ∧ r = u by
          obtain ⟨r, u, e1, e2, rfl⟩ := hl
          refine ⟨r, ?_, ?_⟩
          · simp (disch := omega) only [q_lit, q_m1, q_m2, q_hid, q_add, q_mul, q_sub, q_le, q_lt, q_eq, q_mlt, q_mle, q_ltm, q_lem, q_meq, q_eqm, q_m2lt, q_m2le, q_ltm2, q_lem2, q_eqm2, q_mm2, q_m2m, q_mm, q_mnm, q_ix, q_inb, q_a0, q_a1, q_app, q_bind, if_true, if_false, if_pos, if_neg, e1, Nat.zero_le]
          · simp (disch := omega) only [q_lit, q_m1, q_m2, q_hid, q_add, q_mul, q_sub, q_le, q_lt, q_eq, q_mlt, q_mle, q_ltm, q_lem, q_meq, q_eqm, q_m2lt, q_m2le, q_ltm2, q_lem2, q_eqm2, q_mm2, q_m2m, q_mm, q_mnm, q_ix, q_inb, q_a0, q_a1, q_app, q_bind, if_true, if_false, if_pos, if_neg, e2]
        refine lp_rel (fun i (s t : Int32 × Int32) => s = t ∧ s.2 = nI i ∧ ∃ A, s.1 = nI A) N (by omega) ⟨rfl, rfl, 0, rfl⟩ (fun i s t hi hq => ?_) (fun s t hq => ?_)
        · obtain ⟨s1, s2⟩ := s
          obtain ⟨rfl, hq, A, hA⟩ := hq
          have hq : s2 = nI i := hq
          have hA : s1 = nI A := hA
          subst hq
          subst hA
          have sh := q_shl (m := i) (by omega)
          unfold Hr_yardsOf_L6 Hr_yardsOf_39_L6 Md_yards_L34 Md_yards_67_L34
          rcases both i hi with ⟨e1, e2⟩ | ⟨z, e1, hz, e2⟩
          · refine Or.inl ⟨(nI (A ||| 2 ^ i), nI (i + 1)), (nI (A ||| 2 ^ i), nI (i + 1)), ?_, ?_, rfl, rfl, _, rfl⟩
            · simp (disch := omega) only [q_lit, q_m1, q_m2, q_hid, q_add, q_mul, q_sub, q_le, q_lt, q_eq, q_mlt, q_mle, q_ltm, q_lem, q_meq, q_eqm, q_m2lt, q_m2le, q_ltm2, q_lem2, q_eqm2, q_mm2, q_m2m, q_mm, q_mnm, q_ix, q_inb, q_a0, q_a1, q_app, q_bind, if_true, if_false, if_pos, if_neg, hS.1, e1, sh, q_or]
            · simp (disch := omega) only [q_lit, q_m1, q_m2, q_hid, q_add, q_mul, q_sub, q_le, q_lt, q_eq, q_mlt, q_mle, q_ltm, q_lem, q_meq, q_eqm, q_m2lt, q_m2le, q_ltm2, q_lem2, q_eqm2, q_mm2, q_m2m, q_mm, q_mnm, q_ix, q_inb, q_a0, q_a1, q_app, q_bind, if_true, if_false, if_pos, if_neg, hT.1, e2, sh, q_or]
          · refine Or.inl ⟨(nI A, nI (i + 1)), (nI A, nI (i + 1)), ?_, ?_, rfl, rfl, _, rfl⟩
            · simp (disch := omega) only [q_lit, q_m1, q_m2, q_hid, q_add, q_mul, q_sub, q_le, q_lt, q_eq, q_mlt, q_mle, q_ltm, q_lem, q_meq, q_eqm, q_m2lt, q_m2le, q_ltm2, q_lem2, q_eqm2, q_mm2, q_m2m, q_mm, q_mnm, q_ix, q_inb, q_a0, q_a1, q_app, q_bind, if_true, if_false, if_pos, if_neg, hS.1, e1, hz]
            · simp (disch := omega) only [q_lit, q_m1, q_m2, q_hid, q_add, q_mul, q_sub, q_le, q_lt, q_eq, q_mlt, q_mle, q_ltm, q_lem, q_meq, q_eqm, q_m2lt, q_m2le, q_ltm2, q_lem2, q_eqm2, q_mm2, q_m2m, q_mm, q_mnm, q_ix, q_inb, q_a0, q_a1, q_app, q_bind, if_true, if_false, if_pos, if_neg, hT.1, e2, q_or, Nat.or_zero]
        · obtain ⟨s1, s2⟩ := s
          obtain ⟨rfl, hq, A, hA⟩ := hq
          have hq : s2 = nI N := hq
          subst hq
          refine ⟨s1, s1, ?_, ?_, rfl⟩
          · unfold Hr_yardsOf_L6
            simp (disch := omega) only [q_lit, q_m1, q_m2, q_hid, q_add, q_mul, q_sub, q_le, q_lt, q_eq, q_mlt, q_mle, q_ltm, q_lem, q_meq, q_eqm, q_m2lt, q_m2le, q_ltm2, q_lem2, q_eqm2, q_mm2, q_m2m, q_mm, q_mnm, q_ix, q_inb, q_a0, q_a1, q_app, q_bind, if_true, if_false, if_pos, if_neg, hS.1, Nat.le_refl]
          · unfold Md_yards_L34
            simp (disch := omega) only [q_lit, q_m1, q_m2, q_hid, q_add, q_mul, q_sub, q_le, q_lt, q_eq, q_mlt, q_mle, q_ltm, q_lem, q_meq, q_eqm, q_m2lt, q_m2le, q_ltm2, q_lem2, q_eqm2, q_mm2, q_m2m, q_mm, q_mnm, q_ix, q_inb, q_a0, q_a1, q_app, q_bind, if_true, if_false, if_pos, if_neg, hT.1, Nat.le_refl]
end ME
