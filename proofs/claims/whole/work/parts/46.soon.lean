/-! ===== soonest, unseen ===== -/
theorem areC {N K F : Nat} {T S : Sm} (h : NetR N K F T S) (v u s : Int32) : (Dk_areAsked v u s S = nI 0 ∧ (Md_areMouths v u T = nI 0 ∨ Md_areMouths v u T = nI 1 ∧ Md_isSet s T = nI 0)) ∨ ∃ m g k, m < N ∧ g < N ∧ 0 < k ∧ k < 2 ^ K ∧ v = nI m ∧ u = nI g ∧ s = nI k ∧ Dk_areAsked v u s S = nI 1 ∧ Md_areMouths v u T = nI 1 ∧ Md_isSet s T = nI 1 := by
  unfold Dk_areAsked Dk_areAsked_37 Dk_areAsked_38
  rcases mouthsC h v u with ⟨a, b⟩ | ⟨m, g, hm, hg, rfl, rfl, a, b, c⟩
  · refine Or.inl ⟨?_, Or.inl b⟩
    rcases a with a | ⟨a, a'⟩
    · rw [a]; rfl
    · rw [a, a']; rfl
  · rcases setC h (pos_of hm) s with ⟨d, e⟩ | ⟨k, hk0, hk, rfl, d, e⟩
    · refine Or.inl ⟨?_, Or.inr ⟨c, e⟩⟩
      rw [a, b, d]; rfl
    · refine Or.inr ⟨m, g, k, hm, hg, hk0, hk, rfl, rfl, rfl, ?_, c, e⟩
      rw [a, b, d]; rfl
section SU
variable {N K F R w : Nat} {U : List Nat} {X : List (List Cl)} {T S : Sm}
theorem hours_S (h : RelP N K F R U X w T S) (hN : 0 < N) : (∀ S1, SamS S S1 → WyS N K (Ld (T.1 70)) (Ln (T.1 70)) S1) ∧ (∀ T1, SamT T T1 → WyT N K (Ld (T.1 70)) (Ln (T.1 70)) T1) ∧ (∀ m o, m < N → o < K → Ln (T.1 70) m o ≤ 99) ∧ CosS N K (Ln (T.1 70)) 0 S ∧ CosT N K (Ln (T.1 70)) 0 T := by
  have hP := (way_of h hN).1
  have a : ∀ S1, SamS S S1 → WyS N K (Ld (T.1 70)) (Ln (T.1 70)) S1 := fun S1 g => (way_of (h.same g (SamT.rfl T)) hN).2.1
  have b : ∀ T1, SamT T T1 → WyT N K (Ld (T.1 70)) (Ln (T.1 70)) T1 := fun T1 g => by
    have := (way_of (h.same (SamS.rfl S) g) hN).2.2
    rwa [g.row 70 fun _ => rfl] at this
  refine ⟨a, b, fun m o h1 h2 => by have := hP.2.2.2.2 m o h1 (Or.inl h2); omega, fun m c S1 hm hc g => ⟨S1, ?_, SamS.rfl _, rfl⟩, fun m c T1 hm hc g => ⟨T1, ?_, SamT.rfl _, rfl⟩⟩
  · rw [if_neg (by decide), ((a S1 g).2.2 m c hm (Or.inl hc)).2]
  · unfold Md_costOf Md_costOf_19
    rw [if_pos rfl, ((b T1 g).2.2 m c hm (Or.inl hc)).2]; rfl
theorem far_fr {S2 : Sm} {m v : Nat} (hm : m < 8) (h : gi S2 38 m = nI v) (hv : v ≤ 1000000) : Wy_farFrom (nI m) S2 = if v = 1000000 then mI else nI v := by
  unfold Wy_farFrom Wy_farFrom_25
  by_cases x : v = 1000000
  · simp (disch := omega) only [q_lit, q_m1, q_m2, q_hid, q_add, q_mul, q_sub, q_le, q_lt, q_eq, q_mlt, q_mle, q_ltm, q_lem, q_meq, q_eqm, q_m2lt, q_m2le, q_ltm2, q_lem2, q_eqm2, q_mm2, q_m2m, q_mm, q_mnm, q_ix, q_inb, q_a0, q_a1, q_app, q_bind, if_true, if_false, if_pos, if_neg, q_at, h, x, Nat.le_refl]
  · simp (disch := omega) only [q_lit, q_m1, q_m2, q_hid, q_add, q_mul, q_sub, q_le, q_lt, q_eq, q_mlt, q_mle, q_ltm, q_lem, q_meq, q_eqm, q_m2lt, q_m2le, q_ltm2, q_lem2, q_eqm2, q_mm2, q_m2m, q_mm, q_mnm, q_ix, q_inb, q_a0, q_a1, q_app, q_bind, if_true, if_false, if_pos, if_neg, q_at, h, x]
theorem op_soonest (h : RelP N K F R U X w T S) (v1 v2 v3 v4 : Int32) : ∃ q p, Dk_soonest v1 v2 v3 v4 S = some q ∧ Md_soonest v1 v2 v3 v4 T = some p ∧ q.1 = p.1 ∧ SamS S q.2 ∧ SamT T p.2 := by
  unfold Dk_soonest Md_soonest Dk_soonest_21 Dk_soonest_51 Md_soonest_27
  rcases areC h.1 v1 v2 v3 with ⟨a, b⟩ | ⟨m, g, s, hm, hg, hs0, hs, rfl, rfl, rfl, a, b, c⟩
  · rw [a]
    refine ⟨(mI, S), (mI, T), rfl, ?_, rfl, SamS.rfl S, SamT.rfl T⟩
    rcases b with b | ⟨b, b'⟩
    · rw [b]; rfl
    · rw [b, b']; rfl
  · rw [a, b, c]
    have t1 : ¬ nI 1 = 0 := by decide
    rcases rngG v4 0 1 (by omega) (by omega) with ⟨q, e⟩ | ⟨n, -, hn, rfl, e⟩
    · rw [show Md_in v4 0 1 = nI 0 from e, if_neg t1, rng_le (a := 0) (n := 1) q]
      exact ⟨(mI, S), (mI, T), rfl, rfl, rfl, SamS.rfl S, SamT.rfl T⟩
    · rw [show Md_in (nI n) 0 1 = nI 1 from e, if_neg t1, if_neg t1, if_neg t1, if_neg t1]
      have hN := pos_of hm
      obtain ⟨hP, -, -⟩ := way_of h hN
      obtain ⟨hW, hV, hC, hcS, hcT⟩ := hours_S h hN
      have h8 := hP.1
      have h5 := hP.2.1
      have hs32 := set_lt h5 hs
      obtain ⟨S2, e1, k1, f, k2, k3⟩ := wy_meas hP hW hC hcS (z := nI 0) Msk.none hs32 hg
      obtain ⟨T2, e2, l1, f', l2, l3⟩ := md_away hP hV hC hcT (z := nI 0) Msk.none hs32 hg
      have e1 : Wy_measure (nI g) (nI s) 0 0 S = some S2 := e1
      have e2 : Md_layAway (nI g) (nI s) 0 0 T = some T2 := e2
      have same : ∀ j, j < N → f' j = f j := fun j hj => (l3 j hj).uniq (k3 j hj)
      obtain ⟨k2m, k2l⟩ := k2 m (by omega)
      have l2m := (l2 m (by omega)).1
      rw [same m hm] at l2m
      have c1 : ¬ nI n < 0 := nI_pos (by omega)
      have c2 : nI n ≤ 1 := nI_le (b := 1) hn (by omega)
      have ib : inb (nI m) 8 := nI_in (by omega) (by omega)
      have im : ix (nI m) = m := q_ix (by omega)
      rw [if_neg c1, if_pos c2, e2]
      unfold Wy_fewestHours Wy_firstOfSoonest Md_soonest_54 Md_soonest_76
      rw [e1]
      have fe := far_fr (by omega) k2m k2l
      show ∃ q p, _ ∧ (if inb (nI m) 8 then (if gi T2 76 (ix (nI m)) = 1000000 then _ else _) else none) = _ ∧ _
      by_cases n0 : n = 0
      · subst n0
        refine ⟨(if f m = 1000000 then mI else nI (f m), S2), (if f m = 1000000 then mI else nI (f m), T2), ?_, ?_, rfl, k1, l1⟩
        · rw [if_pos (show nI 0 = 0 from rfl)]
          show some (Wy_farFrom (nI m) S2, S2) = _
          rw [fe]
        · rw [if_pos ib, im, l2m, if_pos (show nI 0 = 0 from rfl)]
          by_cases x : f m = 1000000
          · simp (disch := omega) only [q_lit, q_m1, q_m2, q_hid, q_add, q_mul, q_sub, q_le, q_lt, q_eq, q_mlt, q_mle, q_ltm, q_lem, q_meq, q_eqm, q_m2lt, q_m2le, q_ltm2, q_lem2, q_eqm2, q_mm2, q_m2m, q_mm, q_mnm, q_ix, q_inb, q_a0, q_a1, q_app, q_bind, if_true, if_false, if_pos, if_neg, x]
          · simp (disch := omega) only [q_lit, q_m1, q_m2, q_hid, q_add, q_mul, q_sub, q_le, q_lt, q_eq, q_mlt, q_mle, q_ltm, q_lem, q_meq, q_eqm, q_m2lt, q_m2le, q_ltm2, q_lem2, q_eqm2, q_mm2, q_m2m, q_mm, q_mnm, q_ix, q_inb, q_a0, q_a1, q_app, q_bind, if_true, if_false, if_pos, if_neg, x]
      · have n1 : n = 1 := by omega
        subst n1
        have hW2 := hW S2 k1
        have hV2 := hV T2 l1
        suffices hl : ∃ r u, lpN (Wy_firstOfSoonest_L11 (nI m) (nI g) (nI s) S2) FU (nI 0) = some r ∧ lpN (Md_soonest_L80 (nI m) (nI g) (nI s) T2) FU (nI 0) = some u ∧ r = u ∧ (f m = 1000000 → r = .inr ()) by
          obtain ⟨r, u, e3, e4, rfl, h5⟩ := hl
          refine ⟨(Sum.elim (fun a => a) (fun _ => mI) r, S2), (Sum.elim (fun a => a) (fun _ => mI) r, T2), ?_, ?_, rfl, k1, l1⟩
          · rw [if_neg (show ¬ nI 1 = 0 by decide)]
            show ((lpN (Wy_firstOfSoonest_L11 (nI m) (nI g) (nI s) S2) FU 0).bind _).bind _ = _
            rw [show (0 : Int32) = nI 0 from rfl, e3]
            cases r <;> rfl
          · rw [if_pos ib, im, l2m]
            by_cases x : f m = 1000000
            · rw [x, if_pos (show nI 1000000 = 1000000 from rfl), if_pos ib, if_pos (show nI 1000000 = 1000000 from rfl), h5 x]; rfl
            · have x' : ¬ nI (f m) = 1000000 := fun e => x ((q_eq (by omega) (by omega)).mp e)
              rw [if_neg x', if_neg (show ¬ nI 1 = 0 by decide), show (0 : Int32) = nI 0 from rfl, e4]
              cases r <;> rfl
        refine lp_rel (fun i (s t : Int32) => s = t ∧ s = nI i) K (by omega) ⟨rfl, rfl⟩ (fun i s' t hi hq => ?_) (fun s' t hq => ?_)
        · obtain ⟨rfl, rfl⟩ := hq
          unfold Wy_firstOfSoonest_L11 Wy_firstOfSoonest_77_L11 Md_soonest_L80 Md_soonest_137_L80
          by_cases x : m = g
          · refine Or.inr ⟨.inr (), .inr (), ?_, ?_, rfl, fun _ => rfl⟩
            · simp (disch := omega) only [q_lit, q_m1, q_m2, q_hid, q_add, q_mul, q_sub, q_le, q_lt, q_eq, q_mlt, q_mle, q_ltm, q_lem, q_meq, q_eqm, q_m2lt, q_m2le, q_ltm2, q_lem2, q_eqm2, q_mm2, q_m2m, q_mm, q_mnm, q_ix, q_inb, q_a0, q_a1, q_app, q_bind, if_true, if_false, if_pos, if_neg, hW2.2.1, x]
            · simp (disch := omega) only [q_lit, q_m1, q_m2, q_hid, q_add, q_mul, q_sub, q_le, q_lt, q_eq, q_mlt, q_mle, q_ltm, q_lem, q_meq, q_eqm, q_m2lt, q_m2le, q_ltm2, q_lem2, q_eqm2, q_mm2, q_m2m, q_mm, q_mnm, q_ix, q_inb, q_a0, q_a1, q_app, q_bind, if_true, if_false, if_pos, if_neg, x]
          · by_cases t : s.testBit i = true
            · have t1 := set_h1 (by omega) (by omega) t
              have t2 : Md_has (nI s) (nI i) = nI 1 := t1
              have a1 := hW2.2.2 m i hm (Or.inl hi)
              have a2 := hV2.2.2 m i hm (Or.inl hi)
              obtain ⟨b1, b2, b3⟩ := hP.2.2.2.2 m i hm (Or.inl hi)
              obtain ⟨d1, d2⟩ := k2 (Ld (T.1 70) m i) (by omega)
              have d3 := (l2 (Ld (T.1 70) m i) (by omega)).1
              rw [same _ b1] at d3
              have d3c : gi T2 76 (Ld (T.1 70) m i) = nI (f (Ld (T.1 70) m i)) := d3
              by_cases y : Ln (T.1 70) m i + f (Ld (T.1 70) m i) = f m
              · have y' : f (Ld (T.1 70) m i) + Ln (T.1 70) m i = f m := by omega
                refine Or.inr ⟨.inl (nI i), .inl (nI i), ?_, ?_, rfl, fun z => ?_⟩
                · simp (disch := omega) only [q_lit, q_m1, q_m2, q_hid, q_add, q_mul, q_sub, q_le, q_lt, q_eq, q_mlt, q_mle, q_ltm, q_lem, q_meq, q_eqm, q_m2lt, q_m2le, q_ltm2, q_lem2, q_eqm2, q_mm2, q_m2m, q_mm, q_mnm, q_ix, q_inb, q_a0, q_a1, q_app, q_bind, if_true, if_false, if_pos, if_neg, hW2.2.1, x, t1, a1.1, a1.2, q_at, d1, k2m, y]
                · simp (disch := omega) only [q_lit, q_m1, q_m2, q_hid, q_add, q_mul, q_sub, q_le, q_lt, q_eq, q_mlt, q_mle, q_ltm, q_lem, q_meq, q_eqm, q_m2lt, q_m2le, q_ltm2, q_lem2, q_eqm2, q_mm2, q_m2m, q_mm, q_mnm, q_ix, q_inb, q_a0, q_a1, q_app, q_bind, if_true, if_false, if_pos, if_neg, hV2.2.1, x, t2, a2.1, a2.2, d3c, l2m, y']
                · exfalso
                  have lt : f (Ld (T.1 70) m i) < 1000000 := by omega
                  rcases k3 _ b1 with ⟨q1, q2⟩ | ⟨q1, ⟨k, q2⟩, q3⟩
                  · omega
                  · rcases k3 m hm with ⟨p1, p2⟩ | ⟨p1, p2, p3⟩
                    · exact p2 (k + 1) _ ⟨i, _, hi, t, Or.inr id, q2, rfl⟩
                    · omega
              · have y' : ¬ f (Ld (T.1 70) m i) + Ln (T.1 70) m i = f m := by omega
                refine Or.inl ⟨nI (i + 1), nI (i + 1), ?_, ?_, rfl, rfl⟩
                · simp (disch := omega) only [q_lit, q_m1, q_m2, q_hid, q_add, q_mul, q_sub, q_le, q_lt, q_eq, q_mlt, q_mle, q_ltm, q_lem, q_meq, q_eqm, q_m2lt, q_m2le, q_ltm2, q_lem2, q_eqm2, q_mm2, q_m2m, q_mm, q_mnm, q_ix, q_inb, q_a0, q_a1, q_app, q_bind, if_true, if_false, if_pos, if_neg, hW2.2.1, x, t1, a1.1, a1.2, q_at, d1, k2m, y]
                · simp (disch := omega) only [q_lit, q_m1, q_m2, q_hid, q_add, q_mul, q_sub, q_le, q_lt, q_eq, q_mlt, q_mle, q_ltm, q_lem, q_meq, q_eqm, q_m2lt, q_m2le, q_ltm2, q_lem2, q_eqm2, q_mm2, q_m2m, q_mm, q_mnm, q_ix, q_inb, q_a0, q_a1, q_app, q_bind, if_true, if_false, if_pos, if_neg, hV2.2.1, x, t2, a2.1, a2.2, d3c, l2m, y']
            · have t0 := set_h0 (by omega) (by omega) t
              have t2 : Md_has (nI s) (nI i) = nI 0 := t0
              refine Or.inl ⟨nI (i + 1), nI (i + 1), ?_, ?_, rfl, rfl⟩
              · simp (disch := omega) only [q_lit, q_m1, q_m2, q_hid, q_add, q_mul, q_sub, q_le, q_lt, q_eq, q_mlt, q_mle, q_ltm, q_lem, q_meq, q_eqm, q_m2lt, q_m2le, q_ltm2, q_lem2, q_eqm2, q_mm2, q_m2m, q_mm, q_mnm, q_ix, q_inb, q_a0, q_a1, q_app, q_bind, if_true, if_false, if_pos, if_neg, hW2.2.1, x, t0]
              · simp (disch := omega) only [q_lit, q_m1, q_m2, q_hid, q_add, q_mul, q_sub, q_le, q_lt, q_eq, q_mlt, q_mle, q_ltm, q_lem, q_meq, q_eqm, q_m2lt, q_m2le, q_ltm2, q_lem2, q_eqm2, q_mm2, q_m2m, q_mm, q_mnm, q_ix, q_inb, q_a0, q_a1, q_app, q_bind, if_true, if_false, if_pos, if_neg, hV2.2.1, x, t2]
        · obtain ⟨rfl, rfl⟩ := hq
          refine ⟨.inr (), .inr (), ?_, ?_, rfl, fun _ => rfl⟩
          · unfold Wy_firstOfSoonest_L11
            simp (disch := omega) only [q_lit, q_m1, q_m2, q_hid, q_add, q_mul, q_sub, q_le, q_lt, q_eq, q_mlt, q_mle, q_ltm, q_lem, q_meq, q_eqm, q_m2lt, q_m2le, q_ltm2, q_lem2, q_eqm2, q_mm2, q_m2m, q_mm, q_mnm, q_ix, q_inb, q_a0, q_a1, q_app, q_bind, if_true, if_false, if_pos, if_neg, hW2.2.1, Nat.le_refl]
          · unfold Md_soonest_L80
            by_cases x : m = g
            · simp (disch := omega) only [q_lit, q_m1, q_m2, q_hid, q_add, q_mul, q_sub, q_le, q_lt, q_eq, q_mlt, q_mle, q_ltm, q_lem, q_meq, q_eqm, q_m2lt, q_m2le, q_ltm2, q_lem2, q_eqm2, q_mm2, q_m2m, q_mm, q_mnm, q_ix, q_inb, q_a0, q_a1, q_app, q_bind, if_true, if_false, if_pos, if_neg, x]
            · simp (disch := omega) only [q_lit, q_m1, q_m2, q_hid, q_add, q_mul, q_sub, q_le, q_lt, q_eq, q_mlt, q_mle, q_ltm, q_lem, q_meq, q_eqm, q_m2lt, q_m2le, q_ltm2, q_lem2, q_eqm2, q_mm2, q_m2m, q_mm, q_mnm, q_ix, q_inb, q_a0, q_a1, q_app, q_bind, if_true, if_false, if_pos, if_neg, x, hV2.2.1, Nat.le_refl]
theorem both_guarded (h : RelP N K F R U X w T S) : ∃ x P, Wy_guarded S = some x ∧ Md_guarded T = some x ∧ Msk P x := by
  have h8 := h.1.2.2.2.2.2.2.1
  have hm := n_m h.1
  have hm2 := h.1.2.2.2.1
  obtain ⟨-, -, -, ⟨-, n, hh, q, hg, -⟩, -⟩ := h
  suffices hl : ∃ r u, lpN (Wy_guarded_L4 S) FU (nI 0, nI 0) = some r ∧ lpN (Md_guarded_L4 T) FU (nI 0, nI 0) = some u ∧ r = u ∧ ∃ P, Msk P r by
    obtain ⟨r, u, e1, e2, rfl, P, hP⟩ := hl
    refine ⟨r, P, ?_, ?_, hP⟩
    · unfold Wy_guarded
      rw [show (0 : Int32) = nI 0 from rfl, e1]; rfl
    · unfold Md_guarded
      rw [show (0 : Int32) = nI 0 from rfl, e2]; rfl
  refine lp_rel (fun i (s t : Int32 × Int32) => s = t ∧ s.2 = nI i ∧ ∃ P, Msk P s.1) N (by omega) ⟨rfl, rfl, _, Msk.none⟩ (fun i s t hi hq => ?_) (fun s t hq => ?_)
  · obtain ⟨s1, s2⟩ := s
    obtain ⟨rfl, hq, P, hP⟩ := hq
    have hq : s2 = nI i := hq
    have hP : Msk P s1 := hP
    subst hq
    obtain ⟨g, g1, g2, g3⟩ := hg i (by omega)
    have e1 : gi S 28 i = nI g := g3
    have e2 : gi T 70 (80 + i) = nI g := g2
    have e3 := mo_ga (S := S) (m := i) (by omega)
    have sh := q_shl (m := i) (by omega)
    have z0 := bit0 hP
    unfold Wy_guarded_L4 Wy_guarded_34_L4 Md_guarded_L4 Md_guarded_34_L4
    by_cases y : g ≤ 0
    · refine Or.inl ⟨(s1, nI (i + 1)), (s1, nI (i + 1)), ?_, ?_, rfl, rfl, P, hP⟩
      · simp (disch := omega) only [q_lit, q_m1, q_m2, q_hid, q_add, q_mul, q_sub, q_le, q_lt, q_eq, q_mlt, q_mle, q_ltm, q_lem, q_meq, q_eqm, q_m2lt, q_m2le, q_ltm2, q_lem2, q_eqm2, q_mm2, q_m2m, q_mm, q_mnm, q_ix, q_inb, q_a0, q_a1, q_app, q_bind, if_true, if_false, if_pos, if_neg, hm, e3, e1, y, z0]
      · simp (disch := omega) only [q_lit, q_m1, q_m2, q_hid, q_add, q_mul, q_sub, q_le, q_lt, q_eq, q_mlt, q_mle, q_ltm, q_lem, q_meq, q_eqm, q_m2lt, q_m2le, q_ltm2, q_lem2, q_eqm2, q_mm2, q_m2m, q_mm, q_mnm, q_ix, q_inb, q_a0, q_a1, q_app, q_bind, if_true, if_false, if_pos, if_neg, hm2, e2, y, z0]
    · refine Or.inl ⟨(s1 ||| nI (2 ^ i), nI (i + 1)), (s1 ||| nI (2 ^ i), nI (i + 1)), ?_, ?_, rfl, rfl, _, hP.or (Msk.one (m := i) (by omega))⟩
      · simp (disch := omega) only [q_lit, q_m1, q_m2, q_hid, q_add, q_mul, q_sub, q_le, q_lt, q_eq, q_mlt, q_mle, q_ltm, q_lem, q_meq, q_eqm, q_m2lt, q_m2le, q_ltm2, q_lem2, q_eqm2, q_mm2, q_m2m, q_mm, q_mnm, q_ix, q_inb, q_a0, q_a1, q_app, q_bind, if_true, if_false, if_pos, if_neg, hm, e3, e1, y, sh]
      · simp (disch := omega) only [q_lit, q_m1, q_m2, q_hid, q_add, q_mul, q_sub, q_le, q_lt, q_eq, q_mlt, q_mle, q_ltm, q_lem, q_meq, q_eqm, q_m2lt, q_m2le, q_ltm2, q_lem2, q_eqm2, q_mm2, q_m2m, q_mm, q_mnm, q_ix, q_inb, q_a0, q_a1, q_app, q_bind, if_true, if_false, if_pos, if_neg, hm2, e2, y, sh]
  · obtain ⟨s1, s2⟩ := s
    obtain ⟨rfl, hq, P, hP⟩ := hq
    have hq : s2 = nI N := hq
    subst hq
    refine ⟨s1, s1, ?_, ?_, rfl, P, hP⟩
    · unfold Wy_guarded_L4
      simp (disch := omega) only [q_lit, q_m1, q_m2, q_hid, q_add, q_mul, q_sub, q_le, q_lt, q_eq, q_mlt, q_mle, q_ltm, q_lem, q_meq, q_eqm, q_m2lt, q_m2le, q_ltm2, q_lem2, q_eqm2, q_mm2, q_m2m, q_mm, q_mnm, q_ix, q_inb, q_a0, q_a1, q_app, q_bind, if_true, if_false, if_pos, if_neg, hm, Nat.le_refl]
    · unfold Md_guarded_L4
      simp (disch := omega) only [q_lit, q_m1, q_m2, q_hid, q_add, q_mul, q_sub, q_le, q_lt, q_eq, q_mlt, q_mle, q_ltm, q_lem, q_meq, q_eqm, q_m2lt, q_m2le, q_ltm2, q_lem2, q_eqm2, q_mm2, q_m2m, q_mm, q_mnm, q_ix, q_inb, q_a0, q_a1, q_app, q_bind, if_true, if_false, if_pos, if_neg, hm2, Nat.le_refl]
theorem op_unseen (h : RelP N K F R U X w T S) (v1 v2 : Int32) : ∃ q p, Dk_unseen v1 v2 S = some q ∧ Md_unseen v1 v2 T = some p ∧ q.1 = p.1 ∧ SamS S q.2 ∧ SamT T p.2 := by
  unfold Dk_unseen Md_unseen Dk_unseen_34 Dk_unseen_35 Md_unseen_53
  rcases mouthsC h.1 v1 v2 with ⟨a, b⟩ | ⟨m, g, hm, hg, rfl, rfl, a, b, c⟩
  · refine ⟨(mI, S), (mI, T), ?_, ?_, rfl, SamS.rfl S, SamT.rfl T⟩
    · rcases a with a | ⟨a, a'⟩
      · rw [a]; rfl
      · rw [a, a']; rfl
    · rw [b]; rfl
  · have hN := pos_of hm
    obtain ⟨hP, -, -⟩ := way_of h hN
    obtain ⟨hW, hV, hC, hcS, hcT⟩ := hours_S h hN
    have h8 := hP.1
    have h5 := hP.2.1
    have hp := pow5 h5
    obtain ⟨x, P, x1, x2, hx⟩ := both_guarded h
    have hx2 := hx.sub (Msk.one (m := m) (by omega))
    obtain ⟨S2, e1, k1, f, k2, k3⟩ := wy_meas hP hW hC hcS (s := 2 ^ K - 1) hx (by omega) hg
    obtain ⟨T2, e2, l1, f', l2, l3⟩ := md_away hP hV hC hcT (s := 2 ^ K - 1) hx2 (by omega) hg
    obtain ⟨k2m, k2l⟩ := k2 m (by omega)
    have l2m := (l2 m (by omega)).1
    have sf : f' m = f m := by
      refine (l3 m hm).uniq ((k3 m hm).from (fun j hj hz => ⟨hz, fun e => hj e.symm⟩) (fun j hj => hj.1))
    rw [sf] at l2m
    have t1 : ¬ nI 1 = 0 := by decide
    have sh := q_shl (m := m) (by omega)
    have ib : inb (nI m) 8 := nI_in (by omega) (by omega)
    have im : ix (nI m) = m := q_ix (by omega)
    rw [a, b, c, if_neg t1, if_neg t1, if_neg t1]
    unfold Wy_fewestHoursUnseen
    rw [x1, x2]
    refine ⟨(if f m = 1000000 then mI else nI (f m), S2), (if f m = 1000000 then mI else nI (f m), T2), ?_, ?_, rfl, k1, l1⟩
    · show (((Wy_measure (nI g) (Nt_allColours S) 0 x S).bind _).bind _) = _
      rw [n_all h.1, e1]
      show some (Wy_farFrom (nI m) S2, S2) = _
      rw [far_fr (by omega) k2m k2l]
    · show ((Md_layAway (nI g) (Md_everyColour T) 0 (x &&& (iShl 1 (nI m) ^^^ (-1))) T).bind _) = _
      rw [m_all h.1, show iShl 1 (nI m) = nI (2 ^ m) from sh, e2]
      show (if inb (nI m) 8 then _ else _) = _
      rw [if_pos ib, if_pos ib, im, l2m]
      by_cases y : f m = 1000000
      · simp (disch := omega) only [q_lit, q_m1, q_m2, q_hid, q_add, q_mul, q_sub, q_le, q_lt, q_eq, q_mlt, q_mle, q_ltm, q_lem, q_meq, q_eqm, q_m2lt, q_m2le, q_ltm2, q_lem2, q_eqm2, q_mm2, q_m2m, q_mm, q_mnm, q_ix, q_inb, q_a0, q_a1, q_app, q_bind, if_true, if_false, if_pos, if_neg, y]
      · simp (disch := omega) only [q_lit, q_m1, q_m2, q_hid, q_add, q_mul, q_sub, q_le, q_lt, q_eq, q_mlt, q_mle, q_ltm, q_lem, q_meq, q_eqm, q_m2lt, q_m2le, q_ltm2, q_lem2, q_eqm2, q_mm2, q_m2m, q_mm, q_mnm, q_ix, q_inb, q_a0, q_a1, q_app, q_bind, if_true, if_false, if_pos, if_neg, y]
end SU
