/-! ===== an hour passes: the whole ===== -/
theorem gl_h {S : Sm} {i j : Nat} {v : Int64} : gl (sl S i j v) i j = v := if_pos ⟨rfl, rfl⟩
section PG
variable {N K F R w : Nat} {U : List Nat} {X : List (List Cl)} {T S : Sm}
theorem PsN.fin {n h q e : Nat} {M M' tr gd lg ob ob' : Nat → Int32} (h0 : PsN N K n h q e M tr gd lg ob) (he : e ≤ 8) (hx : ∀ r, r < n → M (88 + 6 * r + 5) ≠ nI h) (hM : ∀ k, k ≠ 137 → M' k = M k) (h1 : M' 137 = nI (h + 1)) (hob : ∀ k, k ≠ 5 → ob' k = ob k) (h2 : ob' 5 = nI (h + 1)) : MoN N K n (h + 1) q M' tr gd lg ob' := by
  obtain ⟨c1, c2, c3, c4, ⟨a1, a2⟩, ⟨b1, b2⟩, c, ⟨d1, d2⟩, e, f⟩ := h0
  refine ⟨fun m hm => ?_, c2, by omega, by omega, ⟨(hM _ (by omega)).trans a1, (hob 4 (by omega)).trans a2⟩, ⟨h1, h2⟩, (hM _ (by omega)).trans (c.trans (hob 6 (by omega)).symm), ⟨(hM _ (by omega)).trans d1, (hob 7 (by omega)).trans d2⟩, fun r hr => ?_, fun i hi => ?_⟩
  · obtain ⟨g, g1, g2, g3⟩ := c1 m hm
    exact ⟨g, g1, (hM _ (by omega)).trans g2, g3⟩
  · obtain ⟨m, c, s, t, d, i1, i2, i3, i4, i5, ⟨j1, j2⟩, ⟨k1, k2⟩, ⟨l1, l2⟩, ⟨m1, m2⟩, ⟨n1, n2⟩, o⟩ := e r hr
    refine ⟨m, c, s, t, d, i1, i2, by omega, by omega, i5, ⟨(hM _ (by omega)).trans j1, j2⟩, ⟨(hM _ (by omega)).trans k1, k2⟩, ⟨(hM _ (by omega)).trans l1, l2⟩, ⟨(hM _ (by omega)).trans m1, m2⟩, ⟨(hM _ (by omega)).trans n1, n2⟩, ?_⟩
    rcases o with ⟨o1, o2⟩ | ⟨u, u1, u2, u3, u4, u5⟩
    · exact Or.inl ⟨(hM _ (by omega)).trans o1, o2⟩
    · have un : u ≠ h := fun z => hx r hr (by rw [u3, z])
      exact Or.inr ⟨u, by omega, by omega, (hM _ (by omega)).trans u3, u4, u5⟩
  · obtain ⟨r, m, t, r1, r2, r3, r4, r5, r6, r7⟩ := f i hi
    exact ⟨r, m, t, r1, r2, r3, (hM _ (by omega)).trans r4, (hM _ (by omega)).trans r5, (hM _ (by omega)).trans r6, r7⟩
theorem PsN.meet {n h q e : Nat} {M M' tr gd lg ob ob' : Nat → Int32} (h0 : PsN N K n h q e M tr gd lg ob) (hM : ∀ k, k ≠ 138 → M' k = M k) (hob : ∀ k, k ≠ 6 → ob' k = ob k) (h2 : M' 138 = ob' 6) : PsN N K n h q e M' tr gd lg ob' := by
  obtain ⟨c1, c2, c3, c4, ⟨a1, a2⟩, ⟨b1, b2⟩, c, ⟨d1, d2⟩, e, f⟩ := h0
  refine ⟨fun m hm => ?_, c2, c3, c4, ⟨(hM _ (by omega)).trans a1, (hob 4 (by omega)).trans a2⟩, ⟨(hM _ (by omega)).trans b1, (hob 5 (by omega)).trans b2⟩, h2, ⟨(hM _ (by omega)).trans d1, (hob 7 (by omega)).trans d2⟩, fun r hr => ?_, fun i hi => ?_⟩
  · obtain ⟨g, g1, g2, g3⟩ := c1 m hm
    exact ⟨g, g1, (hM _ (by omega)).trans g2, g3⟩
  · obtain ⟨m, c, s, t, d, i1, i2, i3, i4, i5, ⟨j1, j2⟩, ⟨k1, k2⟩, ⟨l1, l2⟩, ⟨m1, m2⟩, ⟨n1, n2⟩, o⟩ := e r hr
    refine ⟨m, c, s, t, d, i1, i2, i3, i4, i5, ⟨(hM _ (by omega)).trans j1, j2⟩, ⟨(hM _ (by omega)).trans k1, k2⟩, ⟨(hM _ (by omega)).trans l1, l2⟩, ⟨(hM _ (by omega)).trans m1, m2⟩, ⟨(hM _ (by omega)).trans n1, n2⟩, ?_⟩
    rcases o with ⟨o1, o2⟩ | ⟨u, u1, u2, u3, u4, u5⟩
    · exact Or.inl ⟨(hM _ (by omega)).trans o1, o2⟩
    · exact Or.inr ⟨u, u1, u2, (hM _ (by omega)).trans u3, u4, u5⟩
  · obtain ⟨r, m, t, r1, r2, r3, r4, r5, r6, r7⟩ := f i hi
    exact ⟨r, m, t, r1, r2, r3, (hM _ (by omega)).trans r4, (hM _ (by omega)).trans r5, (hM _ (by omega)).trans r6, r7⟩
theorem ps_net {n h q e : Nat} {T0 S0 : Sm} (hr : RelP N K F R U X w T0 S0) (p : PsR N K n h q e T0 S0 T S) : NetR N K F T S ∧ (0 < N → DkR N U (S.1 13) (T.1 70) (S.1 27)) := by
  obtain ⟨p1, p2, p3, p4, p5, p6, pn⟩ := p
  constructor
  · have := hr.1
    simp only [NetR, gi, p1 11 (by omega) (by omega), p3 68 (by omega) (by omega)] at this ⊢; exact this
  · intro h0
    rw [p1 13 (by omega) (by omega), p2]
    exact (hr.2.2.2.1.1 h0).ext p4 (fun _ _ => rfl) fun _ _ => rfl
/-- those that are due come out -/
theorem ps_outs {n h q : Nat} {T0 S0 : Sm} (hr : RelP N K F R U X w T0 S0) (p : PsR N K n h q 0 T0 S0 T S) (v1 v2 : Int32) (hl : v2 = 0 ∨ gl S0 40 6 = gl T0 53 35) : ∃ S' T', lpN (Hr_comeOut_L25 v2) FU (0, S) = some S' ∧ lpN (Md_pass_L23 v1 v2) FU (0, T) = some T' ∧ (∃ q' e', e' ≤ n ∧ PsR N K n h q' e' T0 S0 T' S') ∧ ∀ r, r < n → T'.1 70 (88 + 6 * r + 5) ≠ nI h := by
  have n8 : n ≤ 8 := p.2.2.2.2.2.2.2.1
  have h8 := hr.1.2.2.2.2.2.2.1
  refine lp_rel (Q := fun (S' : Sm) (T' : Sm) => (∃ q' e', e' ≤ n ∧ PsR N K n h q' e' T0 S0 T' S') ∧ ∀ r, r < n → T'.1 70 (88 + 6 * r + 5) ≠ nI h) (fun i (s t : Int32 × Sm) => s.1 = nI i ∧ t.1 = nI i ∧ (∃ q' e', e' ≤ i ∧ PsR N K n h q' e' T0 S0 t.2 s.2) ∧ ∀ r, r < i → t.2.1 70 (88 + 6 * r + 5) ≠ nI h) n (by omega) ⟨rfl, rfl, ⟨q, 0, Nat.le_refl _, p⟩, fun r z => absurd z (by omega)⟩ (fun i s t hi hq => ?_) (fun s t hq => ?_)
  · obtain ⟨s1, S1⟩ := s
    obtain ⟨t1, T1⟩ := t
    obtain ⟨(a1 : s1 = nI i), (a2 : t1 = nI i), ⟨q', e', he, (a3 : PsR N K n h q' e' T0 S0 T1 S1)⟩, a4⟩ := hq
    subst a1 a2
    have a4 : ∀ r, r < i → T1.1 70 (88 + 6 * r + 5) ≠ nI h := a4
    obtain ⟨hn, hD⟩ := ps_net hr a3
    obtain ⟨p1, p2, p3, p4, p5, p6, pn⟩ := a3
    have hh := pn.2.2.1
    have e4 : gi S1 25 4 = nI n := pn.2.2.2.2.1.2
    have e136 : gi T1 70 136 = nI n := pn.2.2.2.2.1.1
    have e137 : gi T1 70 137 = nI h := pn.2.2.2.2.2.1.1
    have e5 : gi S1 25 5 = nI h := pn.2.2.2.2.2.1.2
    obtain ⟨m, c, s, t, d, i1, i2, i3, i4, i5, ⟨j1, j2⟩, k, l, mm, nn, o⟩ := pn.2.2.2.2.2.2.2.2.1 i hi
    have j1 : gi T1 70 (88 + 6 * i + 0) = nI m := j1
    have j2 : gi S1 26 (7 * i + 0) = nI m := j2
    have cn : ¬ nI n ≤ nI i := by rw [q_le (by omega) (by omega)]; omega
    have of5 : Mo_ofTrain (nI i) 5 S1 = gi S1 26 (7 * i + 5) := mo_of (k := 5) (by omega) (by omega)
    have of6 : Mo_ofTrain (nI i) 6 S1 = gi S1 26 (7 * i + 6) := mo_of (k := 6) (by omega) (by omega)
    have of0 : Mo_ofTrain (nI i) 0 S1 = nI m := (mo_of (k := 0) (by omega) (by omega)).trans j2
    have md5 : Md_of (nI i) 5 T1 = some (gi T1 70 (88 + 6 * i + 5)) := md_of (k := 5) (by omega) (by omega)
    have md0 : Md_of (nI i) 0 T1 = some (nI m) := (md_of (k := 0) (by omega) (by omega)).trans (congrArg some j1)
    have i1' : nI i + 1 = nI (i + 1) := q_add i 1
    unfold Hr_comeOut_L25 Md_pass_L23 Mo_comesOutNow Mo_comesOutNow_28 Mo_comesOutNow_29 Mo_trains
    dsimp only
    rw [e4, e136, if_neg cn, if_neg cn, of5, of6, md5, q_bind, e5, e137]
    have stay : T1.1 70 (88 + 6 * i + 5) ≠ nI h → (∃ s' t', Hr_comeOut_102_L25 v2 (nI i) S1 = some (Sum.inl s') ∧ Md_pass_108_L23 v1 v2 (nI i) T1 = some (Sum.inl t') ∧ s'.1 = nI (i + 1) ∧ t'.1 = nI (i + 1) ∧ (∃ q' e', e' ≤ i + 1 ∧ PsR N K n h q' e' T0 S0 t'.2 s'.2) ∧ ∀ r, r < i + 1 → t'.2.1 70 (88 + 6 * r + 5) ≠ nI h) := fun hne => by
      refine ⟨(nI (i + 1), S1), (nI (i + 1), T1), ?_, ?_, rfl, rfl, ⟨q', e', by omega, p1, p2, p3, p4, p5, p6, pn⟩, fun r hr => ?_⟩
      · unfold Hr_comeOut_102_L25; rw [i1']
      · unfold Md_pass_108_L23; rw [i1']
      · by_cases z : r = i
        · rw [z]; exact hne
        · exact a4 r (by omega)
    rcases o with ⟨o1, o2⟩ | ⟨u, u1, u2, u3, u4, u5⟩
    · have o1' : gi T1 70 (88 + 6 * i + 5) = mI := o1
      have o2' : gi S1 26 (7 * i + 5) = nI 0 := o2
      rw [o1', o2', if_neg (show ¬ nI 0 = 1 by decide), if_neg (fun e => (q_meq (a := h) (by omega)).mp e), if_pos (show (0 : Int32) &&& 1 = 0 by decide)]
      exact Or.inl (stay (by rw [o1]; exact fun e => (q_meq (a := h) (by omega)).mp e))
    · have u3' : gi T1 70 (88 + 6 * i + 5) = nI u := u3
      have u4' : gi S1 26 (7 * i + 5) = nI 1 := u4
      have u5' : gi S1 26 (7 * i + 6) = nI u := u5
      rw [u3', u4', u5', if_pos (show nI 1 = 1 from rfl)]
      by_cases x : u = h
      · subst x
        rw [if_pos rfl, if_pos rfl, if_neg (show ¬ (1 : Int32) &&& 1 = 0 by decide)]
        have go : ∀ (m : Nat) (T2 S2 : Sm), m < N → PsR N K n u q' e' T0 S0 T2 S2 → (∀ r, r < i → T2.1 70 (88 + 6 * r + 5) ≠ nI u) → ∃ s' t', Hr_comeOut_74_L25 v2 (nI i) (nI m) S2 = some (Sum.inl s') ∧ Md_pass_78_L23 v1 v2 (nI i) (nI i) 0 (nI m) T2 = some (Sum.inl t') ∧ s'.1 = nI (i + 1) ∧ t'.1 = nI (i + 1) ∧ (∃ q' e', e' ≤ i + 1 ∧ PsR N K n u q' e' T0 S0 t'.2 s'.2) ∧ ∀ r, r < i + 1 → t'.2.1 70 (88 + 6 * r + 5) ≠ nI u := fun m T2 S2 hm hp ha => by
          obtain ⟨T3, S3, b1, b2, b3, b4, b5⟩ := ps_out hp (by omega) hi hm h8 v1 v2 v2
          refine ⟨(nI (i + 1), S3), (nI (i + 1), T3), b2, b1, rfl, rfl, ⟨q' + 1, e' + 1, by omega, b3⟩, fun r hr => ?_⟩
          show T3.1 70 (88 + 6 * r + 5) ≠ nI u
          by_cases z : r = i
          · rw [z, b4]; exact fun e => (q_meq (a := u) (by omega)).mp e
          · rw [b5 _ (by omega) (by omega)]; exact ha r (by omega)
        by_cases y : v2 = 0
        · rw [if_pos y, if_pos y, of0, md0, q_bind]
          exact Or.inl (go m T1 S1 i1 ⟨p1, p2, p3, p4, p5, p6, pn⟩ a4)
        · have hg := p6 (hl.resolve_left y)
          have hN := pos_of i1
          have em : Nt_mouths S1 = nI N := n_m hn
          have e68 : gi T1 68 0 = nI N := hn.2.2.2.1
          have g1 : ∀ L, gl (sl S1 40 6 L) 40 6 = L := fun L => gl_h
          have g2 : ∀ L, gl (sl T1 53 35 L) 53 35 = L := fun L => gl_h
          obtain ⟨m', S2, T2, hm', dS, dT, s1, s2, s3⟩ : ∃ m' S2 T2, m' < N ∧ Hr_draw (nI N) S1 = some (nI m', S2) ∧ Md_draw (nI N) T1 = some (nI m', T2) ∧ S2.1 = S1.1 ∧ T2.1 = T1.1 ∧ gl S2 40 6 = gl T2 53 35 := by
            unfold Hr_draw Hr_draw_35 Md_draw
            rw [← hg, if_neg (show ¬ nI N ≤ 0 from fun z => by have := (q_le (b := 0) (by omega) (by omega)).mp z; omega), if_neg (t64_0 hN (by omega)), if_neg (t64_0 hN (by omega))]
            generalize gl S1 40 6 * 6364136223846793005 + 1442695040888963407 = L
            obtain ⟨m', hm', ed⟩ := draw_n L hN (by omega)
            rw [g1, g2, ed]
            exact ⟨m', _, _, hm', rfl, rfl, rfl, rfl, by rw [g1, g2]⟩
          rw [if_neg y, if_neg y, em, e68, dS, dT, q_bind, q_bind]
          refine Or.inl (go m' T2 S2 hm' ⟨fun b h1 h2 => ?_, ?_, fun b h1 h2 => ?_, fun k hk => ?_, fun m hm => ?_, fun _ => s3, ?_⟩ fun r hr => ?_)
          · rw [s1]; exact p1 b h1 h2
          · rw [s1]; exact p2
          · rw [s2]; exact p3 b h1 h2
          · rw [s2]; exact p4 k hk
          · show S2.1 41 m = T2.1 74 m
            rw [s1, s2]; exact p5 m hm
          · rw [s1, s2]; exact pn
          · rw [s2]; exact a4 r hr
      · have xn : ¬ nI u = nI h := fun e => x ((q_eq (by omega) (by omega)).mp e)
        rw [if_neg xn, if_neg xn, if_pos (show (0 : Int32) &&& 1 = 0 by decide)]
        exact Or.inl (stay (by rw [u3]; exact xn))
  · obtain ⟨s1, S1⟩ := s
    obtain ⟨t1, T1⟩ := t
    obtain ⟨(a1 : s1 = nI n), (a2 : t1 = nI n), ⟨q', e', he, (a3 : PsR N K n h q' e' T0 S0 T1 S1)⟩, a4⟩ := hq
    subst a1 a2
    have e4 : gi S1 25 4 = nI n := a3.2.2.2.2.2.2.2.2.2.2.1.2
    have e136 : gi T1 70 136 = nI n := a3.2.2.2.2.2.2.2.2.2.2.1.1
    refine ⟨S1, T1, ?_, ?_, ⟨q', e', he, a3⟩, a4⟩
    · unfold Hr_comeOut_L25 Mo_trains
      exact if_pos (by show gi S1 25 4 ≤ nI n; rw [e4]; exact nI_le (Nat.le_refl _) (by omega))
    · unfold Md_pass_L23
      exact if_pos (by show gi T1 70 136 ≤ nI n; rw [e136]; exact nI_le (Nat.le_refl _) (by omega))
/-- those that are ready go in -/
theorem ps_ins {n h q e : Nat} {T0 S0 : Sm} (hr : RelP N K F R U X w T0 S0) (p : PsR N K n h q e T0 S0 T S) (hx : ∀ r, r < n → T.1 70 (88 + 6 * r + 5) ≠ nI h) : ∃ S' T', lpN Hr_goIn_L2 FU (0, S) = some S' ∧ lpN (Md_pass_L116 0) FU (0, T) = some T' ∧ PsR N K n h q e T0 S0 T' S' ∧ ∀ r, r < n → T'.1 70 (88 + 6 * r + 5) ≠ nI h := by
  have n8 : n ≤ 8 := p.2.2.2.2.2.2.2.1
  have h8 := hr.1.2.2.2.2.2.2.1
  refine lp_rel (Q := fun (S' : Sm) (T' : Sm) => PsR N K n h q e T0 S0 T' S' ∧ ∀ r, r < n → T'.1 70 (88 + 6 * r + 5) ≠ nI h) (fun i (s t : Int32 × Sm) => s.1 = nI i ∧ t.1 = nI i ∧ PsR N K n h q e T0 S0 t.2 s.2 ∧ ∀ r, r < n → t.2.1 70 (88 + 6 * r + 5) ≠ nI h) n (by omega) ⟨rfl, rfl, p, hx⟩ (fun i s t hi hq => ?_) (fun s t hq => ?_)
  · obtain ⟨s1, S1⟩ := s
    obtain ⟨t1, T1⟩ := t
    obtain ⟨(a1 : s1 = nI i), (a2 : t1 = nI i), (a3 : PsR N K n h q e T0 S0 T1 S1), a4⟩ := hq
    subst a1 a2
    have a4 : ∀ r, r < n → T1.1 70 (88 + 6 * r + 5) ≠ nI h := a4
    obtain ⟨hn, hD⟩ := ps_net hr a3
    have a3' := a3
    obtain ⟨p1, p2, p3, p4, p5, p6, pn⟩ := a3
    have hh := pn.2.2.1
    have e4 : gi S1 25 4 = nI n := pn.2.2.2.2.1.2
    have e136 : gi T1 70 136 = nI n := pn.2.2.2.2.1.1
    have e137 : gi T1 70 137 = nI h := pn.2.2.2.2.2.1.1
    have e5 : gi S1 25 5 = nI h := pn.2.2.2.2.2.1.2
    have tn := pn.2.2.2.2.2.2.2.2.1 i hi
    have tn' := tn
    obtain ⟨m, c, s, t, d, i1, i2, i3, i4, i5, j, k, l, ⟨m1, m2⟩, ⟨nn1, nn2⟩, o⟩ := tn
    have m1 : gi T1 70 (88 + 6 * i + 3) = nI t := m1
    have m2 : gi S1 26 (7 * i + 2) = nI t := m2
    have nn1 : gi T1 70 (88 + 6 * i + 4) = nI d := nn1
    have nn2 : gi S1 26 (7 * i + 4) = nI d := nn2
    have cn : ¬ nI n ≤ nI i := by rw [q_le (by omega) (by omega)]; omega
    have of5 : Mo_ofTrain (nI i) 5 S1 = gi S1 26 (7 * i + 5) := mo_of (k := 5) (by omega) (by omega)
    have of4 : Mo_ofTrain (nI i) 4 S1 = nI d := (mo_of (k := 4) (by omega) (by omega)).trans nn2
    have of2 : Mo_ofTrain (nI i) 2 S1 = nI t := (mo_of (k := 2) (by omega) (by omega)).trans m2
    have md5 : Md_of (nI i) 5 T1 = some (gi T1 70 (88 + 6 * i + 5)) := md_of (k := 5) (by omega) (by omega)
    have md3 : Md_of (nI i) 3 T1 = some (nI t) := (md_of (k := 3) (by omega) (by omega)).trans (congrArg some m1)
    have md4 : Md_of (nI i) 4 T1 = some (nI d) := (md_of (k := 4) (by omega) (by omega)).trans (congrArg some nn1)
    have i1' : nI i + 1 = nI (i + 1) := q_add i 1
    unfold Hr_goIn_L2 Md_pass_L116 Mo_isReady Mo_isReady_35 Mo_isReady_36 Mo_trains
    dsimp only
    rw [e4, e136, if_neg cn, if_neg cn, of5, of4, of2, md5, md3, md4, if_pos (rfl : (0 : Int32) = 0), q_bind, q_bind, q_bind, e5, e137]
    have stay : ∃ s' t', Hr_goIn_66_L2 (nI i) S1 = some (Sum.inl s') ∧ Md_pass_172_L116 0 (nI i) T1 = some (Sum.inl t') ∧ s'.1 = nI (i + 1) ∧ t'.1 = nI (i + 1) ∧ PsR N K n h q e T0 S0 t'.2 s'.2 ∧ ∀ r, r < n → t'.2.1 70 (88 + 6 * r + 5) ≠ nI h := by
      refine ⟨(nI (i + 1), S1), (nI (i + 1), T1), ?_, ?_, rfl, rfl, a3', a4⟩
      · unfold Hr_goIn_66_L2; rw [i1']
      · unfold Md_pass_172_L116 Md_pass_173_L116 Md_pass_246_L116; rw [if_pos rfl, i1']
    have z0 : (0 : Int32) &&& 1 = 0 := by decide
    rcases o with ⟨o1, o2⟩ | ⟨u, u1, u2, u3, u4, u5⟩
    · have o1' : gi T1 70 (88 + 6 * i + 5) = mI := o1
      have o2' : gi S1 26 (7 * i + 5) = nI 0 := o2
      rw [o1', o2', if_pos (show nI 0 = 0 from rfl), if_pos (show mI = -1 from rfl)]
      by_cases x : nI h < nI t
      · rw [if_pos x, if_pos x]
        by_cases y : nI d ≤ 0
        · rw [if_pos y, if_pos z0]; exact Or.inl stay
        · rw [if_neg y, if_pos z0]; exact Or.inl stay
      · rw [if_neg x, if_neg x]
        by_cases y : nI d ≤ 0
        · rw [if_pos y, if_pos y, if_pos z0]; exact Or.inl stay
        · rw [if_neg y, if_neg y, if_neg (show ¬ (1 : Int32) &&& 1 = 0 by decide)]
          obtain ⟨cc, hcc, l1, l2⟩ := lamp_T hn (by omega) e137 e5 (by omega) tn'
          obtain ⟨T2, S2, b1, b2, b3, ⟨b, hb, hb2, b4⟩, b5⟩ := ps_in a3' hn (hD (pos_of i1)) hi hcc l1 l2 (by rw [nn1]; exact y) 0
          refine Or.inl ⟨(nI (i + 1), S2), (nI (i + 1), T2), b2, b1, rfl, rfl, b3, fun r hr => ?_⟩
          show T2.1 70 (88 + 6 * r + 5) ≠ nI h
          by_cases z : r = i
          · rw [z, b4]; exact fun e => by have := (q_eq (by omega) (by omega)).mp e; omega
          · rw [b5 _ (by omega)]; exact a4 r hr
    · have u3' : gi T1 70 (88 + 6 * i + 5) = nI u := u3
      have u4' : gi S1 26 (7 * i + 5) = nI 1 := u4
      rw [u3', u4', if_neg (show ¬ nI 1 = 0 by decide), if_neg (show ¬ nI u = -1 from fun e => (q_eqm (by omega)).mp e), if_pos z0]
      exact Or.inl stay
  · obtain ⟨s1, S1⟩ := s
    obtain ⟨t1, T1⟩ := t
    obtain ⟨(a1 : s1 = nI n), (a2 : t1 = nI n), (a3 : PsR N K n h q e T0 S0 T1 S1), a4⟩ := hq
    subst a1 a2
    have e4 : gi S1 25 4 = nI n := a3.2.2.2.2.2.2.2.2.2.2.1.2
    have e136 : gi T1 70 136 = nI n := a3.2.2.2.2.2.2.2.2.2.2.1.1
    refine ⟨S1, T1, ?_, ?_, a3, a4⟩
    · unfold Hr_goIn_L2 Mo_trains
      exact if_pos (by show gi S1 25 4 ≤ nI n; rw [e4]; exact nI_le (Nat.le_refl _) (by omega))
    · unfold Md_pass_L116
      exact if_pos (by show gi T1 70 136 ≤ nI n; rw [e136]; exact nI_le (Nat.le_refl _) (by omega))
/-- in fog none goes in -/
theorem ps_fog {n h q e : Nat} {T0 S0 : Sm} (p : PsR N K n h q e T0 S0 T S) {v1 : Int32} (hv : ¬ v1 = 0) : lpN (Md_pass_L116 v1) FU (0, T) = some T := by
  have n8 : n ≤ 8 := p.2.2.2.2.2.2.2.1
  have e136 : gi T 70 136 = nI n := p.2.2.2.2.2.2.2.2.2.2.1.1
  refine lpN_run0 (fun i => (nI i, T)) n (by omega) (fun i hi => ?_) ?_ rfl
  · have cn : ¬ nI n ≤ nI i := by rw [q_le (by omega) (by omega)]; omega
    unfold Md_pass_L116 Md_pass_172_L116 Md_pass_173_L116 Md_pass_246_L116
    dsimp only
    rw [e136, if_neg cn, if_neg hv, if_pos rfl, show nI i + 1 = nI (i + 1) from q_add i 1]
  · unfold Md_pass_L116
    exact if_pos (by show gi T 70 136 ≤ nI n; rw [e136]; exact nI_le (Nat.le_refl _) (by omega))
/-- meetings -/
theorem ps_meets {n h q e : Nat} {T0 S0 : Sm} (p : PsR N K n h q e T0 S0 T S) (hx : ∀ r, r < n → T.1 70 (88 + 6 * r + 5) ≠ nI h) : ∃ S' T', lpN Hr_meet_L2 FU (0, S) = some S' ∧ lpN Md_pass_L254 FU (0, T) = some T' ∧ PsR N K n h q e T0 S0 T' S' ∧ ∀ r, r < n → T'.1 70 (88 + 6 * r + 5) ≠ nI h := by
  have n8 : n ≤ 8 := p.2.2.2.2.2.2.2.1
  refine lp_rel (Q := fun (S' : Sm) (T' : Sm) => PsR N K n h q e T0 S0 T' S' ∧ ∀ r, r < n → T'.1 70 (88 + 6 * r + 5) ≠ nI h) (fun i (s t : Int32 × Sm) => s.1 = nI i ∧ t.1 = nI i ∧ PsR N K n h q e T0 S0 t.2 s.2 ∧ ∀ r, r < n → t.2.1 70 (88 + 6 * r + 5) ≠ nI h) 8 (by omega) ⟨rfl, rfl, p, hx⟩ (fun i s t hi hq => ?_) (fun s t hq => ?_)
  · obtain ⟨s1, S1⟩ := s
    obtain ⟨t1, T1⟩ := t
    obtain ⟨(a1 : s1 = nI i), (a2 : t1 = nI i), (a3 : PsR N K n h q e T0 S0 T1 S1), a4⟩ := hq
    subst a1 a2
    have a4 : ∀ r, r < n → T1.1 70 (88 + 6 * r + 5) ≠ nI h := a4
    obtain ⟨p1, p2, p3, p4, p5, p6, pn⟩ := a3
    have e41 : atF (gi S1 41) 8 (nI i) = gi T1 74 i := (q_at (by omega) (by omega)).trans (p5 i hi)
    have e138 : gi T1 70 138 = gi S1 25 6 := pn.2.2.2.2.2.2.1
    have i1' : nI i + 1 = nI (i + 1) := q_add i 1
    have c8 : ¬ (8 : Int32) ≤ nI i := fun z => by have := (q_le (a := 8) (by omega) (by omega)).mp z; omega
    have ib : inb (nI i) 8 := nI_in (by omega) (by omega)
    refine Or.inl ⟨(nI (i + 1), si S1 25 6 (gi S1 25 6 + gi T1 74 i * (gi T1 74 i - 1) / 2)), (nI (i + 1), si T1 70 138 (gi T1 70 138 + gi T1 74 i * (gi T1 74 i - 1) / 2)), ?_, ?_, rfl, rfl, ⟨fun b hb h4 => ?_, ?_, fun b h1 h2 => ?_, fun k hk => ?_, fun m' hm' => ?_, p6, ?_⟩, fun r hr => ?_⟩
    · unfold Hr_meet_L2 Mo_addMeetings
      dsimp only
      rw [if_neg c8, e41, q_app, i1']
    · unfold Md_pass_L254
      dsimp only
      rw [if_neg c8, if_pos ib, if_pos ib, q_ix (by omega), i1']
    · exact (si_row (by omega)).trans (p1 b hb h4)
    · exact (si_row (by omega)).trans p2
    · exact (si_row h1).trans (p3 b h1 h2)
    · exact (if_neg (fun e => absurd e.2 (by omega))).trans (p4 k hk)
    · exact p5 m' hm'
    · refine pn.meet (fun k hk => if_neg fun e => hk e.2) (fun k hk => if_neg fun e => hk e.2) ?_
      show gi (si T1 70 138 _) 70 138 = gi (si S1 25 6 _) 25 6
      rw [tb_h, tb_h, e138]
    · show gi (si T1 70 138 _) 70 _ ≠ _
      rw [tb_n (by omega)]; exact a4 r hr
  · obtain ⟨s1, S1⟩ := s
    obtain ⟨t1, T1⟩ := t
    obtain ⟨(a1 : s1 = nI 8), (a2 : t1 = nI 8), (a3 : PsR N K n h q e T0 S0 T1 S1), a4⟩ := hq
    subst a1 a2
    exact ⟨S1, T1, rfl, rfl, a3, a4⟩
end PG
