/-! ===== a net begins: the reference, the whole ===== -/
section TA
variable {T S : Sm}
theorem md_take {m : Nat → Nat} (h : NdO m T S) (h0 : m 0 = 1) (hs : SndN m S) : ∃ T', Md_takeAll (si T 53 2 0) = some (nI (xN S 0 0 0), T') ∧ (∀ i j, i ≠ 53 → i ≠ 68 → i ≠ 69 → i ≠ 70 → i ≠ 71 → i ≠ 72 → T'.1 i j = T.1 i j) ∧ (∀ j, j ≠ 2 → j ≠ 26 → j ≠ 30 → j ≠ 34 → j ≠ 49 → j ≠ 57 → T'.1 53 j = T.1 53 j) ∧ (gi T' 53 2 = nI 0 ∧ gi T' 53 26 = nI (m 2) ∧ gi T' 53 30 = nI (Unk S (m 1)).length ∧ gi T' 53 34 = nI 0 ∧ gi T' 53 49 = nI 0 ∧ gi T' 53 57 = nI 0) ∧ (∀ s, s < 4 → gi T' 68 s = nI (xN S 0 0 s)) ∧ (∀ r, r < m 2 → ∀ s, s < 4 → gi T' 69 (4 * r + s) = nI (xN S 2 r s)) ∧ (∀ d, d < 40 → (∀ e, e < m 1 → dkN S e ≠ d) → gi T' 70 d = mI ∧ gi T' 70 (40 + d) = nI 1) ∧ (∀ e, e < m 1 → gi T' 70 (dkN S e) = (if xN S 1 e 2 = 8 then mI2 else nI (xN S 1 e 2)) ∧ gi T' 70 (40 + dkN S e) = nI (xN S 1 e 3)) ∧ (∀ j u, (Unk S (m 1))[j]? = some u → gi T' 71 j = nI (u / 5) ∧ gi T' 72 j = nI (u % 5)) ∧ (gi T' 70 136 = nI (m 2) ∧ gi T' 70 137 = nI (xN S 0 0 2) ∧ gi T' 70 138 = nI 0 ∧ gi T' 70 139 = nI 0) ∧ (∀ g, g < 8 → gi T' 70 (80 + g) = nI (cntN (fun e => decide (xN S 3 e 0 = g)) (m 3))) ∧ ∀ r, r < m 2 → gi T' 70 (88 + 6 * r) = nI (xN S 2 r 0) ∧ gi T' 70 (88 + 6 * r + 1) = nI (xN S 2 r 1) ∧ gi T' 70 (88 + 6 * r + 2) = nI (xN S 0 0 2 + xN S 2 r 2) ∧ gi T' 70 (88 + 6 * r + 3) = nI (xN S 0 0 2 + xN S 2 r 2) ∧ gi T' 70 (88 + 6 * r + 4) = nI (xN S 2 r 3) ∧ gi T' 70 (88 + 6 * r + 5) = mI := by
  have m26 : m 2 ≤ 6 := (h.1 2 (by omega)).1
  have m34 : m 3 ≤ 4 := (h.1 3 (by omega)).1
  have h23 : xN S 0 0 2 ≤ 23 := (nd_x h (k := 0) (e := 0) (s := 2) (by omega) (by omega) (by decide)).2.1
  have x64 : ∀ s, s < 4 → gi T 64 s = nI (xN S 0 0 s) := fun s hs => by
    have := (nd_x h (k := 0) (e := 0) (s := s) (by omega) (by omega) hs).2.2.2
    rwa [show nsN 0 * 0 + s = s by omega] at this
  have x66 : ∀ r, r < m 2 → ∀ s, s < 4 → gi T 66 (4 * r + s) = nI (xN S 2 r s) := fun r hr s hs => (nd_x h (k := 2) (e := r) (s := s) (by omega) hr hs).2.2.2
  have x67 : ∀ g, g < m 3 → gi T 67 g = nI (xN S 3 g 0) ∧ xN S 3 g 0 ≤ 7 := fun g hg => by
    have x := nd_x h (k := 3) (e := g) (s := 0) (by omega) hg (by decide)
    have x4 : gi T 67 (1 * g + 0) = nI (xN S 3 g 0) := x.2.2.2
    rw [Nat.one_mul, Nat.add_zero] at x4
    exact ⟨x4, x.2.1⟩
  obtain ⟨c1, c2, c3⟩ := h.2.1
  have g0 : ∀ i j, ¬ (i = 53 ∧ j = 2) → gi (si T 53 2 0) i j = gi T i j := fun i j a => tb_n a
  /- size -/
  obtain ⟨Ta, ea, a1, a2⟩ : ∃ Ta, lpN Md_takeAll_L2 FU (0, si T 53 2 0) = some Ta ∧ (∀ i j, i ≠ 68 → Ta.1 i j = (si T 53 2 0).1 i j) ∧ ∀ s, s < 4 → gi Ta 68 s = nI (xN S 0 0 s) := by
    refine lp_inv (fun i (q : Int32 × Sm) => q.1 = nI i ∧ (∀ i j, i ≠ 68 → q.2.1 i j = (si T 53 2 0).1 i j) ∧ ∀ s, s < i → gi q.2 68 s = nI (xN S 0 0 s)) 4 (by omega) ⟨rfl, fun _ _ _ => rfl, fun k z => absurd z (by omega)⟩ (fun i q hi hq => ?_) (fun q hq => ?_)
    · obtain ⟨k', T2⟩ := q
      obtain ⟨(e : k' = nI i), g1, g2⟩ := hq
      subst e
      have e64 : gi T2 64 i = nI (xN S 0 0 i) := (g1 64 i (by omega)).trans ((g0 64 i fun e => absurd e.1 (by decide)).trans (x64 i hi))
      refine Or.inl ⟨(nI (i + 1), si T2 68 i (nI (xN S 0 0 i))), ?_, rfl, fun i' j hn => (tb_n fun e => hn e.1).trans (g1 i' j hn), fun k hk => ?_⟩
      · unfold Md_takeAll_L2
        dsimp only
        rw [if_neg (show ¬ (4 : Int32) ≤ nI i from fun z => by have := (q_le (a := 4) (by omega) (by omega)).mp z; omega), if_pos (nI_in (by omega) (by omega)), if_pos (nI_in (by omega) (by omega)), q_ix (by omega), e64, show nI i + 1 = nI (i + 1) from q_add i 1]
      · by_cases y : k = i
        · rw [y]; exact tb_h
        · exact (tb_n fun e => y e.2).trans (g2 k (by omega))
    · obtain ⟨k', T2⟩ := q
      obtain ⟨(e : k' = nI 4), g⟩ := hq
      subst e
      exact ⟨T2, rfl, g⟩
  obtain ⟨Tb, eb, b1, b2⟩ : ∃ Tb, lpN Md_takeAll_L27 FU (0, Ta) = some Tb ∧ (∀ i j, i ≠ 70 → Tb.1 i j = Ta.1 i j) ∧ ∀ s, s < 320 → gi Tb 70 s = nI 0 := by
    refine lp_inv (fun i (q : Int32 × Sm) => q.1 = nI i ∧ (∀ i j, i ≠ 70 → q.2.1 i j = Ta.1 i j) ∧ ∀ s, s < i → gi q.2 70 s = nI 0) 320 (by omega) ⟨rfl, fun _ _ _ => rfl, fun k z => absurd z (by omega)⟩ (fun i q hi hq => ?_) (fun q hq => ?_)
    · obtain ⟨k', T2⟩ := q
      obtain ⟨(e : k' = nI i), g1, g2⟩ := hq
      subst e
      refine Or.inl ⟨(nI (i + 1), si T2 70 i (nI 0)), ?_, rfl, fun i' j hn => (tb_n fun e => hn e.1).trans (g1 i' j hn), fun k hk => ?_⟩
      · unfold Md_takeAll_L27
        dsimp only
        rw [if_neg (show ¬ (320 : Int32) ≤ nI i from fun z => by have := (q_le (a := 320) (by omega) (by omega)).mp z; omega), if_pos (nI_in (by omega) (by omega)), q_ix (by omega), show nI i + 1 = nI (i + 1) from q_add i 1]; rfl
      · by_cases y : k = i
        · rw [y]; exact tb_h
        · exact (tb_n fun e => y e.2).trans (g2 k (by omega))
    · obtain ⟨k', T2⟩ := q
      obtain ⟨(e : k' = nI 320), g⟩ := hq
      subst e
      exact ⟨T2, rfl, g⟩
  have bo : ∀ i j, i ≠ 68 → i ≠ 70 → Tb.1 i j = (si T 53 2 0).1 i j := fun i j a c => (b1 i j c).trans (a1 i j a)
  have b53 : ∀ j, j ≠ 2 → gi Tb 53 j = gi T 53 j := fun j hj => (bo 53 j (by omega) (by omega)).trans (tb_n fun e => hj e.2)
  obtain ⟨Tc, ec, d1, d2, d3, d4, d5, d6, d7⟩ := md_tun h hs (T1 := Tb) (fun j => (bo 65 j (by omega) (by omega)).trans (tb_n fun e => absurd e.1 (by decide))) (b53 21 (by omega))
  have c68 : ∀ s, s < 4 → gi Tc 68 s = nI (xN S 0 0 s) := fun s hs => (d1 68 s (by omega) (by omega) (by omega) (by omega)).trans ((b1 68 s (by omega)).trans (a2 s hs))
  have co : ∀ i j, i ≠ 53 → i ≠ 68 → i ≠ 70 → i ≠ 71 → i ≠ 72 → Tc.1 i j = T.1 i j := fun i j a b c d e => (d1 i j a c d e).trans ((bo i j b c).trans (tb_n fun z => a z.1))
  have c53 : ∀ j, j ≠ 2 → j ≠ 30 → gi Tc 53 j = gi T 53 j := fun j a c => (d2 j c).trans (b53 j a)
  generalize hTd : si Tc 70 137 (gi Tc 68 2) = Td
  have dd70 : ∀ j, j ≠ 137 → gi Td 70 j = gi Tc 70 j := fun j hj => by subst hTd; exact tb_n fun e => hj e.2
  have dd137 : gi Td 70 137 = nI (xN S 0 0 2) := by subst hTd; exact tb_h.trans (c68 2 (by omega))
  have ddo : ∀ i j, i ≠ 70 → Td.1 i j = Tc.1 i j := fun i j a => by subst hTd; exact tb_n fun e => a e.1
  /- guards -/
  obtain ⟨Te, ee, f1, f2, f3⟩ : ∃ Te, lpN Md_takeAll_L67 FU (0, Td) = some Te ∧ (∀ i j, i ≠ 70 → Te.1 i j = Td.1 i j) ∧ (∀ j, j < 80 ∨ 88 ≤ j → gi Te 70 j = gi Td 70 j) ∧ ∀ g, g < 8 → gi Te 70 (80 + g) = nI (cntN (fun e => decide (xN S 3 e 0 = g)) (m 3)) := by
    refine lp_inv (fun i (q : Int32 × Sm) => q.1 = nI i ∧ (∀ i j, i ≠ 70 → q.2.1 i j = Td.1 i j) ∧ (∀ j, j < 80 ∨ 88 ≤ j → gi q.2 70 j = gi Td 70 j) ∧ ∀ g, g < 8 → gi q.2 70 (80 + g) = nI (cntN (fun e => decide (xN S 3 e 0 = g)) i)) (m 3) (by omega) ⟨rfl, fun _ _ _ => rfl, fun _ _ => rfl, fun g hg => (dd70 _ (by omega)).trans ((d3 _ (by omega)).trans (b2 _ (by omega)))⟩ (fun i q hi hq => ?_) (fun q hq => ?_)
    · obtain ⟨k', T2⟩ := q
      obtain ⟨(e : k' = nI i), g1, g2, g3⟩ := hq
      subst e
      have g1 : ∀ i j, i ≠ 70 → T2.1 i j = Td.1 i j := g1
      have g3 : ∀ g, g < 8 → gi T2 70 (80 + g) = nI (cntN (fun e => decide (xN S 3 e 0 = g)) i) := g3
      obtain ⟨x1, x2⟩ := x67 i hi
      have e67 : gi T2 67 i = nI (xN S 3 i 0) := (g1 67 i (by omega)).trans ((ddo 67 i (by omega)).trans ((co 67 i (by omega) (by omega) (by omega) (by omega) (by omega)).trans x1))
      have e23 : gi T2 53 23 = nI (m 3) := (g1 53 23 (by omega)).trans ((ddo 53 23 (by omega)).trans ((c53 23 (by omega) (by omega)).trans c3))
      refine Or.inl ⟨(nI (i + 1), si T2 70 (80 + xN S 3 i 0) (nI (cntN (fun e => decide (xN S 3 e 0 = xN S 3 i 0)) i + 1))), ?_, rfl, fun i' j hn => (tb_n fun e => hn e.1).trans (g1 i' j hn), fun j hj => (tb_n fun e => by omega).trans (g2 j hj), fun g hg => ?_⟩
      · unfold Md_takeAll_L67
        dsimp only
        rw [e23, if_neg (nI_ge hi (by omega)), if_pos (nI_in (by omega) (by omega)), q_ix (by omega), e67, show (80 : Int32) + nI (xN S 3 i 0) = nI (80 + xN S 3 i 0) from q_add 80 _, if_pos (nI_in (by omega) (by omega)), if_pos (nI_in (by omega) (by omega)), q_ix (by omega), g3 _ (by omega), show nI (cntN (fun e => decide (xN S 3 e 0 = xN S 3 i 0)) i) + 1 = nI (cntN (fun e => decide (xN S 3 e 0 = xN S 3 i 0)) i + 1) from q_add _ 1, show nI i + 1 = nI (i + 1) from q_add i 1]
      · by_cases y : g = xN S 3 i 0
        · subst y
          rw [cnt_t (show decide (xN S 3 i 0 = xN S 3 i 0) = true from decide_eq_true rfl)]; exact tb_h
        · rw [cnt_n (show decide (xN S 3 i 0 = g) = false from decide_eq_false fun z => y z.symm)]
          exact (tb_n fun e => by omega).trans (g3 g hg)
    · obtain ⟨k', T2⟩ := q
      obtain ⟨(e : k' = nI (m 3)), g1, g⟩ := hq
      subst e
      have g1 : ∀ i j, i ≠ 70 → T2.1 i j = Td.1 i j := g1
      have e23 : gi T2 53 23 = nI (m 3) := (g1 53 23 (by omega)).trans ((ddo 53 23 (by omega)).trans ((c53 23 (by omega) (by omega)).trans c3))
      refine ⟨T2, ?_, g1, g⟩
      unfold Md_takeAll_L67
      exact if_pos (by show gi T2 53 23 ≤ nI (m 3); rw [e23]; exact nI_le (Nat.le_refl _) (by omega))
  have eo : ∀ i j, i ≠ 70 → Te.1 i j = Tc.1 i j := fun i j a => (f1 i j a).trans (ddo i j a)
  generalize hTf : si Te 53 26 (gi Te 53 22) = Tf
  have ff26 : gi Tf 53 26 = nI (m 2) := by subst hTf; exact tb_h.trans ((eo 53 22 (by omega)).trans ((c53 22 (by omega) (by omega)).trans c2))
  have ffo : ∀ i j, ¬ (i = 53 ∧ j = 26) → Tf.1 i j = Te.1 i j := fun i j a => by subst hTf; exact tb_n a
  obtain ⟨Tg, eg, k1, k2⟩ : ∃ Tg, lpN Md_takeAll_L109 FU (0, Tf) = some Tg ∧ (∀ i j, i ≠ 69 → Tg.1 i j = Tf.1 i j) ∧ ∀ s, s < 24 → gi Tg 69 s = gi T 66 s := by
    refine lp_inv (fun i (q : Int32 × Sm) => q.1 = nI i ∧ (∀ i j, i ≠ 69 → q.2.1 i j = Tf.1 i j) ∧ ∀ s, s < i → gi q.2 69 s = gi T 66 s) 24 (by omega) ⟨rfl, fun _ _ _ => rfl, fun k z => absurd z (by omega)⟩ (fun i q hi hq => ?_) (fun q hq => ?_)
    · obtain ⟨k', T2⟩ := q
      obtain ⟨(e : k' = nI i), g1, g2⟩ := hq
      subst e
      have e66 : gi T2 66 i = gi T 66 i := (g1 66 i (by omega)).trans ((ffo 66 i (by omega)).trans ((eo 66 i (by omega)).trans (co 66 i (by omega) (by omega) (by omega) (by omega) (by omega))))
      refine Or.inl ⟨(nI (i + 1), si T2 69 i (gi T 66 i)), ?_, rfl, fun i' j hn => (tb_n fun e => hn e.1).trans (g1 i' j hn), fun k hk => ?_⟩
      · unfold Md_takeAll_L109
        dsimp only
        rw [if_neg (show ¬ (24 : Int32) ≤ nI i from fun z => by have := (q_le (a := 24) (by omega) (by omega)).mp z; omega), if_pos (nI_in (by omega) (by omega)), if_pos (nI_in (by omega) (by omega)), q_ix (by omega), e66, show nI i + 1 = nI (i + 1) from q_add i 1]
      · by_cases y : k = i
        · rw [y]; exact tb_h
        · exact (tb_n fun e => y e.2).trans (g2 k (by omega))
    · obtain ⟨k', T2⟩ := q
      obtain ⟨(e : k' = nI 24), g⟩ := hq
      subst e
      exact ⟨T2, rfl, g⟩
  have g69 : ∀ r, r < m 2 → ∀ s, s < 4 → gi Tg 69 (4 * r + s) = nI (xN S 2 r s) := fun r hr s hs => (k2 _ (by omega)).trans (x66 r hr s hs)
  have go70 : ∀ j, gi Tg 70 j = gi Te 70 j := fun j => (k1 70 j (by omega)).trans (ffo 70 j (by omega))
  have g137 : gi Tg 70 137 = nI (xN S 0 0 2) := (go70 137).trans ((f2 137 (by omega)).trans dd137)
  /- trains -/
  obtain ⟨Th, eh, l1, l2, l3⟩ : ∃ Th, lpN Md_takeAll_L135 FU (0, Tg) = some Th ∧ (∀ i j, i ≠ 70 → Th.1 i j = Tg.1 i j) ∧ (∀ j, j < 88 ∨ 88 + 6 * m 2 ≤ j → gi Th 70 j = gi Tg 70 j) ∧ ∀ r, r < m 2 → gi Th 70 (88 + 6 * r + 0) = nI (xN S 2 r 0) ∧ gi Th 70 (88 + 6 * r + 1) = nI (xN S 2 r 1) ∧ gi Th 70 (88 + 6 * r + 2) = nI (xN S 0 0 2 + xN S 2 r 2) ∧ gi Th 70 (88 + 6 * r + 3) = nI (xN S 0 0 2 + xN S 2 r 2) ∧ gi Th 70 (88 + 6 * r + 4) = nI (xN S 2 r 3) ∧ gi Th 70 (88 + 6 * r + 5) = mI := by
    refine lp_inv (fun i (q : Int32 × Sm) => q.1 = nI i ∧ (∀ i j, i ≠ 70 → q.2.1 i j = Tg.1 i j) ∧ (∀ j, j < 88 ∨ 88 + 6 * m 2 ≤ j → gi q.2 70 j = gi Tg 70 j) ∧ ∀ r, r < i → gi q.2 70 (88 + 6 * r + 0) = nI (xN S 2 r 0) ∧ gi q.2 70 (88 + 6 * r + 1) = nI (xN S 2 r 1) ∧ gi q.2 70 (88 + 6 * r + 2) = nI (xN S 0 0 2 + xN S 2 r 2) ∧ gi q.2 70 (88 + 6 * r + 3) = nI (xN S 0 0 2 + xN S 2 r 2) ∧ gi q.2 70 (88 + 6 * r + 4) = nI (xN S 2 r 3) ∧ gi q.2 70 (88 + 6 * r + 5) = mI) (m 2) (by omega) ⟨rfl, fun _ _ _ => rfl, fun _ _ => rfl, fun r z => absurd z (by omega)⟩ (fun i q hi hq => ?_) (fun q hq => ?_)
    · obtain ⟨k', T2⟩ := q
      obtain ⟨(e : k' = nI i), g1, g2, g3⟩ := hq
      subst e
      have g1 : ∀ i j, i ≠ 70 → T2.1 i j = Tg.1 i j := g1
      have g2 : ∀ j, j < 88 ∨ 88 + 6 * m 2 ≤ j → gi T2 70 j = gi Tg 70 j := g2
      have g3 : ∀ r, r < i → gi T2 70 (88 + 6 * r + 0) = nI (xN S 2 r 0) ∧ gi T2 70 (88 + 6 * r + 1) = nI (xN S 2 r 1) ∧ gi T2 70 (88 + 6 * r + 2) = nI (xN S 0 0 2 + xN S 2 r 2) ∧ gi T2 70 (88 + 6 * r + 3) = nI (xN S 0 0 2 + xN S 2 r 2) ∧ gi T2 70 (88 + 6 * r + 4) = nI (xN S 2 r 3) ∧ gi T2 70 (88 + 6 * r + 5) = mI := g3
      have e69 : ∀ s, s < 4 → gi T2 69 (4 * i + s) = nI (xN S 2 i s) := fun s hs => (g1 69 _ (by omega)).trans (g69 i hi s hs)
      have e0 : gi T2 69 (4 * i) = nI (xN S 2 i 0) := e69 0 (by omega)
      have e26 : gi T2 53 26 = nI (m 2) := (g1 53 26 (by omega)).trans ((k1 53 26 (by omega)).trans ff26)
      have e137 : gi T2 70 137 = nI (xN S 0 0 2) := (g2 137 (by omega)).trans g137
      have aT : Md_begin (nI i) (nI (xN S 2 i 0)) (nI (xN S 2 i 1)) (nI (xN S 0 0 2 + xN S 2 i 2)) (nI (xN S 2 i 3)) T2 = some (si (si (si (si (si (si T2 70 (88 + 6 * i + 0) (nI (xN S 2 i 0))) 70 (88 + 6 * i + 1) (nI (xN S 2 i 1))) 70 (88 + 6 * i + 2) (nI (xN S 0 0 2 + xN S 2 i 2))) 70 (88 + 6 * i + 3) (nI (xN S 0 0 2 + xN S 2 i 2))) 70 (88 + 6 * i + 4) (nI (xN S 2 i 3))) 70 (88 + 6 * i + 5) mI) := by
        unfold Md_begin
        simp (disch := omega) only [q_lit, q_m1, q_m2, q_hid, q_add, q_mul, q_sub, q_le, q_lt, q_eq, q_mlt, q_mle, q_ltm, q_lem, q_meq, q_eqm, q_m2lt, q_m2le, q_ltm2, q_lem2, q_eqm2, q_mm2, q_m2m, q_mm, q_mnm, q_ix, q_inb, q_a0, q_a1, q_app, q_bind, if_true, if_false, if_pos, if_neg, md_put]
      generalize hT6 : si (si (si (si (si (si T2 70 (88 + 6 * i + 0) (nI (xN S 2 i 0))) 70 (88 + 6 * i + 1) (nI (xN S 2 i 1))) 70 (88 + 6 * i + 2) (nI (xN S 0 0 2 + xN S 2 i 2))) 70 (88 + 6 * i + 3) (nI (xN S 0 0 2 + xN S 2 i 2))) 70 (88 + 6 * i + 4) (nI (xN S 2 i 3))) 70 (88 + 6 * i + 5) mI = T6 at aT
      have tO : ∀ b j, b ≠ 70 → T6.1 b j = T2.1 b j := fun b j h1 => by subst hT6; rw [si_row h1, si_row h1, si_row h1, si_row h1, si_row h1, si_row h1]
      have t70 : ∀ j, j < 88 + 6 * i ∨ 94 + 6 * i ≤ j → gi T6 70 j = gi T2 70 j := fun j hj => by subst hT6; (show gi _ _ _ = _; repeat (first | rw [tb_h] | rw [tb_n (by omega)] | rw [tb_e (by omega)])); try rfl
      have v0 : gi T6 70 (88 + 6 * i + 0) = nI (xN S 2 i 0) := by subst hT6; (show gi _ _ _ = _; repeat (first | rw [tb_h] | rw [tb_n (by omega)] | rw [tb_e (by omega)])); try rfl
      have v1 : gi T6 70 (88 + 6 * i + 1) = nI (xN S 2 i 1) := by subst hT6; (show gi _ _ _ = _; repeat (first | rw [tb_h] | rw [tb_n (by omega)] | rw [tb_e (by omega)])); try rfl
      have v2 : gi T6 70 (88 + 6 * i + 2) = nI (xN S 0 0 2 + xN S 2 i 2) := by subst hT6; (show gi _ _ _ = _; repeat (first | rw [tb_h] | rw [tb_n (by omega)] | rw [tb_e (by omega)])); try rfl
      have v3 : gi T6 70 (88 + 6 * i + 3) = nI (xN S 0 0 2 + xN S 2 i 2) := by subst hT6; (show gi _ _ _ = _; repeat (first | rw [tb_h] | rw [tb_n (by omega)] | rw [tb_e (by omega)])); try rfl
      have v4 : gi T6 70 (88 + 6 * i + 4) = nI (xN S 2 i 3) := by subst hT6; (show gi _ _ _ = _; repeat (first | rw [tb_h] | rw [tb_n (by omega)] | rw [tb_e (by omega)])); try rfl
      have v5 : gi T6 70 (88 + 6 * i + 5) = mI := by subst hT6; (show gi _ _ _ = _; repeat (first | rw [tb_h] | rw [tb_n (by omega)] | rw [tb_e (by omega)])); try rfl
      have m4 : (4 : Int32) * nI i = nI (4 * i) := q_mul 4 i
      have n1 : nI (4 * i) + 1 = nI (4 * i + 1) := q_add _ 1
      have n2 : nI (4 * i) + 2 = nI (4 * i + 2) := q_add _ 2
      have n3 : nI (4 * i) + 3 = nI (4 * i + 3) := q_add _ 3
      refine Or.inl ⟨(nI (i + 1), T6), ?_, rfl, fun i' j a => (tO i' j a).trans (g1 i' j a), fun j hj => (t70 j (by omega)).trans (g2 j hj), fun r hr => ?_⟩
      · unfold Md_takeAll_L135
        dsimp only
        rw [e26, if_neg (nI_ge hi (by omega)), m4, n1, n2, n3, if_pos (nI_in (by omega) (by omega)), if_pos (nI_in (by omega) (by omega)), if_pos (nI_in (by omega) (by omega)), if_pos (nI_in (by omega) (by omega)), q_ix (by omega), q_ix (by omega), q_ix (by omega), q_ix (by omega), e0, e69 1 (by omega), e69 2 (by omega), e69 3 (by omega), e137, q_add, aT, q_bind, show nI i + 1 = nI (i + 1) from q_add i 1]
      · by_cases y : r = i
        · subst y; exact ⟨v0, v1, v2, v3, v4, v5⟩
        · obtain ⟨y0, y1, y2, y3, y4, y5⟩ := g3 r (by omega)
          exact ⟨(t70 _ (by omega)).trans y0, (t70 _ (by omega)).trans y1, (t70 _ (by omega)).trans y2, (t70 _ (by omega)).trans y3, (t70 _ (by omega)).trans y4, (t70 _ (by omega)).trans y5⟩
    · obtain ⟨k', T2⟩ := q
      obtain ⟨(e : k' = nI (m 2)), g1, g⟩ := hq
      subst e
      have g1 : ∀ i j, i ≠ 70 → T2.1 i j = Tg.1 i j := g1
      have e26 : gi T2 53 26 = nI (m 2) := (g1 53 26 (by omega)).trans ((k1 53 26 (by omega)).trans ff26)
      refine ⟨T2, ?_, g1, g⟩
      unfold Md_takeAll_L135
      exact if_pos (by show gi T2 53 26 ≤ nI (m 2); rw [e26]; exact nI_le (Nat.le_refl _) (by omega))
  have h26 : gi Th 53 26 = nI (m 2) := (l1 53 26 (by omega)).trans ((k1 53 26 (by omega)).trans ff26)
  generalize hTz : si (si (si (si Th 70 136 (nI (m 2))) 53 49 0) 53 34 0) 53 57 0 = Tz
  have z70 : ∀ j, j ≠ 136 → gi Tz 70 j = gi Th 70 j := fun j hj => by
    subst hTz
    rw [tb_n fun e => absurd e.1 (by decide), tb_n fun e => absurd e.1 (by decide), tb_n fun e => absurd e.1 (by decide), tb_n fun e => hj e.2]
  have z136 : gi Tz 70 136 = nI (m 2) := by
    subst hTz
    rw [tb_n fun e => absurd e.1 (by decide), tb_n fun e => absurd e.1 (by decide), tb_n fun e => absurd e.1 (by decide)]; exact tb_h
  have z53 : ∀ j, j ≠ 49 → j ≠ 34 → j ≠ 57 → gi Tz 53 j = gi Th 53 j := fun j a c d => by
    subst hTz
    rw [tb_n fun e => d e.2, tb_n fun e => c e.2, tb_n fun e => a e.2, tb_n fun e => absurd e.1 (by decide)]
  have z49 : gi Tz 53 49 = nI 0 := by
    subst hTz
    rw [tb_n fun e => absurd e.2 (by decide), tb_n fun e => absurd e.2 (by decide)]; exact tb_h
  have z34 : gi Tz 53 34 = nI 0 := by
    subst hTz
    rw [tb_n fun e => absurd e.2 (by decide)]; exact tb_h
  have z57 : gi Tz 53 57 = nI 0 := by subst hTz; exact tb_h
  have zo : ∀ i j, i ≠ 53 → i ≠ 70 → Tz.1 i j = Th.1 i j := fun i j a c => by
    subst hTz
    show gi _ i j = gi Th i j
    rw [tb_n fun e => a e.1, tb_n fun e => a e.1, tb_n fun e => a e.1, tb_n fun e => c e.1]
  have ho53 : ∀ j, j ≠ 26 → gi Th 53 j = gi Tc 53 j := fun j hj => (l1 53 j (by omega)).trans ((k1 53 j (by omega)).trans ((ffo 53 j fun e => hj e.2).trans (eo 53 j (by omega))))
  have ho : ∀ i j, i ≠ 53 → i ≠ 69 → i ≠ 70 → Th.1 i j = Tc.1 i j := fun i j a c d => (l1 i j d).trans ((k1 i j c).trans ((ffo i j fun e => a e.1).trans (eo i j d)))
  have low : ∀ j, j < 80 → gi Tz 70 j = gi Tc 70 j := fun j hj => (z70 j (by omega)).trans ((l2 j (by omega)).trans ((go70 j).trans ((f2 j (by omega)).trans (dd70 j (by omega)))))
  have z68 : ∀ s, s < 4 → gi Tz 68 s = nI (xN S 0 0 s) := fun s hs => (zo 68 s (by omega) (by omega)).trans ((ho 68 s (by omega) (by omega) (by omega)).trans (c68 s hs))
  refine ⟨Tz, ?_, fun i j a c d e f g => (zo i j a e).trans ((ho i j a d e).trans (co i j a c e f g)), fun j a c d e f g => (z53 j f e g).trans ((ho53 j c).trans (c53 j a d)), ⟨(z53 2 (by omega) (by omega) (by omega)).trans ((ho53 2 (by omega)).trans ((d2 2 (by omega)).trans ((bo 53 2 (by omega) (by omega)).trans tb_h))), (z53 26 (by omega) (by omega) (by omega)).trans h26, (z53 30 (by omega) (by omega) (by omega)).trans ((ho53 30 (by omega)).trans d4), z34, z49, z57⟩, z68, fun r hr s hs => (zo 69 _ (by omega) (by omega)).trans ((l1 69 _ (by omega)).trans (g69 r hr s hs)), fun d hd hn => ?_, fun e he => ?_, fun j u hj => ?_, ⟨z136, ?_, ?_, ?_⟩, fun g hg => ?_, fun r hr => ?_⟩
  · unfold Md_takeAll
    rw [ea, q_bind, eb, q_bind, ec, q_bind, hTd, ee, q_bind, hTf, eg, q_bind, eh, q_bind, h26, hTz, z68 0 (by omega)]
  · exact ⟨(low d (by omega)).trans (d5 d hd hn).1, (low _ (by omega)).trans (d5 d hd hn).2⟩
  · have dk := (dk_lt h he).2.2.2.2.2
    exact ⟨(low _ (by omega)).trans (d6 e he).1, (low _ (by omega)).trans (d6 e he).2⟩
  · obtain ⟨u1, u2⟩ := d7 j u hj
    exact ⟨(zo 71 j (by omega) (by omega)).trans ((ho 71 j (by omega) (by omega) (by omega)).trans u1), (zo 72 j (by omega) (by omega)).trans ((ho 72 j (by omega) (by omega) (by omega)).trans u2)⟩
  · exact (z70 137 (by omega)).trans ((l2 137 (by omega)).trans g137)
  · exact (z70 138 (by omega)).trans ((l2 138 (by omega)).trans ((go70 138).trans ((f2 138 (by omega)).trans ((dd70 138 (by omega)).trans ((d3 138 (by omega)).trans (b2 138 (by omega)))))))
  · exact (z70 139 (by omega)).trans ((l2 139 (by omega)).trans ((go70 139).trans ((f2 139 (by omega)).trans ((dd70 139 (by omega)).trans ((d3 139 (by omega)).trans (b2 139 (by omega)))))))
  · exact (z70 _ (by omega)).trans ((l2 _ (by omega)).trans ((go70 _).trans (f3 g hg)))
  · obtain ⟨y0, y1, y2, y3, y4, y5⟩ := l3 r hr
    exact ⟨(z70 _ (by omega)).trans y0, (z70 _ (by omega)).trans y1, (z70 _ (by omega)).trans y2, (z70 _ (by omega)).trans y3, (z70 _ (by omega)).trans y4, (z70 _ (by omega)).trans y5⟩
end TA
