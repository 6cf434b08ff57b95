/-! ===== timetables: where the trains come out, by the reference ===== -/
def TbT (T : Sm) (F k : Nat) (T2 : Sm) : Prop := ∀ r l i, l < 5 → 5 * r + l < k → i < 3 → (i < tbN T r → gi T2 77 (3 * (5 * r + l) + i) = nI (tbH T F r i + l) ∧ gi T2 78 (3 * (5 * r + l) + i) = nI (tbM T F r i) ∧ gi T2 79 (3 * (5 * r + l) + i) = nI (tbL T F r i)) ∧ (tbN T r ≤ i → gi T2 77 (3 * (5 * r + l) + i) = mI)
section TB
variable {N K F R w : Nat} {U : List Nat} {X : List (List Cl)} {T S : Sm}
theorem md_lo (h : RelP N K F R U X w T S) (hN : 0 < N) {r l : Nat} (hr : r < R) (hl : l < 5) {T1 : Sm} (g : SamT T T1) (b : TbT T F (5 * r + l) T1) : ∃ T2, Md_layOut (nI r) (nI l) T1 = some T2 ∧ SamT T T2 ∧ TbT T F (5 * r + l + 1) T2 := by
  obtain ⟨h6, hm, hc, hs, hd, hi, -⟩ := tb_d h hr
  obtain ⟨-, hW, -⟩ := hours_S h hN
  obtain ⟨hP, -⟩ := way_of h hN
  have hF : F ≤ 9 := h.1.2.2.2.2.2.2.2.2.1
  have h8 := hP.1
  have hc6 : tbD T r 1 < 6 := by have := hP.2.1; omega
  have nf : ∀ T', SamT T T' → gi T' 68 3 = nI F := fun T' g' => (h.same (SamS.rfl S) g').1.2.2.2.2.2.1
  have e69 : ∀ T', SamT T T' → ∀ k, k < 4 → gi T' 69 (4 * r + k) = nI (tbD T r k) := fun T' g' k hk => (congrFun (g'.row 69 fun _ => rfl) _).trans (hi k hk)
  have n3 : tbN T r ≤ 3 := Nat.min_le_left _ _
  have nd : tbN T r ≤ tbD T r 3 := Nat.min_le_right _ _
  have nn : ∀ i, i < 3 → tbN T r ≤ i → tbD T r 3 ≤ i := fun i a c => by unfold tbN at c; omega
  suffices hx : ∃ q, lpN (Md_layOut_L29 (nI r) (nI l) (nI (tbD T r 2 + l))) FU (nI (tbD T r 2 + l), nI (tbD T r 0), 0, T1) = some q ∧ SamT T q ∧ (∀ j, j < 3 * (5 * r + l) → gi q 77 j = gi T1 77 j ∧ gi q 78 j = gi T1 78 j ∧ gi q 79 j = gi T1 79 j) ∧ ∀ i, i < 3 → (i < tbN T r → gi q 77 (3 * (5 * r + l) + i) = nI (tbH T F r i + l) ∧ gi q 78 (3 * (5 * r + l) + i) = nI (tbM T F r i) ∧ gi q 79 (3 * (5 * r + l) + i) = nI (tbL T F r i)) ∧ (tbN T r ≤ i → gi q 77 (3 * (5 * r + l) + i) = mI) by
    obtain ⟨q, e, k1, k2, k3⟩ := hx
    refine ⟨q, ?_, k1, fun r' l' i hl' hk hi3 => ?_⟩
    · have z0 := e69 T1 g 0 (by omega)
      have z0' : gi T1 69 (4 * r) = nI (tbD T r 0) := z0
      have z2 := e69 T1 g 2 (by omega)
      have e' : lpN (Md_layOut_L29 (nI r) (nI l) (nI (tbD T r 2 + l))) FU (nI (tbD T r 2 + l), nI (tbD T r 0), nI 0, T1) = some q := e
      unfold Md_layOut
      simp (disch := omega) only [q_lit, q_m1, q_m2, q_hid, q_add, q_mul, q_sub, q_le, q_lt, q_eq, q_mlt, q_mle, q_ltm, q_lem, q_meq, q_eqm, q_m2lt, q_m2le, q_ltm2, q_lem2, q_eqm2, q_mm2, q_m2m, q_mm, q_mnm, q_ix, q_inb, q_a0, q_a1, q_app, q_bind, if_true, if_false, if_pos, if_neg, z0', z2, e']
    · by_cases y : 5 * r' + l' = 5 * r + l
      · have y1 : r' = r := by omega
        have y2 : l' = l := by omega
        subst y1 y2
        exact k3 i hi3
      · obtain ⟨b1, b2⟩ := b r' l' i hl' (by omega) hi3
        obtain ⟨c1, c2, c3⟩ := k2 (3 * (5 * r' + l') + i) (by omega)
        rw [c1, c2, c3]
        exact ⟨b1, b2⟩
  refine lp_inv (fun i (q : Int32 × Int32 × Int32 × Sm) => q.1 = nI (tbD T r 2 + l + (tbW T F r (min i (tbN T r))).2) ∧ q.2.1 = nI (tbW T F r (min i (tbN T r))).1 ∧ q.2.2.1 = nI i ∧ SamT T q.2.2.2 ∧ (∀ j, j < 3 * (5 * r + l) → gi q.2.2.2 77 j = gi T1 77 j ∧ gi q.2.2.2 78 j = gi T1 78 j ∧ gi q.2.2.2 79 j = gi T1 79 j) ∧ ∀ j, j < i → (j < tbN T r → gi q.2.2.2 77 (3 * (5 * r + l) + j) = nI (tbH T F r j + l) ∧ gi q.2.2.2 78 (3 * (5 * r + l) + j) = nI (tbM T F r j) ∧ gi q.2.2.2 79 (3 * (5 * r + l) + j) = nI (tbL T F r j)) ∧ (tbN T r ≤ j → gi q.2.2.2 77 (3 * (5 * r + l) + j) = mI)) 3 (by omega) ⟨?_, ?_, rfl, g, fun j _ => ⟨rfl, rfl, rfl⟩, fun j z => absurd z (by omega)⟩ (fun i q hi hq => ?_) (fun q hq => ?_)
  · rw [Nat.zero_min]; rfl
  · rw [Nat.zero_min]; rfl
  · obtain ⟨m', a', k', T2⟩ := q
    obtain ⟨(e1 : m' = _), (e2 : a' = _), (e4 : k' = _), (k1 : SamT T T2), k3, k4⟩ := hq
    subst e1 e2 e4
    have k3 : ∀ j, j < 3 * (5 * r + l) → gi T2 77 j = gi T1 77 j ∧ gi T2 78 j = gi T1 78 j ∧ gi T2 79 j = gi T1 79 j := k3
    have k4 : ∀ j, j < i → (j < tbN T r → gi T2 77 (3 * (5 * r + l) + j) = nI (tbH T F r j + l) ∧ gi T2 78 (3 * (5 * r + l) + j) = nI (tbM T F r j) ∧ gi T2 79 (3 * (5 * r + l) + j) = nI (tbL T F r j)) ∧ (tbN T r ≤ j → gi T2 77 (3 * (5 * r + l) + j) = mI) := k4
    have g1 : SamT T (si T2 77 (3 * (5 * r + l) + i) mI) := k1.si rfl
    have d3 := e69 _ g1 3 (by omega)
    by_cases y : i < tbN T r
    · have m1 : min i (tbN T r) = i := by omega
      have m2 : min (i + 1) (tbN T r) = i + 1 := by omega
      rw [m1]
      obtain ⟨b1, b2⟩ := tb_w h hN hr i
      have es : tbW T F r (i + 1) = (Ld (T.1 70) (tbW T F r i).1 (fd (tbD T r 1) (tbW T F r i).2 F), (tbW T F r i).2 + Ln (T.1 70) (tbW T F r i).1 (fd (tbD T r 1) (tbW T F r i).2 F)) := rfl
      obtain ⟨p1, p2, p3⟩ := hP.2.2.2.2 (tbW T F r i).1 (fd (tbD T r 1) (tbW T F r i).2 F) b1 (fd_lamp hc)
      have c1 := e69 _ g1 1 (by omega)
      have f1 : Md_faded (nI (tbD T r 1)) (nI (tbD T r 2 + l + (tbW T F r i).2 - (tbD T r 2 + l))) (si T2 77 (3 * (5 * r + l) + i) mI) = some (nI (fd (tbD T r 1) (tbW T F r i).2 F)) := by
        rw [show tbD T r 2 + l + (tbW T F r i).2 - (tbD T r 2 + l) = (tbW T F r i).2 by omega]
        exact md_fd (nf _ g1) hc6 (by omega) hF
      obtain ⟨w1, w2⟩ := (hW _ g1).2.2 (tbW T F r i).1 (fd (tbD T r 1) (tbW T F r i).2 F) b1 (fd_lamp hc)
      have g2 : ∀ v u, SamT T (si (si (si T2 77 (3 * (5 * r + l) + i) mI) 77 (3 * (5 * r + l) + i) v) 78 (3 * (5 * r + l) + i) u) := fun v u => (g1.si rfl).si rfl
      have c2 : ∀ v u, gi (si (si (si T2 77 (3 * (5 * r + l) + i) mI) 77 (3 * (5 * r + l) + i) v) 78 (3 * (5 * r + l) + i) u) 69 (4 * r + 1) = nI (tbD T r 1) := fun v u => e69 _ (g2 v u) 1 (by omega)
      have f2 : ∀ v u, Md_faded (nI (tbD T r 1)) (nI (tbD T r 2 + l + (tbW T F r i).2 + Ln (T.1 70) (tbW T F r i).1 (fd (tbD T r 1) (tbW T F r i).2 F) - (tbD T r 2 + l))) (si (si (si T2 77 (3 * (5 * r + l) + i) mI) 77 (3 * (5 * r + l) + i) v) 78 (3 * (5 * r + l) + i) u) = some (nI (tbL T F r i)) := fun v u => by
        rw [show tbD T r 2 + l + (tbW T F r i).2 + Ln (T.1 70) (tbW T F r i).1 (fd (tbD T r 1) (tbW T F r i).2 F) - (tbD T r 2 + l) = (tbW T F r i).2 + Ln (T.1 70) (tbW T F r i).1 (fd (tbD T r 1) (tbW T F r i).2 F) by omega]
        exact md_fd (nf _ (g2 v u)) hc6 (by omega) hF
      have eh : tbH T F r i + l = tbD T r 2 + l + (tbW T F r i).2 + Ln (T.1 70) (tbW T F r i).1 (fd (tbD T r 1) (tbW T F r i).2 F) := by
        show tbD T r 2 + ((tbW T F r i).2 + Ln (T.1 70) (tbW T F r i).1 (fd (tbD T r 1) (tbW T F r i).2 F)) + l = _
        omega
      have em : tbM T F r i = Ld (T.1 70) (tbW T F r i).1 (fd (tbD T r 1) (tbW T F r i).2 F) := rfl
      refine Or.inl ⟨(nI (tbH T F r i + l), nI (tbM T F r i), nI (i + 1), si (si (si (si T2 77 (3 * (5 * r + l) + i) mI) 77 (3 * (5 * r + l) + i) (nI (tbH T F r i + l))) 78 (3 * (5 * r + l) + i) (nI (tbM T F r i))) 79 (3 * (5 * r + l) + i) (nI (tbL T F r i))), ?_, ?_, ?_, rfl, (g2 _ _).si rfl, fun j hj => ?_, fun j hj => ?_⟩
      · rw [eh, em]
        unfold Md_layOut_L29 Md_layOut_156_L29
        simp (disch := omega) only [q_lit, q_m1, q_m2, q_hid, q_add, q_mul, q_sub, q_le, q_lt, q_eq, q_mlt, q_mle, q_ltm, q_lem, q_meq, q_eqm, q_m2lt, q_m2le, q_ltm2, q_lem2, q_eqm2, q_mm2, q_m2m, q_mm, q_mnm, q_ix, q_inb, q_a0, q_a1, q_app, q_bind, if_true, if_false, if_pos, if_neg, d3, c1, f1, w1, w2, c2, f2]
      · show nI (tbH T F r i + l) = _
        rw [m2, eh, es]
        exact congrArg nI (by omega)
      · show nI (tbM T F r i) = _
        rw [m2]; rfl
      · show gi (si (si (si (si T2 77 _ _) 77 _ _) 78 _ _) 79 _ _) 77 j = _ ∧ gi (si (si (si (si T2 77 _ _) 77 _ _) 78 _ _) 79 _ _) 78 j = _ ∧ gi (si (si (si (si T2 77 _ _) 77 _ _) 78 _ _) 79 _ _) 79 j = _
        obtain ⟨x1, x2, x3⟩ := k3 j hj
        refine ⟨?_, ?_, ?_⟩
        · rw [tb_n (fun e => absurd e.1 (by decide)), tb_n (fun e => absurd e.1 (by decide)), tb_n (fun e => by omega), tb_n (fun e => by omega)]; exact x1
        · rw [tb_n (fun e => absurd e.1 (by decide)), tb_n (fun e => by omega), tb_n (fun e => absurd e.1 (by decide)), tb_n (fun e => absurd e.1 (by decide))]; exact x2
        · rw [tb_n (fun e => by omega), tb_n (fun e => absurd e.1 (by decide)), tb_n (fun e => absurd e.1 (by decide)), tb_n (fun e => absurd e.1 (by decide))]; exact x3
      · show (j < tbN T r → gi (si (si (si (si T2 77 _ _) 77 _ _) 78 _ _) 79 _ _) 77 _ = _ ∧ gi (si (si (si (si T2 77 _ _) 77 _ _) 78 _ _) 79 _ _) 78 _ = _ ∧ gi (si (si (si (si T2 77 _ _) 77 _ _) 78 _ _) 79 _ _) 79 _ = _) ∧ (tbN T r ≤ j → gi (si (si (si (si T2 77 _ _) 77 _ _) 78 _ _) 79 _ _) 77 _ = _)
        by_cases z : j = i
        · subst z
          refine ⟨fun _ => ⟨?_, ?_, tb_h⟩, fun c => absurd y (by omega)⟩
          · rw [tb_n (fun e => absurd e.1 (by decide)), tb_n (fun e => absurd e.1 (by decide)), tb_h]
          · rw [tb_n (fun e => absurd e.1 (by decide)), tb_h]
        · obtain ⟨x1, x2⟩ := k4 j (by omega)
          have a1 : ∀ u v p q, gi (si (si (si (si T2 77 (3 * (5 * r + l) + i) u) 77 (3 * (5 * r + l) + i) v) 78 (3 * (5 * r + l) + i) p) 79 (3 * (5 * r + l) + i) q) 77 (3 * (5 * r + l) + j) = gi T2 77 (3 * (5 * r + l) + j) := fun u v p q => by
            rw [tb_n (fun e => absurd e.1 (by decide)), tb_n (fun e => absurd e.1 (by decide)), tb_n (fun e => by omega), tb_n (fun e => by omega)]
          rw [a1, tb_n (fun e => absurd e.1 (by decide)), tb_n (fun e => by omega), tb_n (fun e => absurd e.1 (by decide)), tb_n (fun e => absurd e.1 (by decide)), tb_n (fun e => by omega), tb_n (fun e => absurd e.1 (by decide)), tb_n (fun e => absurd e.1 (by decide)), tb_n (fun e => absurd e.1 (by decide))]
          exact ⟨x1, x2⟩
    · have m1 : min i (tbN T r) = tbN T r := by omega
      have m2 : min (i + 1) (tbN T r) = tbN T r := by omega
      rw [m1]
      have dy := nn i hi (by omega)
      refine Or.inl ⟨(nI (tbD T r 2 + l + (tbW T F r (tbN T r)).2), nI (tbW T F r (tbN T r)).1, nI (i + 1), si T2 77 (3 * (5 * r + l) + i) mI), ?_, ?_, ?_, rfl, g1, fun j hj => ?_, fun j hj => ?_⟩
      · unfold Md_layOut_L29 Md_layOut_156_L29
        simp (disch := omega) only [q_lit, q_m1, q_m2, q_hid, q_add, q_mul, q_sub, q_le, q_lt, q_eq, q_mlt, q_mle, q_ltm, q_lem, q_meq, q_eqm, q_m2lt, q_m2le, q_ltm2, q_lem2, q_eqm2, q_mm2, q_m2m, q_mm, q_mnm, q_ix, q_inb, q_a0, q_a1, q_app, q_bind, if_true, if_false, if_pos, if_neg, d3]
      · rw [m2]
      · rw [m2]
      · show gi (si T2 77 _ _) 77 j = _ ∧ gi (si T2 77 _ _) 78 j = _ ∧ gi (si T2 77 _ _) 79 j = _
        rw [tb_n (fun e => by omega), tb_n (fun e => absurd e.1 (by decide)), tb_n (fun e => absurd e.1 (by decide))]
        exact k3 j hj
      · show (j < tbN T r → gi (si T2 77 _ _) 77 _ = _ ∧ gi (si T2 77 _ _) 78 _ = _ ∧ gi (si T2 77 _ _) 79 _ = _) ∧ (tbN T r ≤ j → gi (si T2 77 _ _) 77 _ = _)
        by_cases z : j = i
        · subst z
          exact ⟨fun c => absurd c y, fun _ => tb_h⟩
        · rw [tb_n (fun e => by omega), tb_n (fun e => absurd e.1 (by decide)), tb_n (fun e => absurd e.1 (by decide))]
          exact k4 j (by omega)
  · obtain ⟨m', a', k', S2⟩ := q
    obtain ⟨-, -, (e4 : k' = _), (k1 : SamT T S2), k3, k4⟩ := hq
    subst e4
    refine ⟨S2, ?_, k1, k3, k4⟩
    unfold Md_layOut_L29
    simp (disch := omega) only [q_lit, q_m1, q_m2, q_hid, q_add, q_mul, q_sub, q_le, q_lt, q_eq, q_mlt, q_mle, q_ltm, q_lem, q_meq, q_eqm, q_m2lt, q_m2le, q_ltm2, q_lem2, q_eqm2, q_mm2, q_m2m, q_mm, q_mnm, q_ix, q_inb, q_a0, q_a1, q_app, q_bind, if_true, if_false, if_pos, if_neg, Nat.le_refl]
theorem md_n (h : RelP N K F R U X w T S) {T1 : Sm} (g : SamT T T1) : gi T1 53 26 = nI R := (h.same (SamS.rfl S) g).2.1.2.2.1
theorem md_los (h : RelP N K F R U X w T S) (hN : 0 < N) : ∃ T2, Md_layOuts T = some T2 ∧ SamT T T2 ∧ TbT T F (5 * R) T2 := by
  have h6 : R ≤ 6 := h.2.1.1
  suffices hl : ∃ q, lpN Md_layOuts_L2 FU (0, T) = some q ∧ SamT T q ∧ TbT T F (5 * R) q by
    obtain ⟨q, e, k⟩ := hl
    refine ⟨q, ?_, k⟩
    unfold Md_layOuts
    rw [e]; rfl
  refine lp_inv (fun i (q : Int32 × Sm) => q.1 = nI i ∧ SamT T q.2 ∧ TbT T F (5 * i) q.2) R (by omega) ⟨rfl, SamT.rfl T, fun r l i _ z => absurd z (by omega)⟩ (fun i q hi hq => ?_) (fun q hq => ?_)
  · obtain ⟨k', T2⟩ := q
    obtain ⟨(e4 : k' = _), (k1 : SamT T T2), k2⟩ := hq
    subst e4
    suffices hl : ∃ q, lpN (Md_layOuts_L12 (nI i)) FU (nI 0, T2) = some q ∧ SamT T q ∧ TbT T F (5 * i + 5) q by
      obtain ⟨T3, e, k3, k4⟩ := hl
      refine Or.inl ⟨(nI (i + 1), T3), ?_, rfl, k3, k4⟩
      unfold Md_layOuts_L2
      simp (disch := omega) only [q_lit, q_m1, q_m2, q_hid, q_add, q_mul, q_sub, q_le, q_lt, q_eq, q_mlt, q_mle, q_ltm, q_lem, q_meq, q_eqm, q_m2lt, q_m2le, q_ltm2, q_lem2, q_eqm2, q_mm2, q_m2m, q_mm, q_mnm, q_ix, q_inb, q_a0, q_a1, q_app, q_bind, if_true, if_false, if_pos, if_neg, md_n h k1, e]
    refine lp_inv (fun l (q : Int32 × Sm) => q.1 = nI l ∧ SamT T q.2 ∧ TbT T F (5 * i + l) q.2) 5 (by omega) ⟨rfl, k1, k2⟩ (fun l q hl hq => ?_) (fun q hq => ?_)
    · obtain ⟨k', T3⟩ := q
      obtain ⟨(e4 : k' = _), (k1 : SamT T T3), k2⟩ := hq
      subst e4
      obtain ⟨T4, e, k3, k4⟩ := md_lo h hN hi hl k1 k2
      refine Or.inl ⟨(nI (l + 1), T4), ?_, rfl, k3, k4⟩
      unfold Md_layOuts_L12
      simp (disch := omega) only [q_lit, q_m1, q_m2, q_hid, q_add, q_mul, q_sub, q_le, q_lt, q_eq, q_mlt, q_mle, q_ltm, q_lem, q_meq, q_eqm, q_m2lt, q_m2le, q_ltm2, q_lem2, q_eqm2, q_mm2, q_m2m, q_mm, q_mnm, q_ix, q_inb, q_a0, q_a1, q_app, q_bind, if_true, if_false, if_pos, if_neg, e]
    · obtain ⟨k', T3⟩ := q
      obtain ⟨(e4 : k' = _), (k1 : SamT T T3), k2⟩ := hq
      subst e4
      refine ⟨T3, ?_, k1, k2⟩
      unfold Md_layOuts_L12
      simp (disch := omega) only [q_lit, q_m1, q_m2, q_hid, q_add, q_mul, q_sub, q_le, q_lt, q_eq, q_mlt, q_mle, q_ltm, q_lem, q_meq, q_eqm, q_m2lt, q_m2le, q_ltm2, q_lem2, q_eqm2, q_mm2, q_m2m, q_mm, q_mnm, q_ix, q_inb, q_a0, q_a1, q_app, q_bind, if_true, if_false, if_pos, if_neg, Nat.le_refl]
  · obtain ⟨k', T2⟩ := q
    obtain ⟨(e4 : k' = _), (k1 : SamT T T2), k2⟩ := hq
    subst e4
    refine ⟨T2, ?_, k1, k2⟩
    unfold Md_layOuts_L2
    simp (disch := omega) only [q_lit, q_m1, q_m2, q_hid, q_add, q_mul, q_sub, q_le, q_lt, q_eq, q_mlt, q_mle, q_ltm, q_lem, q_meq, q_eqm, q_m2lt, q_m2le, q_ltm2, q_lem2, q_eqm2, q_mm2, q_m2m, q_mm, q_mnm, q_ix, q_inb, q_a0, q_a1, q_app, q_bind, if_true, if_false, if_pos, if_neg, md_n h k1, Nat.le_refl]
end TB
