/-! ===== nets, could, tells ===== -/
theorem NwB.skip {un : List Nat} {N x : Nat} {v : Int32} {b : Nat → Bool} {T0 T' : Sm} (h : NwB un N v b T0 x T') (hb : b x = false) : NwB un N v b T0 (x + 1) T' := by
  obtain ⟨a1, a2, a3, a4, a5⟩ := h
  refine ⟨a1, by rw [cnt_n hb]; exact a2, ?_, fun j m hj hm => ?_, a5⟩
  · show _ = (if b x = true ∧ _ then _ else _)
    rw [if_neg fun z => by rw [hb] at z; cases z.1]
    exact a3
  · show T'.1 86 _ = nI (nwO _ _ _ _ _ (x + 1))
    rw [nwO_s, if_neg fun z => by rw [hb] at z; cases z.1]
    exact a4 j m hj hm
theorem NwB.s70 {un : List Nat} {N x k : Nat} {v u : Int32} {b : Nat → Bool} {T0 T' : Sm} (h : NwB un N v b T0 x T') : NwB un N v b T0 x (si T' 70 k u) := by
  obtain ⟨a1, a2, a3, a4, a5⟩ := h
  exact ⟨a1.si rfl, a2, a3, by rw [si_row (by omega)]; exact a4, (si_row (by omega)).trans a5⟩
section NT
variable {N K F R w : Nat} {U : List Nat} {X : List (List Cl)} {T S : Sm}
theorem md_dfs (h : RelP N K F R U X w T S) (hN : 0 < N) {T0 : Sm} (hT0 : NwG T T0) (h85 : ∀ j u, (UN U (T.1 70))[j]? = some u → gi T0 85 j = nI u) (v : Int32) : ∀ (D i d p : Nat) (T' : Sm), (UN U (T.1 70)).length < D + d → d ≤ (UN U (T.1 70)).length → NwB (UN U (T.1 70)) N v (nwB (UN U (T.1 70)) N (T.1 70) T) T0 (p * N ^ ((UN U (T.1 70)).length - d)) T' → NwRow (UN U (T.1 70)) N d p (T.1 70) (T'.1 70) → ∃ T'', fTn D i (nI d) (nI (UN U (T.1 70)).length) (nI (nwDec N d p)) v T' = some T'' ∧ NwB (UN U (T.1 70)) N v (nwB (UN U (T.1 70)) N (T.1 70) T) T0 ((p + 1) * N ^ ((UN U (T.1 70)).length - d)) T'' ∧ NwRow (UN U (T.1 70)) N d p (T.1 70) (T''.1 70)
  | 0, i, d, p, T', h1, h2, _, _ => absurd h1 (by omega)
  | D + 1, i, d, p, T', h1, h2, hB, hR => by
    have l4 : (UN U (T.1 70)).length ≤ 4 := Nat.le_trans (List.length_filter_le _ _) h.2.2.1.2.1
    have h8 := h.1.2.2.2.2.2.2.1
    have h5 := h.1.2.2.2.2.2.2.2.1
    have nd : (UN U (T.1 70)).Nodup := h.2.2.1.1.filter _
    show ∃ T'', Md_tryNets (fTn D) (nI d) (nI (UN U (T.1 70)).length) (nI (nwDec N d p)) v T' = some T'' ∧ _
    unfold Md_tryNets
    by_cases hd : d = (UN U (T.1 70)).length
    · rw [hd] at hB hR ⊢
      rw [Nat.sub_self, Nat.pow_zero, Nat.mul_one] at hB ⊢
      have e := md_laid h hN (hT0.trans hB.1) hR
      rw [if_pos rfl, e, q_bind]
      cases hb : nwB (UN U (T.1 70)) N (T.1 70) T p
      · rw [if_pos (by rfl)]
        exact ⟨T', rfl, hB.skip hb, hR⟩
      · rw [if_neg (by decide)]
        obtain ⟨T'', e2, b1, b2⟩ := md_leaf (rc := fTn D) hN h8 l4 hb hB
        refine ⟨T'', ?_, b1, by rw [b2]; exact hR⟩
        by_cases z : gi T' 53 52 = v
        · rw [if_pos z] at e2 ⊢; exact e2
        · rw [if_neg z] at e2 ⊢; exact e2
    · have hdn : d < (UN U (T.1 70)).length := by omega
      obtain ⟨u, hu⟩ : ∃ u, (UN U (T.1 70))[d]? = some u := ⟨_, List.getElem?_eq_getElem hdn⟩
      have ul := (un_lt h.2.2.1 h8 h5 (List.mem_of_getElem? hu)).1
      have uj : ∀ j, (UN U (T.1 70))[j]? = some u → j = d := fun j hj => by
        obtain ⟨b1, b2⟩ := List.getElem?_eq_some_iff.mp hj
        obtain ⟨b3, b4⟩ := List.getElem?_eq_some_iff.mp hu
        exact (List.getElem?_inj b1 nd).mp (hj.trans hu.symm)
      have e85 : ∀ T1, T1.1 85 = T0.1 85 → gi T1 85 (ix (nI d)) = nI u := fun T1 g => by
        rw [q_ix (by omega)]
        exact (congrFun g d).trans (h85 d u hu)
      have ib : inb (nI d) 4 := nI_in (by omega) (by omega)
      have ib2 : inb (nI u) 320 := nI_in (by omega) (by omega)
      have g68 : ∀ T1, NwG T0 T1 → gi T1 68 0 = nI N := fun T1 g => ((hT0.trans g) 68 0 rfl).trans h.1.2.2.2.1
      obtain ⟨e, he⟩ : ∃ e, (UN U (T.1 70)).length - d = e + 1 := ⟨(UN U (T.1 70)).length - d - 1, by omega⟩
      have he2 : (UN U (T.1 70)).length - (d + 1) = e := by omega
      rw [he] at hB ⊢
      suffices hl : ∃ r, lpN (Md_tryNets_L91 (fTn D) (nI d) (nI (UN U (T.1 70)).length) (nI (nwDec N d p)) v) FU (nI 0, T') = some r ∧ NwB (UN U (T.1 70)) N v (nwB (UN U (T.1 70)) N (T.1 70) T) T0 ((p + 1) * N ^ (e + 1)) r ∧ (∀ j u, (UN U (T.1 70))[j]? = some u → j ≠ d → r.1 70 u = if j < d then nI (nwDg N d p j) else mI2) ∧ ∀ k, ¬ k ∈ UN U (T.1 70) → r.1 70 k = T.1 70 k by
        obtain ⟨r, e1, b1, b2, b3⟩ := hl
        refine ⟨si r 70 u mI2, ?_, b1.s70, fun j u' hj => ?_, fun k hk => ?_⟩
        · have e1' : lpN (Md_tryNets_L91 (fTn D) (nI d) (nI (UN U (T.1 70)).length) (nI (nwDec N d p)) v) FU (0, T') = some r := e1
          rw [if_neg fun z => hd ((q_eq (by omega) (by omega)).mp z), e1', q_bind, if_pos ib, e85 r b1.2.2.2.2, if_pos ib2, q_ix (by omega)]; rfl
        · show (if 70 = 70 ∧ u' = u then mI2 else r.1 70 u') = _
          by_cases z : j = d
          · rw [z] at hj ⊢
            rw [hu] at hj
            rw [if_pos ⟨rfl, (Option.some.inj hj).symm⟩, if_neg (Nat.lt_irrefl d)]
          · rw [if_neg (fun (y : 70 = 70 ∧ u' = u) => z (uj j (y.2 ▸ hj)))]
            exact b2 j u' hj z
        · show (if 70 = 70 ∧ k = u then mI2 else r.1 70 k) = _
          rw [if_neg (fun (y : 70 = 70 ∧ k = u) => hk (y.2 ▸ List.mem_of_getElem? hu))]
          exact b3 k hk
      refine lp_inv (fun q (s : Int32 × Sm) => s.1 = nI q ∧ NwB (UN U (T.1 70)) N v (nwB (UN U (T.1 70)) N (T.1 70) T) T0 ((p * N + q) * N ^ e) s.2 ∧ (∀ j u, (UN U (T.1 70))[j]? = some u → j ≠ d → s.2.1 70 u = if j < d then nI (nwDg N d p j) else mI2) ∧ ∀ k, ¬ k ∈ UN U (T.1 70) → s.2.1 70 k = T.1 70 k) N (by omega) ⟨rfl, ?_, fun j u' hj _ => hR.1 j u' hj, hR.2⟩ (fun q s hq hs => ?_) (fun s hs => ?_)
      · show NwB _ _ _ _ _ ((p * N + 0) * N ^ e) T'
        rw [Nat.add_zero, Nat.mul_assoc, ← Nat.pow_succ']; exact hB
      · obtain ⟨s1, T1⟩ := s
        obtain ⟨hs1, b1, b2, b3⟩ := hs
        have hs1 : s1 = nI q := hs1
        have b1 : NwB _ _ _ _ _ _ T1 := b1
        subst hs1
        have row : NwRow (UN U (T.1 70)) N (d + 1) (p * N + q) (T.1 70) ((si T1 70 u (nI q)).1 70) := by
          refine ⟨fun j u' hj => ?_, fun k hk => ?_⟩
          · show (if 70 = 70 ∧ u' = u then nI q else T1.1 70 u') = _
            by_cases z : j = d
            · rw [z] at hj ⊢
              rw [hu] at hj
              rw [if_pos ⟨rfl, (Option.some.inj hj).symm⟩, if_pos (Nat.lt_succ_self d), nwDg_s hq (Nat.lt_succ_self d), if_neg (Nat.lt_irrefl d)]
            · rw [if_neg (fun (y : 70 = 70 ∧ u' = u) => z (uj j (y.2 ▸ hj))), b2 j u' hj z]
              by_cases y : j < d
              · rw [if_pos y, if_pos (by omega), nwDg_s hq (by omega), if_pos y]
              · rw [if_neg y, if_neg (by omega)]
          · show (if 70 = 70 ∧ k = u then nI q else T1.1 70 k) = _
            rw [if_neg (fun (y : 70 = 70 ∧ k = u) => hk (y.2 ▸ List.mem_of_getElem? hu))]
            exact b3 k hk
        obtain ⟨T2, e2, c1, c2⟩ := md_dfs h hN hT0 h85 v D 0 (d + 1) (p * N + q) (si T1 70 u (nI q)) (by omega) (by omega) (by rw [he2]; exact b1.s70) row
        refine Or.inl ⟨(nI (q + 1), T2), ?_, rfl, ?_, fun j u' hj hjd => ?_, c2.2⟩
        · have c0 : ¬ gi T1 68 0 ≤ nI q := by rw [g68 T1 b1.1, q_le (by omega) (by omega)]; omega
          unfold Md_tryNets_L91
          simp only []
          rw [if_neg c0, if_pos ib, e85 T1 b1.2.2.2.2, if_pos ib2, q_ix (by omega), show nI d + 1 = nI (d + 1) from q_add d 1, show (10 : Int32) * nI (nwDec N d p) + nI q = nI (nwDec N (d + 1) (p * N + q)) by rw [nwDec_s hq, Nat.mul_comm, ← q_add, ← q_mul]; rfl, e2, q_bind, show (1 : Int32) = nI 1 from rfl, q_add]
        · show NwB _ _ _ _ _ ((p * N + (q + 1)) * N ^ e) T2
          rw [he2] at c1
          rw [← Nat.add_assoc]; exact c1
        · show T2.1 70 u' = _
          rw [c2.1 j u' hj]
          by_cases y : j < d
          · rw [if_pos y, if_pos (by omega), nwDg_s hq (by omega), if_pos y]
          · rw [if_neg y, if_neg (by omega)]
      · obtain ⟨s1, T1⟩ := s
        obtain ⟨hs1, b1, b2, b3⟩ := hs
        have hs1 : s1 = nI N := hs1
        have b1 : NwB _ _ _ _ _ _ T1 := b1
        subst hs1
        refine ⟨T1, ?_, ?_, b2, b3⟩
        · unfold Md_tryNets_L91
          exact if_pos (by rw [g68 T1 b1.1]; exact (q_le (by omega) (by omega)).mpr (Nat.le_refl _))
        · rw [show (p + 1) * N ^ (e + 1) = (p * N + N) * N ^ e by rw [Nat.pow_succ', ← Nat.mul_assoc, Nat.add_mul p 1 N, Nat.one_mul]]
          exact b1
theorem md_layN (h : RelP N K F R U X w T S) (hN : 0 < N) (v : Int32) : ∃ T2, Md_layNets v T = some (nI (UN U (T.1 70)).length, T2) ∧ SamT T T2 ∧ gi T2 53 52 = nI (cntN (nwB (UN U (T.1 70)) N (T.1 70) T) (N ^ (UN U (T.1 70)).length)) ∧ gi T2 53 53 = nwF N (UN U (T.1 70)).length (nwB (UN U (T.1 70)) N (T.1 70) T) v (N ^ (UN U (T.1 70)).length) ∧ NwO (UN U (T.1 70)).length (fun j m => nwO N (UN U (T.1 70)).length (nwB (UN U (T.1 70)) N (T.1 70) T) j m (N ^ (UN U (T.1 70)).length)) (T2.1 86) := by
  have l4 : (UN U (T.1 70)).length ≤ 4 := Nat.le_trans (List.length_filter_le _ _) h.2.2.1.2.1
  have h8 := h.1.2.2.2.2.2.2.1
  have h5 := h.1.2.2.2.2.2.2.2.1
  have hun := md_un h.2.2.1 h8 h5
  obtain ⟨T1, e1, a1, a2, a3⟩ : ∃ r, lpN (Md_layNets_L7 v (nI (UN U (T.1 70)).length)) FU (nI 0, T) = some r ∧ SamT T r ∧ NwG T r ∧ ∀ j u, (UN U (T.1 70))[j]? = some u → gi r 85 j = nI u := by
    refine lp_inv (fun i (q : Int32 × Sm) => q.1 = nI i ∧ SamT T q.2 ∧ NwG T q.2 ∧ ∀ j u, j < i → (UN U (T.1 70))[j]? = some u → gi q.2 85 j = nI u) (UN U (T.1 70)).length (by omega) ⟨rfl, SamT.rfl T, NwG.rfl T, fun j u hj => absurd hj (Nat.not_lt_zero j)⟩ (fun i q hi hq => ?_) (fun q hq => ?_)
    · obtain ⟨q1, T1⟩ := q
      obtain ⟨hq1, g1, g2, g3⟩ := hq
      have hq1 : q1 = nI i := hq1
      have g1 : SamT T T1 := g1
      subst hq1
      obtain ⟨u, hu⟩ : ∃ u, (UN U (T.1 70))[i]? = some u := ⟨_, List.getElem?_eq_getElem hi⟩
      have eu := md_ua (h.same (SamS.rfl S) g1).2.2.1 h8 h5 (i := i) (by omega)
      rw [g1.row 70 fun _ => rfl, hu] at eu
      have eu : Md_unknownAt (nI i) T1 = some (nI u) := eu
      refine Or.inl ⟨(nI (i + 1), si T1 85 i (nI u)), ?_, rfl, g1.si rfl, g2.si rfl, fun j u' hj hj2 => ?_⟩
      · unfold Md_layNets_L7
        simp (disch := omega) only [q_lit, q_m1, q_m2, q_hid, q_add, q_mul, q_sub, q_le, q_lt, q_eq, q_mlt, q_mle, q_ltm, q_lem, q_meq, q_eqm, q_m2lt, q_m2le, q_ltm2, q_lem2, q_eqm2, q_mm2, q_m2m, q_mm, q_mnm, q_ix, q_inb, q_a0, q_a1, q_app, q_bind, if_true, if_false, if_pos, if_neg, eu]
      · show (if 85 = 85 ∧ j = i then nI u else gi T1 85 j) = _
        by_cases z : j = i
        · rw [if_pos ⟨rfl, z⟩]
          rw [z, hu] at hj2
          rw [Option.some.inj hj2]
        · rw [if_neg (fun (y : 85 = 85 ∧ j = i) => z y.2)]
          exact g3 j u' (by omega) hj2
    · obtain ⟨q1, T1⟩ := q
      obtain ⟨hq1, g1, g2, g3⟩ := hq
      have hq1 : q1 = _ := hq1
      subst hq1
      refine ⟨T1, ?_, g1, g2, fun j u hj => g3 j u (List.getElem?_eq_some_iff.mp hj).1 hj⟩
      unfold Md_layNets_L7
      exact if_pos ((q_le (by omega) (by omega)).mpr (Nat.le_refl _))
  obtain ⟨T2, e2, b1, b2, b3, b4⟩ : ∃ r, lpN (Md_layNets_L31 v (nI (UN U (T.1 70)).length)) FU (nI 0, T1) = some r ∧ NwG T r ∧ r.1 85 = T1.1 85 ∧ r.1 70 = T1.1 70 ∧ ∀ k, k < 32 → gi r 86 k = nI 0 := by
    refine lp_inv (fun i (q : Int32 × Sm) => q.1 = nI i ∧ NwG T q.2 ∧ q.2.1 85 = T1.1 85 ∧ q.2.1 70 = T1.1 70 ∧ ∀ k, k < i → gi q.2 86 k = nI 0) 32 (by omega) ⟨rfl, a2, rfl, rfl, fun k hk => absurd hk (by omega)⟩ (fun i q hi hq => ?_) (fun q hq => ?_)
    · obtain ⟨q1, T2⟩ := q
      obtain ⟨hq1, g1, g2, g3, g4⟩ := hq
      have hq1 : q1 = nI i := hq1
      subst hq1
      refine Or.inl ⟨(nI (i + 1), si T2 86 i (nI 0)), ?_, rfl, g1.si rfl, (si_row (by omega)).trans g2, (si_row (by omega)).trans g3, fun k hk => ?_⟩
      · unfold Md_layNets_L31
        simp (disch := omega) only [q_lit, q_m1, q_m2, q_hid, q_add, q_mul, q_sub, q_le, q_lt, q_eq, q_mlt, q_mle, q_ltm, q_lem, q_meq, q_eqm, q_m2lt, q_m2le, q_ltm2, q_lem2, q_eqm2, q_mm2, q_m2m, q_mm, q_mnm, q_ix, q_inb, q_a0, q_a1, q_app, q_bind, if_true, if_false, if_pos, if_neg]
      · show (if 86 = 86 ∧ k = i then nI 0 else gi T2 86 k) = _
        by_cases z : k = i
        · rw [if_pos ⟨rfl, z⟩]
        · rw [if_neg (fun (y : 86 = 86 ∧ k = i) => z y.2)]; exact g4 k (by omega)
    · obtain ⟨q1, T2⟩ := q
      obtain ⟨hq1, g1, g2, g3, g4⟩ := hq
      have hq1 : q1 = nI 32 := hq1
      subst hq1
      exact ⟨T2, rfl, g1, g2, g3, g4⟩
  obtain ⟨T3, hT3⟩ : ∃ T3, T3 = si (si T2 53 52 (nI 0)) 53 53 mI := ⟨_, rfl⟩
  have c1 : NwG T T3 := by rw [hT3]; exact (b1.si rfl).si rfl
  have c85 : T3.1 85 = T1.1 85 := by rw [hT3]; exact (si_row (by omega)).trans ((si_row (by omega)).trans b2)
  have c70 : T3.1 70 = T.1 70 := by rw [hT3]; exact (si_row (by omega)).trans ((si_row (by omega)).trans (b3.trans (a1.row 70 fun _ => rfl)))
  have c86 : T3.1 86 = T2.1 86 := by rw [hT3]; exact (si_row (by omega)).trans (si_row (by omega))
  have hB : NwB (UN U (T.1 70)) N v (nwB (UN U (T.1 70)) N (T.1 70) T) T3 (0 * N ^ ((UN U (T.1 70)).length - 0)) T3 := by
    rw [Nat.zero_mul]
    refine ⟨NwG.rfl T3, ?_, ?_, fun j m hj hm => ?_, rfl⟩
    · rw [hT3]; rfl
    · rw [hT3]; rfl
    · rw [c86]
      exact b4 _ (by omega)
  have hR : NwRow (UN U (T.1 70)) N 0 0 (T.1 70) (T3.1 70) := by
    rw [c70]
    refine ⟨fun j u hj => ?_, fun k _ => rfl⟩
    rw [if_neg (Nat.not_lt_zero j)]
    exact (un_lt h.2.2.1 h8 h5 (List.mem_of_getElem? hj)).2.1
  obtain ⟨T4, e4, d1, d2⟩ := md_dfs h hN c1 (fun j u hj => (congrFun c85 j).trans (a3 j u hj)) v 8 0 0 0 T3 (by omega) (Nat.zero_le _) hB hR
  rw [Nat.sub_zero, Nat.zero_add, Nat.one_mul] at d1
  refine ⟨T4, ?_, fun i j hij => ?_, d1.2.1, d1.2.2.1, d1.2.2.2.1⟩
  · unfold Md_layNets
    rw [hun, q_bind, show (0 : Int32) = nI 0 from rfl, e1, q_bind, e2, q_bind]
    show (Md_tryNets_r (nI 0) (nI (UN U (T.1 70)).length) (nI 0) v (si (si T2 53 52 (nI 0)) 53 53 mI)).bind _ = _
    rw [← hT3]
    unfold Md_tryNets_r
    rw [show fTn 8 0 (nI 0) (nI (UN U (T.1 70)).length) (nI 0) v T3 = some T4 from e4]; rfl
  · by_cases z : i = 70
    · subst z
      rw [d2.uniq (show NwRow (UN U (T.1 70)) N 0 0 (T.1 70) (T.1 70) by rw [c70] at hR; exact hR)]
    · refine (c1.trans d1.1) i j ?_
      cases hq : nwS i j
      · rfl
      · unfold nwS at hq
        simp only [Bool.or_eq_true, Bool.and_eq_true, beq_iff_eq] at hq
        rcases hq with ((rfl | rfl) | rfl) | ⟨rfl, rfl | rfl⟩
        · exact absurd rfl z
        · cases hij
        · cases hij
        · cases hij
        · cases hij
theorem m1_le {v : Int32} (h : (-1 : Int32) ≤ v) (h2 : ¬ v = -1) : ¬ v < 0 := fun h3 => by
  rw [Int32.le_iff_toInt_le] at h
  rw [Int32.lt_iff_toInt_lt] at h3
  have e1 : (-1 : Int32).toInt = -1 := by decide
  have e0 : (0 : Int32).toInt = 0 := by decide
  exact h2 (Int32.toInt_inj.mp (by omega))
theorem op_nets (h : RelP N K F R U X w T S) (v : Int32) : ∃ q p, Dk_nets v S = some q ∧ Md_nets v T = some p ∧ q.1 = p.1 ∧ SamS S q.2 ∧ SamT T p.2 := by
  unfold Dk_nets Md_nets Dk_nets_15 Dk_nets_40 Md_nets_14 Md_nets_38
  rcases toldC h.1 with ⟨-, a, b⟩ | ⟨hN, a, -, b⟩
  · rw [a, b]
    exact ⟨(mI, S), (mI, T), rfl, rfl, rfl, SamS.rfl S, SamT.rfl T⟩
  · rw [a, if_neg (by decide), if_neg b]
    by_cases c : (-1 : Int32) ≤ v
    · rw [if_pos c, if_pos c]
      obtain ⟨T2, e2, d1, d2, d3, -⟩ := md_layN h hN v
      rw [e2]
      by_cases z : v = -1
      · rw [if_pos z]
        obtain ⟨S2, e1, f1⟩ := sg_count h hN
        rw [e1]
        refine ⟨(_, S2), (gi T2 53 52, T2), rfl, ?_, d2.symm, f1, d1⟩
        show (if v = -1 then some (gi T2 53 52, T2) else some (gi T2 53 53, T2)) = _
        rw [if_pos z]
      · rw [if_neg z]
        obtain ⟨k, hk, rfl⟩ := nI_of (m1_le c z)
        obtain ⟨S2, e1, f1⟩ := sg_at h hN hk
        rw [e1]
        refine ⟨(_, S2), (gi T2 53 53, T2), rfl, ?_, d3.symm, f1, d1⟩
        show (if nI k = -1 then some (gi T2 53 52, T2) else some (gi T2 53 53, T2)) = _
        rw [if_neg z]
    · rw [if_neg c, if_neg c]
      exact ⟨(mI, S), (mI, T), rfl, rfl, rfl, SamS.rfl S, SamT.rfl T⟩
end NT
