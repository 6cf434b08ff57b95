/-! ===== away: the reference's way of laying it ===== -/
section FC
variable {N K : Nat} {L D C : Nat → Nat → Nat} {s to : Nat} {Z : Nat → Prop} {T : Sm} {b : Int32}
def CosT (N K : Nat) (C : Nat → Nat → Nat) (b : Int32) (T : Sm) : Prop := ∀ m c T1, m < N → c < K → SamT T T1 → ∃ T2, Md_costOf (nI m) (nI c) b T1 = some (nI (C m c), T2) ∧ SamT T1 T2 ∧ T2.1 76 = T1.1 76
theorem si76 {T0 T1 : Sm} (h : SamT T0 T1) {j : Nat} {v : Int32} : SamT T0 (si T1 76 j v) := h.si rfl
theorem md_node (hP : WyP N K L D) (hW : ∀ T1, SamT T T1 → WyT N K L D T1) (hC : ∀ m o, m < N → o < K → C m o ≤ 99) (hc : CosT N K C b T) {z v5 : Int32} (hz : Msk Z z) (hs : s < 32) (ht : to < N) {T1 : Sm} (h1 : SamT T T1) {g f : Nat → Nat} {m : Nat} (hm : m < N) (hg : ∀ m, m < 8 → gi T1 76 m = nI (f m)) (hF : FarI N K L C s to Z f) (hp : PrgI K L C s to Z g f m) : ∃ T2, lpN (Md_layAway_L63 (nI to) (nI s) b z v5 (nI m)) FU (nI 0, T1) = some T2 ∧ SamT T T2 ∧ ∃ f', (∀ m, m < 8 → gi T2 76 m = nI (f' m)) ∧ FarI N K L C s to Z f' ∧ PrgI K L C s to Z g f' (m + 1) := by
  have hPP := hP
  obtain ⟨h8, h5, hN, hK, hL⟩ := hP
  refine lp_inv (fun i (q : Int32 × Sm) => q.1 = nI i ∧ SamT T q.2 ∧ ∃ f', (∀ m, m < 8 → gi q.2 76 m = nI (f' m)) ∧ FarI N K L C s to Z f' ∧ PrgI K L C s to Z g f' m ∧ ∀ o, o < i → s.testBit o = true → (L m o = to ∨ ¬ Z (L m o)) → f' m ≤ C m o + g (L m o)) K (by omega) ⟨rfl, h1, f, hg, hF, hp, fun o ho => absurd ho (Nat.not_lt_zero o)⟩ (fun i q hi hq => ?_) (fun q hq => ?_)
  · obtain ⟨q1, T2⟩ := q
    obtain ⟨rfl, g1, f', g2, g3, g4, g5⟩ := hq
    have g1 : SamT T T2 := g1
    have g2 : ∀ m, m < 8 → gi T2 76 m = nI (f' m) := g2
    have hT := hW T2 g1
    have el := (hT.2.2 m i hm (Or.inl hi)).1
    have ll := (hL m i hm (Or.inl hi)).1
    have ei := g2 m (by omega)
    have en := g2 (L m i) (by omega)
    have bm := (g3.2 m (by omega)).1
    have bn := (g3.2 (L m i) (by omega)).1
    have same : (si T2 76 m (nI (f' m))) = T2 := by
      refine Prod.ext (funext fun x => funext fun y => ?_) rfl
      show (if x = 76 ∧ y = m then nI (f' m) else T2.1 x y) = T2.1 x y
      by_cases w : x = 76 ∧ y = m
      · rw [if_pos w, w.1, w.2]; exact ei.symm
      · rw [if_neg w]
    refine Or.inl ?_
    unfold Md_layAway_L63 Md_layAway_126_L63 Md_layAway_122_L63 Md_layAway_127_L63 Md_layAway_177_L63
    by_cases yes : s.testBit i = true ∧ f' (L m i) < 1000000 ∧ (L m i = to ∨ ¬ Z (L m i))
    · obtain ⟨t, u, r⟩ := yes
      have t1 : Md_has (nI s) (nI i) = nI 1 := set_h1 (by omega) (by omega) t
      obtain ⟨T3, c1, c2, c3⟩ := hc m i T2 hm hi g1
      have hcc := hC m i hm hi
      have e3 : gi T3 76 m = nI (f' m) := (gi_row c3 _).trans ei
      refine ⟨(nI (i + 1), si T3 76 m (nI (min (f' m) (f' (L m i) + C m i)))), ?_, rfl, si76 (g1.trans c2), fun j => if j = m then min (f' m) (f' (L m i) + C m i) else f' j, fun j hj => ?_, ?_, ⟨fun j hj => ?_, fun j hj o o1 o2 o3 => ?_⟩, fun o o1 o2 o3 => ?_⟩
      · by_cases x : L m i = to
        · simp (disch := omega) only [q_lit, q_m1, q_m2, q_hid, q_add, q_mul, q_sub, q_le, q_lt, q_eq, q_mlt, q_mle, q_ltm, q_lem, q_meq, q_eqm, q_m2lt, q_m2le, q_ltm2, q_lem2, q_eqm2, q_mm2, q_m2m, q_mm, q_mnm, q_ix, q_inb, q_a0, q_a1, q_app, q_bind, if_true, if_false, if_pos, if_neg, hT.2.1, el, t1, en, ei, x, c1, q_min]
          rw [x] at en u
          simp (disch := omega) only [q_lit, q_m1, q_m2, q_hid, q_add, q_mul, q_sub, q_le, q_lt, q_eq, q_mlt, q_mle, q_ltm, q_lem, q_meq, q_eqm, q_m2lt, q_m2le, q_ltm2, q_lem2, q_eqm2, q_mm2, q_m2m, q_mm, q_mnm, q_ix, q_inb, q_a0, q_a1, q_app, q_bind, if_true, if_false, if_pos, if_neg, en, c1, q_min]
        · have y : ¬ Z (L m i) := r.resolve_left x
          have y0 := hz.g0 (i := L m i) (by omega) y
          simp (disch := omega) only [q_lit, q_m1, q_m2, q_hid, q_add, q_mul, q_sub, q_le, q_lt, q_eq, q_mlt, q_mle, q_ltm, q_lem, q_meq, q_eqm, q_m2lt, q_m2le, q_ltm2, q_lem2, q_eqm2, q_mm2, q_m2m, q_mm, q_mnm, q_ix, q_inb, q_a0, q_a1, q_app, q_bind, if_true, if_false, if_pos, if_neg, hT.2.1, el, t1, en, ei, x, y0, c1, q_min]
      · show (if (76 = 76 ∧ j = m) then _ else T3.1 76 j) = nI (if j = m then _ else f' j)
        by_cases x : j = m
        · rw [if_pos ⟨rfl, x⟩, if_pos x]
        · rw [if_neg fun h => x h.2, if_neg x]; exact (gi_row c3 j).trans (g2 j hj)
      · by_cases low : f' (L m i) + C m i < f' m
        · rw [Nat.min_eq_right (by omega)]
          exact far_put hC g3 hm hi t r (by omega) u (Nat.add_comm _ _) (by omega) low
        · rw [Nat.min_eq_left (by omega)]
          have : (fun j => if j = m then f' m else f' j) = f' := funext fun j => by
            by_cases x : j = m
            · rw [if_pos x, x]
            · rw [if_neg x]
          rw [this]; exact g3
      · have := g4.1 j hj
        show (if j = m then _ else f' j) ≤ g j
        by_cases x : j = m
        · rw [if_pos x]; subst x; exact Nat.le_trans (Nat.min_le_left _ _) this
        · rw [if_neg x]; exact this
      · show (if j = m then _ else f' j) ≤ _
        rw [if_neg (by omega)]
        exact g4.2 j hj o o1 o2 o3
      · show (if m = m then _ else f' m) ≤ _
        rw [if_pos rfl]
        by_cases x : o = i
        · subst x
          have := g4.1 (L m o) (by omega)
          omega
        · exact Nat.le_trans (Nat.min_le_left _ _) (g5 o (by omega) o2 o3)
    · have keep : ∀ o, o < i + 1 → s.testBit o = true → (L m o = to ∨ ¬ Z (L m o)) → f' m ≤ C m o + g (L m o) := fun o o1 o2 o3 => by
        by_cases x : o = i
        · subst x
          have := g4.1 (L m o) (by omega)
          have : ¬ f' (L m o) < 1000000 := fun u => yes ⟨o2, u, o3⟩
          omega
        · exact g5 o (by omega) o2 o3
      refine ⟨(nI (i + 1), T2), ?_, rfl, g1, f', g2, g3, g4, keep⟩
      by_cases t : s.testBit i = true
      · have t1 : Md_has (nI s) (nI i) = nI 1 := set_h1 (by omega) (by omega) t
        by_cases u : f' (L m i) < 1000000
        · have r : ¬ (L m i = to ∨ ¬ Z (L m i)) := fun r => yes ⟨t, u, r⟩
          have x : ¬ L m i = to := fun e => r (Or.inl e)
          have y : Z (L m i) := Classical.byContradiction fun n => r (Or.inr n)
          have y1 := hz.g1 (i := L m i) (by omega) y
          simp (disch := omega) only [q_lit, q_m1, q_m2, q_hid, q_add, q_mul, q_sub, q_le, q_lt, q_eq, q_mlt, q_mle, q_ltm, q_lem, q_meq, q_eqm, q_m2lt, q_m2le, q_ltm2, q_lem2, q_eqm2, q_mm2, q_m2m, q_mm, q_mnm, q_ix, q_inb, q_a0, q_a1, q_app, q_bind, if_true, if_false, if_pos, if_neg, hT.2.1, el, t1, en, ei, x, y1, same]
        · simp (disch := omega) only [q_lit, q_m1, q_m2, q_hid, q_add, q_mul, q_sub, q_le, q_lt, q_eq, q_mlt, q_mle, q_ltm, q_lem, q_meq, q_eqm, q_m2lt, q_m2le, q_ltm2, q_lem2, q_eqm2, q_mm2, q_m2m, q_mm, q_mnm, q_ix, q_inb, q_a0, q_a1, q_app, q_bind, if_true, if_false, if_pos, if_neg, hT.2.1, el, t1, en, ei, same]
      · have t0 : Md_has (nI s) (nI i) = nI 0 := set_h0 (by omega) (by omega) t
        simp (disch := omega) only [q_lit, q_m1, q_m2, q_hid, q_add, q_mul, q_sub, q_le, q_lt, q_eq, q_mlt, q_mle, q_ltm, q_lem, q_meq, q_eqm, q_m2lt, q_m2le, q_ltm2, q_lem2, q_eqm2, q_mm2, q_m2m, q_mm, q_mnm, q_ix, q_inb, q_a0, q_a1, q_app, q_bind, if_true, if_false, if_pos, if_neg, hT.2.1, el, t0, ei, same]
  · obtain ⟨q1, T2⟩ := q
    obtain ⟨rfl, g1, f', g2, g3, g4, g5⟩ := hq
    have hT := hW T2 g1
    refine ⟨T2, ?_, g1, f', g2, g3, g4.1, fun j hj o o1 o2 o3 => ?_⟩
    · unfold Md_layAway_L63
      simp (disch := omega) only [q_lit, q_m1, q_m2, q_hid, q_add, q_mul, q_sub, q_le, q_lt, q_eq, q_mlt, q_mle, q_ltm, q_lem, q_meq, q_eqm, q_m2lt, q_m2le, q_ltm2, q_lem2, q_eqm2, q_mm2, q_m2m, q_mm, q_mnm, q_ix, q_inb, q_a0, q_a1, q_app, q_bind, if_true, if_false, if_pos, if_neg, hT.2.1, Nat.le_refl]
    · by_cases x : j = m
      · rw [x] at o3 ⊢; exact g5 o o1 o2 o3
      · exact g4.2 j (by omega) o o1 o2 o3
theorem md_away (hP : WyP N K L D) (hW : ∀ T1, SamT T T1 → WyT N K L D T1) (hC : ∀ m o, m < N → o < K → C m o ≤ 99) (hc : CosT N K C b T) {z : Int32} (hz : Msk Z z) (hs : s < 32) (ht : to < N) : ∃ T2, Md_layAway (nI to) (nI s) b z T = some T2 ∧ SamT T T2 ∧ ∃ f : Nat → Nat, (∀ m, m < 8 → gi T2 76 m = nI (f m) ∧ f m ≤ 1000000) ∧ ∀ m, m < N → Dst K L C s to Z m (f m) := by
  have hPP := hP
  obtain ⟨h8, h5, hN, hK, hL⟩ := hP
  have hL' : ∀ m o, m < N → o < K → L m o < N := fun m o h1 h2 => (hL m o h1 (Or.inl h2)).1
  have e1 : ∃ T1, lpN (Md_layAway_L3 (nI to) (nI s) b z) FU (nI 0, T) = some T1 ∧ SamT T T1 ∧ ∀ m, m < 8 → gi T1 76 m = nI (if m = to then 0 else 1000000) := by
    refine lp_inv (fun i (q : Int32 × Sm) => q.1 = nI i ∧ SamT T q.2 ∧ ∀ m, m < i → gi q.2 76 m = nI (if m = to then 0 else 1000000)) 8 (by omega) ⟨rfl, SamT.rfl T, fun m h => absurd h (Nat.not_lt_zero m)⟩ (fun i q hi hq => ?_) (fun q hq => ?_)
    · obtain ⟨q1, T1⟩ := q
      obtain ⟨rfl, g1, g2⟩ := hq
      refine Or.inl ⟨(nI (i + 1), si T1 76 i (nI (if i = to then 0 else 1000000))), ?_, rfl, si76 g1, fun m hm => ?_⟩
      · unfold Md_layAway_L3 Md_layAway_29_L3
        by_cases x : i = to
        · simp (disch := omega) only [q_lit, q_m1, q_m2, q_hid, q_add, q_mul, q_sub, q_le, q_lt, q_eq, q_mlt, q_mle, q_ltm, q_lem, q_meq, q_eqm, q_m2lt, q_m2le, q_ltm2, q_lem2, q_eqm2, q_mm2, q_m2m, q_mm, q_mnm, q_ix, q_inb, q_a0, q_a1, q_app, q_bind, if_true, if_false, if_pos, if_neg, x]
        · simp (disch := omega) only [q_lit, q_m1, q_m2, q_hid, q_add, q_mul, q_sub, q_le, q_lt, q_eq, q_mlt, q_mle, q_ltm, q_lem, q_meq, q_eqm, q_m2lt, q_m2le, q_ltm2, q_lem2, q_eqm2, q_mm2, q_m2m, q_mm, q_mnm, q_ix, q_inb, q_a0, q_a1, q_app, q_bind, if_true, if_false, if_pos, if_neg, x]
      · show (if (76 = 76 ∧ m = i) then _ else T1.1 76 m) = _
        by_cases x : m = i
        · rw [if_pos ⟨rfl, x⟩, x]
        · rw [if_neg fun h => x h.2]; exact g2 m (by omega)
    · obtain ⟨q1, T1⟩ := q
      obtain ⟨rfl, g1, g2⟩ := hq
      refine ⟨T1, ?_, g1, g2⟩
      unfold Md_layAway_L3
      simp (disch := omega) only [q_lit, q_m1, q_m2, q_hid, q_add, q_mul, q_sub, q_le, q_lt, q_eq, q_mlt, q_mle, q_ltm, q_lem, q_meq, q_eqm, q_m2lt, q_m2le, q_ltm2, q_lem2, q_eqm2, q_mm2, q_m2m, q_mm, q_mnm, q_ix, q_inb, q_a0, q_a1, q_app, q_bind, if_true, if_false, if_pos, if_neg, Nat.le_refl]
  obtain ⟨T1, e1, g1, g2⟩ := e1
  have hF0 : FarI N K L C s to Z (fun m => if m = to then 0 else 1000000) := by
    refine ⟨if_pos rfl, fun m hm => ?_⟩
    show (if m = to then 0 else 1000000) ≤ 1000000 ∧ ((if m = to then 0 else 1000000) < 1000000 → _)
    by_cases x : m = to
    · subst x
      rw [if_pos rfl]
      exact ⟨by omega, fun _ => ⟨ht, 0, rfl, if_pos rfl⟩⟩
    · rw [if_neg x]; exact ⟨Nat.le_refl _, fun h => absurd h (by omega)⟩
  have round : ∀ (v5 : Int32) (T1 : Sm) (g : Nat → Nat), SamT T T1 → (∀ m, m < 8 → gi T1 76 m = nI (g m)) → FarI N K L C s to Z g → ∃ T2, lpN (Md_layAway_L49 (nI to) (nI s) b z v5) FU (nI 0, T1) = some T2 ∧ SamT T T2 ∧ ∃ f', (∀ m, m < 8 → gi T2 76 m = nI (f' m)) ∧ FarI N K L C s to Z f' ∧ PrgI K L C s to Z g f' N := by
    intro v5 T1 g k1 k2 k3
    refine lp_inv (fun i (q : Int32 × Sm) => q.1 = nI i ∧ SamT T q.2 ∧ ∃ f', (∀ m, m < 8 → gi q.2 76 m = nI (f' m)) ∧ FarI N K L C s to Z f' ∧ PrgI K L C s to Z g f' i) N (by omega) ⟨rfl, k1, g, k2, k3, fun m _ => Nat.le_refl _, fun m h => absurd h (Nat.not_lt_zero m)⟩ (fun i q hi hq => ?_) (fun q hq => ?_)
    · obtain ⟨q1, T2⟩ := q
      obtain ⟨rfl, g1, f', g2, g3, g4⟩ := hq
      have g1 : SamT T T2 := g1
      obtain ⟨T3, e, j1, f2, j2, j3, j4⟩ := md_node hPP hW hC hc (v5 := v5) hz hs ht g1 hi g2 g3 g4
      refine Or.inl ⟨(nI (i + 1), T3), ?_, rfl, j1, f2, j2, j3, j4⟩
      have hT := hW T2 g1
      unfold Md_layAway_L49
      simp (disch := omega) only [q_lit, q_m1, q_m2, q_hid, q_add, q_mul, q_sub, q_le, q_lt, q_eq, q_mlt, q_mle, q_ltm, q_lem, q_meq, q_eqm, q_m2lt, q_m2le, q_ltm2, q_lem2, q_eqm2, q_mm2, q_m2m, q_mm, q_mnm, q_ix, q_inb, q_a0, q_a1, q_app, q_bind, if_true, if_false, if_pos, if_neg, hT.1, e]
    · obtain ⟨q1, T2⟩ := q
      obtain ⟨rfl, g1, f', g2, g3, g4⟩ := hq
      have hT := hW T2 g1
      refine ⟨T2, ?_, g1, f', g2, g3, g4⟩
      unfold Md_layAway_L49
      simp (disch := omega) only [q_lit, q_m1, q_m2, q_hid, q_add, q_mul, q_sub, q_le, q_lt, q_eq, q_mlt, q_mle, q_ltm, q_lem, q_meq, q_eqm, q_m2lt, q_m2le, q_ltm2, q_lem2, q_eqm2, q_mm2, q_m2m, q_mm, q_mnm, q_ix, q_inb, q_a0, q_a1, q_app, q_bind, if_true, if_false, if_pos, if_neg, hT.1, Nat.le_refl]
  suffices hl : ∃ T2, lpN (Md_layAway_L39 (nI to) (nI s) b z) FU (nI 0, T1) = some T2 ∧ (SamT T T2 ∧ ∃ f, (∀ m, m < 8 → gi T2 76 m = nI (f m)) ∧ FarI N K L C s to Z f ∧ BndI N K L C s to Z f 8) by
    obtain ⟨T2, e2, k1, f, k2, k3, k4⟩ := hl
    refine ⟨T2, ?_, k1, f, fun m hm => ⟨k2 m hm, (k3.2 m hm).1⟩, fun m hm => far_dst hL' hC h8 k3 k4 hm⟩
    unfold Md_layAway
    rw [show (0 : Int32) = nI 0 from rfl, e1]
    show (lpN _ FU (nI 0, T1)).bind _ = _
    rw [e2]; rfl
  refine lp_inv (fun i (q : Int32 × Sm) => q.1 = nI i ∧ SamT T q.2 ∧ ∃ f, (∀ m, m < 8 → gi q.2 76 m = nI (f m)) ∧ FarI N K L C s to Z f ∧ BndI N K L C s to Z f i) 8 (by omega) ⟨rfl, g1, _, g2, hF0, ?_⟩ (fun i q hi hq => ?_) (fun q hq => ?_)
  · intro m hm k hk c h
    have : k = 0 := by omega
    subst this
    rw [h.1, h.2]
    show (if to = to then 0 else 1000000) ≤ 0
    rw [if_pos rfl]; exact Nat.le_refl _
  · obtain ⟨q1, T2⟩ := q
    obtain ⟨rfl, g1, f, g2, g3, g4⟩ := hq
    have g1 : SamT T T2 := g1
    obtain ⟨T3, e, j1, f2, j2, j3, j4⟩ := round (nI i) T2 f g1 g2 g3
    refine Or.inl ⟨(nI (i + 1), T3), ?_, rfl, j1, f2, j2, j3, bnd_step hL' j3 g4 j4⟩
    unfold Md_layAway_L39
    simp (disch := omega) only [q_lit, q_m1, q_m2, q_hid, q_add, q_mul, q_sub, q_le, q_lt, q_eq, q_mlt, q_mle, q_ltm, q_lem, q_meq, q_eqm, q_m2lt, q_m2le, q_ltm2, q_lem2, q_eqm2, q_mm2, q_m2m, q_mm, q_mnm, q_ix, q_inb, q_a0, q_a1, q_app, q_bind, if_true, if_false, if_pos, if_neg, e]
  · obtain ⟨q1, T2⟩ := q
    obtain ⟨rfl, g1, f, g2, g3, g4⟩ := hq
    refine ⟨T2, ?_, g1, f, g2, g3, g4⟩
    unfold Md_layAway_L39
    simp (disch := omega) only [q_lit, q_m1, q_m2, q_hid, q_add, q_mul, q_sub, q_le, q_lt, q_eq, q_mlt, q_mle, q_ltm, q_lem, q_meq, q_eqm, q_m2lt, q_m2le, q_ltm2, q_lem2, q_eqm2, q_mm2, q_m2m, q_mm, q_mnm, q_ix, q_inb, q_a0, q_a1, q_app, q_bind, if_true, if_false, if_pos, if_neg, Nat.le_refl]
end FC
