/-! ===== labels: passes over all states, until none changes ===== -/
section LB2
variable {N K : Nat} {L D : Nat → Nat → Nat} {T S : Sm} {s a : Nat}
/-- what a pass has done behind the states for which p holds -/
def PasI (N K : Nat) (L : Nat → Nat → Nat) (s : Nat) (g f : Nat → Nat) (p : Nat → Nat → Prop) (b : Int32) : Prop := (∀ j, j < 40 → f j ≤ g j) ∧ (∀ m c, m < N → c < K → p m c → g (5 * m + c) < 1000000 → f (5 * L m c + c) ≤ g (5 * m + c) ∧ ∀ o, o < K → s.testBit o = true → f (5 * m + o) ≤ g (5 * m + c) + 1) ∧ (b = nI 1 ∧ (∃ x y, x < N ∧ y < K ∧ f (5 * x + y) < g (5 * x + y)) ∨ b = nI 0 ∧ ∀ j, j < 40 → f j = g j)
theorem md_row (hP : WyP N K L D) (hW : ∀ T1, SamT T T1 → WyT N K L D T1) (hs : s < 32) (ha : a < N) {T1 : Sm} (h1 : SamT T T1) {g f : Nat → Nat} {B m : Nat} {b : Int32} (hm : m < N) (hg : ∀ j, j < 40 → gi T1 75 j = nI (f j)) (hf : LaI N K L s a B f) (hB : B < 800000) (h40 : ∀ j, j < 40 → g j ≤ 1000000) (hp : PasI N K L s g f (fun x _ => x < m) b) : ∃ b' T2, lpN (Md_layChanges_L91 (nI s) (nI m)) FU (b, nI 0, T1) = some (b', T2) ∧ SamT T T2 ∧ ∃ f' : Nat → Nat, (∀ j, j < 40 → gi T2 75 j = nI (f' j)) ∧ LaI N K L s a (B + 5) f' ∧ PasI N K L s g f' (fun x _ => x < m + 1) b' := by
  have hPP := hP
  obtain ⟨h8, h5, hN, hK, hL⟩ := hP
  have hL' : ∀ m o, m < N → o < K → L m o < N := fun m o h1 h2 => (hL m o h1 (Or.inl h2)).1
  suffices hl : ∃ r, lpN (Md_layChanges_L91 (nI s) (nI m)) FU (b, nI 0, T1) = some r ∧ (SamT T r.2 ∧ ∃ f' : Nat → Nat, (∀ j, j < 40 → gi r.2 75 j = nI (f' j)) ∧ LaI N K L s a (B + 5) f' ∧ PasI N K L s g f' (fun x _ => x < m + 1) r.1) by
    obtain ⟨r, e, h⟩ := hl
    exact ⟨r.1, r.2, e, h⟩
  refine lp_inv (fun i (q : Int32 × Int32 × Sm) => q.2.1 = nI i ∧ SamT T q.2.2 ∧ ∃ f' : Nat → Nat, (∀ j, j < 40 → gi q.2.2 75 j = nI (f' j)) ∧ LaI N K L s a (B + i) f' ∧ PasI N K L s g f' (fun x y => x < m ∨ x = m ∧ y < i) q.1) K (by omega) ⟨rfl, h1, f, hg, hf, hp.1, fun x y hx hy hxy => hp.2.1 x y hx hy (by omega), hp.2.2⟩ (fun i q hi hq => ?_) (fun q hq => ?_)
  · obtain ⟨q1, q2, T2⟩ := q
    obtain ⟨rfl, g1, f', g2, g3, g4, g5, g6⟩ := hq
    have g1 : SamT T T2 := g1
    have g2 : ∀ j, j < 40 → gi T2 75 j = nI (f' j) := g2
    have hT2 := hW T2 g1
    have f40 : ∀ j, j < 40 → f' j ≤ 1000000 := fun j hj => Nat.le_trans (g4 j hj) (h40 j hj)
    obtain ⟨b2, T3, e, k1, f2, k2, k3, k4, k5, k6⟩ := md_spread hPP hW hs ha g1 hm hi g2 g3 (by omega) f40
    have nb : ∃ b3, (b3 = nI 1 ∧ (∃ x y, x < N ∧ y < K ∧ f2 (5 * x + y) < g (5 * x + y)) ∨ b3 = nI 0 ∧ ∀ j, j < 40 → f2 j = g j) ∧ Md_layChanges_L91 (nI s) (nI m) (q1, nI i, T2) = some (.inl (b3, nI (i + 1), T3)) := by
      unfold Md_layChanges_L91 Md_layChanges_118_L91 Md_layChanges_123_L91
      rcases k6 with ⟨rfl, x, y, hx, hy, hlt⟩ | ⟨rfl, hsame⟩
      · refine ⟨nI 1, Or.inl ⟨rfl, x, y, hx, hy, Nat.lt_of_lt_of_le hlt (g4 _ (by omega))⟩, ?_⟩
        simp (disch := omega) only [q_lit, q_m1, q_m2, q_hid, q_add, q_mul, q_sub, q_le, q_lt, q_eq, q_mlt, q_mle, q_ltm, q_lem, q_meq, q_eqm, q_m2lt, q_m2le, q_ltm2, q_lem2, q_eqm2, q_mm2, q_m2m, q_mm, q_mnm, q_ix, q_inb, q_a0, q_a1, q_app, q_bind, if_true, if_false, if_pos, if_neg, hT2.2.1, e]
      · rcases g6 with ⟨g6, x, y, hx, hy, hlt⟩ | ⟨g6, hs2⟩
        · have g6 : q1 = nI 1 := g6
          subst g6
          refine ⟨nI 1, Or.inl ⟨rfl, x, y, hx, hy, by rw [hsame _ (by omega)]; exact hlt⟩, ?_⟩
          simp (disch := omega) only [q_lit, q_m1, q_m2, q_hid, q_add, q_mul, q_sub, q_le, q_lt, q_eq, q_mlt, q_mle, q_ltm, q_lem, q_meq, q_eqm, q_m2lt, q_m2le, q_ltm2, q_lem2, q_eqm2, q_mm2, q_m2m, q_mm, q_mnm, q_ix, q_inb, q_a0, q_a1, q_app, q_bind, if_true, if_false, if_pos, if_neg, hT2.2.1, e]
        · have g6 : q1 = nI 0 := g6
          subst g6
          refine ⟨nI 0, Or.inr ⟨rfl, fun j hj => (hsame j hj).trans (hs2 j hj)⟩, ?_⟩
          simp (disch := omega) only [q_lit, q_m1, q_m2, q_hid, q_add, q_mul, q_sub, q_le, q_lt, q_eq, q_mlt, q_mle, q_ltm, q_lem, q_meq, q_eqm, q_m2lt, q_m2le, q_ltm2, q_lem2, q_eqm2, q_mm2, q_m2m, q_mm, q_mnm, q_ix, q_inb, q_a0, q_a1, q_app, q_bind, if_true, if_false, if_pos, if_neg, hT2.2.1, e]
    obtain ⟨b3, hb3, ee⟩ := nb
    refine Or.inl ⟨(b3, nI (i + 1), T3), ee, rfl, k1, f2, k2, k3, fun j hj => Nat.le_trans (k4 j hj) (g4 j hj), fun x y hx hy hxy hfin => ?_, hb3⟩
    by_cases z : x = m ∧ y = i
    · obtain ⟨rfl, rfl⟩ := z
      have u := g4 (5 * x + y) (by omega)
      obtain ⟨w1, w2⟩ := k5 (by omega)
      exact ⟨Nat.le_trans w1 u, fun o h1 h2 => Nat.le_trans (w2 o h1 h2) (by omega)⟩
    · have hxy' : x < m ∨ x = m ∧ y < i + 1 := hxy
      obtain ⟨w1, w2⟩ := g5 x y hx hy (by omega) hfin
      have lx := hL' x y hx hy
      exact ⟨Nat.le_trans (k4 _ (by omega)) w1, fun o h1 h2 => Nat.le_trans (k4 _ (by omega)) (w2 o h1 h2)⟩
  · obtain ⟨q1, q2, T2⟩ := q
    obtain ⟨rfl, g1, f', g2, g3, g4, g5, g6⟩ := hq
    have hT2 := hW T2 g1
    refine ⟨(q1, T2), ?_, g1, f', g2, g3.wide (by omega), g4, fun x y hx hy hxy => g5 x y hx hy (by have hxy : x < m + 1 := hxy; omega), g6⟩
    unfold Md_layChanges_L91
    simp (disch := omega) only [q_lit, q_m1, q_m2, q_hid, q_add, q_mul, q_sub, q_le, q_lt, q_eq, q_mlt, q_mle, q_ltm, q_lem, q_meq, q_eqm, q_m2lt, q_m2le, q_ltm2, q_lem2, q_eqm2, q_mm2, q_m2m, q_mm, q_mnm, q_ix, q_inb, q_a0, q_a1, q_app, q_bind, if_true, if_false, if_pos, if_neg, hT2.2.1, Nat.le_refl]
theorem md_pass (hP : WyP N K L D) (hW : ∀ T1, SamT T T1 → WyT N K L D T1) (hs : s < 32) (ha : a < N) {T1 : Sm} (h1 : SamT T T1) {g : Nat → Nat} {B : Nat} (hg : ∀ j, j < 40 → gi T1 75 j = nI (g j)) (hf : LaI N K L s a B g) (hB : B < 700000) (h40 : ∀ j, j < 40 → g j ≤ 1000000) : ∃ b' T2, lpN (Md_layChanges_L77 (nI s)) FU (nI 0, nI 0, T1) = some (b', T2) ∧ SamT T T2 ∧ ∃ f' : Nat → Nat, (∀ j, j < 40 → gi T2 75 j = nI (f' j)) ∧ LaI N K L s a (B + 40) f' ∧ PasI N K L s g f' (fun _ _ => True) b' := by
  have h8 := hP.1
  suffices hl : ∃ r, lpN (Md_layChanges_L77 (nI s)) FU (nI 0, nI 0, T1) = some r ∧ (SamT T r.2 ∧ ∃ f' : Nat → Nat, (∀ j, j < 40 → gi r.2 75 j = nI (f' j)) ∧ LaI N K L s a (B + 40) f' ∧ PasI N K L s g f' (fun _ _ => True) r.1) by
    obtain ⟨r, e, h⟩ := hl
    exact ⟨r.1, r.2, e, h⟩
  refine lp_inv (fun i (q : Int32 × Int32 × Sm) => q.2.1 = nI i ∧ SamT T q.2.2 ∧ ∃ f' : Nat → Nat, (∀ j, j < 40 → gi q.2.2 75 j = nI (f' j)) ∧ LaI N K L s a (B + 5 * i) f' ∧ PasI N K L s g f' (fun x _ => x < i) q.1) N (by omega) ⟨rfl, h1, g, hg, hf, fun j _ => Nat.le_refl _, fun x y hx hy hxy => absurd hxy (Nat.not_lt_zero x), Or.inr ⟨rfl, fun j _ => rfl⟩⟩ (fun i q hi hq => ?_) (fun q hq => ?_)
  · obtain ⟨q1, q2, T2⟩ := q
    obtain ⟨rfl, g1, f', g2, g3, g4⟩ := hq
    have g1 : SamT T T2 := g1
    have hT2 := hW T2 g1
    obtain ⟨b', T3, e, k1, f2, k2, k3, k4⟩ := md_row hP hW hs ha g1 hi g2 g3 (by omega) h40 g4
    refine Or.inl ⟨(b', nI (i + 1), T3), ?_, rfl, k1, f2, k2, k3.wide (by omega), k4⟩
    unfold Md_layChanges_L77
    have e' : lpN (Md_layChanges_L91 (nI s) (nI i)) FU (q1, nI 0, T2) = some (b', T3) := e
    simp (disch := omega) only [q_lit, q_m1, q_m2, q_hid, q_add, q_mul, q_sub, q_le, q_lt, q_eq, q_mlt, q_mle, q_ltm, q_lem, q_meq, q_eqm, q_m2lt, q_m2le, q_ltm2, q_lem2, q_eqm2, q_mm2, q_m2m, q_mm, q_mnm, q_ix, q_inb, q_a0, q_a1, q_app, q_bind, if_true, if_false, if_pos, if_neg, hT2.1, e']
  · obtain ⟨q1, q2, T2⟩ := q
    obtain ⟨rfl, g1, f', g2, g3, g4, g5, g6⟩ := hq
    have hT2 := hW T2 g1
    refine ⟨(q1, T2), ?_, g1, f', g2, g3.wide (by omega), g4, fun x y hx hy _ => g5 x y hx hy hx, g6⟩
    unfold Md_layChanges_L77
    simp (disch := omega) only [q_lit, q_m1, q_m2, q_hid, q_add, q_mul, q_sub, q_le, q_lt, q_eq, q_mlt, q_mle, q_ltm, q_lem, q_meq, q_eqm, q_m2lt, q_m2le, q_ltm2, q_lem2, q_eqm2, q_mm2, q_m2m, q_mm, q_mnm, q_ix, q_inb, q_a0, q_a1, q_app, q_bind, if_true, if_false, if_pos, if_neg, hT2.1, Nat.le_refl]
/-- layers: what is reached by so many lamps, so many darks -/
def LyI (N K : Nat) (L : Nat → Nat → Nat) (s a : Nat) (f : Nat → Nat) (i : Nat) : Prop := ∀ k t, t ≤ 8 → 9 * k + t ≤ i → ∀ c, c < K → s.testBit c = true → ∀ m, Rch N K L (2 ^ c) (Al N K L s a k) t m → f (5 * m + c) ≤ k
theorem ly_step (h8 : N ≤ 8) (h5 : K ≤ 5) (hL : ∀ m o, m < N → o < K → L m o < N) (ha : a < N) {g f : Nat → Nat} {i : Nat} {b : Int32} (hg : LyI N K L s a g i) (hi : i < 1000) (hp : PasI N K L s g f (fun _ _ => True) b) : LyI N K L s a f (i + 1) := by
  intro k t ht hkt c hc hs m hr
  have hmN : ∀ t m, Rch N K L (2 ^ c) (Al N K L s a k) t m → m < N := fun t m h => Rch.ltP hL (Al.lt hL ha k) t m h
  match t, ht, hkt, hr with
  | t + 1, ht, hkt, hr =>
    rcases hr with hr | ⟨m', c', hm', h1, hc', h3, h4⟩
    · have u := hg k t (by omega) (by omega) c hc hs m hr
      have := hmN t m hr
      exact Nat.le_trans (hp.1 _ (by omega)) u
    · rw [tb_pow, decide_eq_true_iff] at h3
      subst h3
      have u := hg k t (by omega) (by omega) c hc hs m' h1
      obtain ⟨w1, -⟩ := hp.2.1 m' c hm' hc trivial (by omega)
      rw [h4] at w1
      exact Nat.le_trans w1 u
  | 0, ht, hkt, hr =>
    match k, hkt, hr with
    | 0, hkt, hr =>
      have u := hg 0 0 (by omega) (by omega) c hc hs m hr
      have := hmN 0 m hr
      exact Nat.le_trans (hp.1 _ (by omega)) u
    | k + 1, hkt, hr =>
      have hm := hmN 0 m hr
      rcases hr with hr | ⟨c', hc', hs', hr⟩
      · have u := hg k 0 (by omega) (by omega) c hc hs m hr
        exact Nat.le_trans (hp.1 _ (by omega)) (by omega)
      · have u := hg k 8 (by omega) (by omega) c' hc' hs' m hr
        obtain ⟨-, w2⟩ := hp.2.1 m c' hm hc' trivial (by omega)
        exact Nat.le_trans (w2 c hc hs) (by omega)
theorem md_lay (hP : WyP N K L D) (hW : ∀ T1, SamT T T1 → WyT N K L D T1) (hs : s < 32) (ha : a < N) : ∃ T2, Md_layChanges (nI a) (nI s) T = some T2 ∧ SamT T T2 ∧ ∃ f : Nat → Nat, (∀ j, j < 40 → gi T2 75 j = nI (f j) ∧ f j ≤ 1000000) ∧ LaI N K L s a 5000 f ∧ ∀ i, i < 1000 → LyI N K L s a f i := by
  have hPP := hP
  obtain ⟨h8, h5, hN, hK, hL⟩ := hP
  have hL' : ∀ m o, m < N → o < K → L m o < N := fun m o h1 h2 => (hL m o h1 (Or.inl h2)).1
  have e1 : ∃ T1, lpN (Md_layChanges_L2 (nI a) (nI s)) FU (nI 0, T) = some T1 ∧ SamT T T1 ∧ ∀ j, j < 40 → gi T1 75 j = nI 1000000 := by
    refine lp_inv (fun i (q : Int32 × Sm) => q.1 = nI i ∧ SamT T q.2 ∧ ∀ j, j < i → gi q.2 75 j = nI 1000000) 40 (by omega) ⟨rfl, SamT.rfl T, fun m h => absurd h (Nat.not_lt_zero m)⟩ (fun i q hi hq => ?_) (fun q hq => ?_)
    · obtain ⟨q1, T1⟩ := q
      obtain ⟨rfl, g1, g2⟩ := hq
      refine Or.inl ⟨(nI (i + 1), si T1 75 i (nI 1000000)), ?_, rfl, si75 g1, fun j hj => ?_⟩
      · unfold Md_layChanges_L2
        simp (disch := omega) only [q_lit, q_m1, q_m2, q_hid, q_add, q_mul, q_sub, q_le, q_lt, q_eq, q_mlt, q_mle, q_ltm, q_lem, q_meq, q_eqm, q_m2lt, q_m2le, q_ltm2, q_lem2, q_eqm2, q_mm2, q_m2m, q_mm, q_mnm, q_ix, q_inb, q_a0, q_a1, q_app, q_bind, if_true, if_false, if_pos, if_neg]
      · show (if (75 = 75 ∧ j = i) then _ else T1.1 75 j) = _
        by_cases x : j = i
        · rw [if_pos ⟨rfl, x⟩]
        · rw [if_neg fun h => x h.2]; exact g2 j (by omega)
    · obtain ⟨q1, T1⟩ := q
      obtain ⟨rfl, g1, g2⟩ := hq
      refine ⟨T1, ?_, g1, g2⟩
      unfold Md_layChanges_L2
      simp (disch := omega) only [q_lit, q_m1, q_m2, q_hid, q_add, q_mul, q_sub, q_le, q_lt, q_eq, q_mlt, q_mle, q_ltm, q_lem, q_meq, q_eqm, q_m2lt, q_m2le, q_ltm2, q_lem2, q_eqm2, q_mm2, q_m2m, q_mm, q_mnm, q_ix, q_inb, q_a0, q_a1, q_app, q_bind, if_true, if_false, if_pos, if_neg, Nat.le_refl]
  obtain ⟨T1, e1, g1, g2⟩ := e1
  have e2 : ∃ T2, lpN (Md_layChanges_L25 (nI a) (nI s)) FU (nI 0, T1) = some T2 ∧ SamT T T2 ∧ ∀ j, j < 40 → gi T2 75 j = nI (if ∃ c, c < K ∧ s.testBit c = true ∧ j = 5 * a + c then 0 else 1000000) := by
    refine lp_inv (fun i (q : Int32 × Sm) => q.1 = nI i ∧ SamT T q.2 ∧ ∀ j, j < 40 → gi q.2 75 j = nI (if ∃ c, c < i ∧ s.testBit c = true ∧ j = 5 * a + c then 0 else 1000000)) K (by omega) ⟨rfl, g1, fun j hj => by rw [if_neg fun ⟨c, h, _⟩ => absurd h (Nat.not_lt_zero c)]; exact g2 j hj⟩ (fun i q hi hq => ?_) (fun q hq => ?_)
    · obtain ⟨q1, T2⟩ := q
      obtain ⟨rfl, k1, k2⟩ := hq
      have k1 : SamT T T2 := k1
      have hT2 := hW T2 k1
      refine Or.inl ⟨(nI (i + 1), si T2 75 (5 * a + i) (nI (if s.testBit i = true then 0 else 1000000))), ?_, rfl, si75 k1, fun j hj => ?_⟩
      · unfold Md_layChanges_L25 Md_layChanges_59_L25
        by_cases t : s.testBit i = true
        · have t1 : Md_has (nI s) (nI i) = nI 1 := set_h1 (by omega) (by omega) t
          simp (disch := omega) only [q_lit, q_m1, q_m2, q_hid, q_add, q_mul, q_sub, q_le, q_lt, q_eq, q_mlt, q_mle, q_ltm, q_lem, q_meq, q_eqm, q_m2lt, q_m2le, q_ltm2, q_lem2, q_eqm2, q_mm2, q_m2m, q_mm, q_mnm, q_ix, q_inb, q_a0, q_a1, q_app, q_bind, if_true, if_false, if_pos, if_neg, hT2.2.1, t1, t]
        · have t0 : Md_has (nI s) (nI i) = nI 0 := set_h0 (by omega) (by omega) t
          rw [if_neg t]
          simp (disch := omega) only [q_lit, q_m1, q_m2, q_hid, q_add, q_mul, q_sub, q_le, q_lt, q_eq, q_mlt, q_mle, q_ltm, q_lem, q_meq, q_eqm, q_m2lt, q_m2le, q_ltm2, q_lem2, q_eqm2, q_mm2, q_m2m, q_mm, q_mnm, q_ix, q_inb, q_a0, q_a1, q_app, q_bind, if_true, if_false, if_pos, if_neg, hT2.2.1, t0]
      · show (if (75 = 75 ∧ j = 5 * a + i) then _ else T2.1 75 j) = _
        by_cases x : j = 5 * a + i
        · rw [if_pos ⟨rfl, x⟩]
          by_cases t : s.testBit i = true
          · rw [if_pos t, if_pos ⟨i, by omega, t, x⟩]
          · rw [if_neg t, if_neg]
            rintro ⟨c, h1, h2, h3⟩
            have : c = i := by omega
            rw [this] at h2; exact t h2
        · rw [if_neg fun h => x h.2]
          refine (k2 j hj).trans ?_
          by_cases y : ∃ c, c < i ∧ s.testBit c = true ∧ j = 5 * a + c
          · obtain ⟨c, h1, h2⟩ := y
            rw [if_pos ⟨c, h1, h2⟩, if_pos ⟨c, by omega, h2⟩]
          · rw [if_neg y, if_neg]
            rintro ⟨c, h1, h2, h3⟩
            exact y ⟨c, by omega, h2, h3⟩
    · obtain ⟨q1, T2⟩ := q
      obtain ⟨rfl, k1, k2⟩ := hq
      have hT2 := hW T2 k1
      refine ⟨T2, ?_, k1, k2⟩
      unfold Md_layChanges_L25
      simp (disch := omega) only [q_lit, q_m1, q_m2, q_hid, q_add, q_mul, q_sub, q_le, q_lt, q_eq, q_mlt, q_mle, q_ltm, q_lem, q_meq, q_eqm, q_m2lt, q_m2le, q_ltm2, q_lem2, q_eqm2, q_mm2, q_m2m, q_mm, q_mnm, q_ix, q_inb, q_a0, q_a1, q_app, q_bind, if_true, if_false, if_pos, if_neg, hT2.2.1, Nat.le_refl]
  obtain ⟨T2, e2, k1, k2⟩ := e2
  obtain ⟨f0, hf0⟩ : ∃ f0 : Nat → Nat, ∀ j, f0 j = if ∃ c, c < K ∧ s.testBit c = true ∧ j = 5 * a + c then 0 else 1000000 := ⟨fun j => if ∃ c, c < K ∧ s.testBit c = true ∧ j = 5 * a + c then 0 else 1000000, fun j => rfl⟩
  have k3 : ∀ j, j < 40 → gi T2 75 j = nI (f0 j) := fun j hj => by rw [hf0]; exact k2 j hj
  have le0 : ∀ j, f0 j ≤ 1000000 := fun j => by rw [hf0]; split <;> omega
  have la0 : LaI N K L s a 0 f0 := fun m c hm hc => ⟨le0 _, fun h => by
    have hh := hf0 (5 * m + c)
    by_cases y : ∃ c', c' < K ∧ s.testBit c' = true ∧ 5 * m + c = 5 * a + c'
    · rw [if_pos y] at hh
      obtain ⟨c', h1, h2, h3⟩ := y
      have ec : c' = c := by omega
      have em : m = a := by omega
      rw [hh]
      refine ⟨Nat.le_refl _, ec ▸ h2, ?_⟩
      rw [em]
      exact Rch.allP h8 hL' (Al.lt hL' ha 0) 0 a rfl
    · rw [if_neg y] at hh
      omega⟩
  have ly0 : LyI N K L s a f0 0 := by
    intro k t ht hkt c hc hsc m hr
    have hk : k = 0 := by omega
    have ht0 : t = 0 := by omega
    subst hk
    subst ht0
    have hr : a = m := hr
    rw [hf0, if_pos ⟨c, hc, hsc, by rw [hr]⟩]
    exact Nat.le_refl _
  have fin : ∀ (f : Nat → Nat), LaI N K L s a 5000 f → LyI N K L s a f 80 → ∀ m c, m < N → c < K → ∀ g : Nat → Nat, LaI N K L s a 6000 g → g (5 * m + c) < f (5 * m + c) → False := by
    intro f hf hl m c hm hc g hg hlt
    obtain ⟨q1, q2, q3⟩ := (hg m c hm hc).2 (by have := (hf m c hm hc).1; omega)
    by_cases z : g (5 * m + c) ≤ 8
    · have := hl (g (5 * m + c)) 8 (by omega) (by omega) c hc q2 m q3
      omega
    · have r8 : Rch N K L (2 ^ c) (Al N K L s a 8) 8 m := Rch.monoP (fun j hj => Al.all h8 hL' ha _ j hj) 8 m q3
      have := hl 8 8 (by omega) (by omega) c hc q2 m r8
      omega
  suffices hl : ∃ T3, lpN (Md_layChanges_L68 (nI s)) FU (nI 1, T2) = some T3 ∧ (SamT T T3 ∧ ∃ f : Nat → Nat, (∀ j, j < 40 → gi T3 75 j = nI (f j) ∧ f j ≤ 1000000) ∧ LaI N K L s a 5000 f ∧ ∀ i, i < 1000 → LyI N K L s a f i) by
    obtain ⟨T3, e3, h⟩ := hl
    refine ⟨T3, ?_, h⟩
    unfold Md_layChanges
    rw [show (0 : Int32) = nI 0 from rfl, e1]
    show ((lpN (Md_layChanges_L25 (nI a) (nI s)) FU (nI 0, T1)).bind _) = _
    rw [e2]
    show ((lpN (Md_layChanges_L68 (nI s)) FU (nI 1, T2)).bind _) = _
    rw [e3]; rfl
  refine lp_inv (fun i (q : Int32 × Sm) => SamT T q.2 ∧ ∃ f : Nat → Nat, (∀ j, j < 40 → gi q.2 75 j = nI (f j) ∧ f j ≤ 1000000) ∧ LaI N K L s a (40 * i) f ∧ LyI N K L s a f i ∧ (q.1 = nI 1 ∧ i ≤ 80 ∨ q.1 = nI 0 ∧ ∀ i, i < 1000 → LyI N K L s a f i)) 82 (by omega) ⟨k1, f0, fun j hj => ⟨k3 j hj, le0 j⟩, la0, ly0, Or.inl ⟨rfl, by omega⟩⟩ (fun i q hi hq => ?_) (fun q hq => ?_)
  · obtain ⟨q1, T3⟩ := q
    obtain ⟨g1, f, g2, g3, g4, g5⟩ := hq
    have g1 : SamT T T3 := g1
    have g2 : ∀ j, j < 40 → gi T3 75 j = nI (f j) ∧ f j ≤ 1000000 := g2
    rcases g5 with ⟨g5, h80⟩ | ⟨g5, g6⟩
    · have g5 : q1 = nI 1 := g5
      subst g5
      obtain ⟨b', T4, e, j1, f2, j2, j3, j4⟩ := md_pass hPP hW hs ha g1 (fun j hj => (g2 j hj).1) g3 (by omega) (fun j hj => (g2 j hj).2)
      refine Or.inl ⟨(b', T4), ?_, j1, f2, fun j hj => ⟨j2 j hj, Nat.le_trans (j4.1 j hj) (g2 j hj).2⟩, j3.wide (by omega), ly_step h8 h5 hL' ha g4 (by omega) j4, ?_⟩
      · unfold Md_layChanges_L68
        simp (disch := omega) only [q_lit, q_m1, q_m2, q_hid, q_add, q_mul, q_sub, q_le, q_lt, q_eq, q_mlt, q_mle, q_ltm, q_lem, q_meq, q_eqm, q_m2lt, q_m2le, q_ltm2, q_lem2, q_eqm2, q_mm2, q_m2m, q_mm, q_mnm, q_ix, q_inb, q_a0, q_a1, q_app, q_bind, if_true, if_false, if_pos, if_neg, e]
      · rcases j4.2.2 with ⟨hb, x, y, hx, hy, hlt⟩ | ⟨hb, hsame⟩
        · refine Or.inl ⟨hb, ?_⟩
          by_cases z : i = 80
          · subst z
            exact (fin f (g3.wide (by omega)) g4 x y hx hy f2 (j3.wide (by omega)) hlt).elim
          · omega
        · refine Or.inr ⟨hb, ?_⟩
          have fix : PasI N K L s f2 f2 (fun _ _ => True) b' := ⟨fun j _ => Nat.le_refl _, fun m c hm hc _ hlt => by
            have u := j4.2.1 m c hm hc trivial
            rw [← hsame _ (by omega)] at u
            exact u hlt, Or.inr ⟨hb, fun j _ => rfl⟩⟩
          have all : ∀ d, LyI N K L s a f2 (i + 1) → d < 1000 → i + 1 + d < 1000 → LyI N K L s a f2 (i + 1 + d) := fun d h0 hd hd2 => by
            induction d with
            | zero => exact h0
            | succ d ih => exact ly_step h8 h5 hL' ha (ih (by omega) (by omega)) (show i + 1 + d < 1000 by omega) fix
          intro n hn
          have base := ly_step h8 h5 hL' ha g4 (by omega) j4
          by_cases z : n ≤ i + 1
          · exact fun k t ht hkt => base k t ht (by omega)
          · have := all (n - (i + 1)) base (by omega) (by omega)
            rwa [show i + 1 + (n - (i + 1)) = n by omega] at this
    · have g5 : q1 = nI 0 := g5
      subst g5
      refine Or.inr ⟨T3, ?_, g1, f, g2, g3.wide (by omega), g6⟩
      unfold Md_layChanges_L68
      simp (disch := omega) only [q_lit, q_m1, q_m2, q_hid, q_add, q_mul, q_sub, q_le, q_lt, q_eq, q_mlt, q_mle, q_ltm, q_lem, q_meq, q_eqm, q_m2lt, q_m2le, q_ltm2, q_lem2, q_eqm2, q_mm2, q_m2m, q_mm, q_mnm, q_ix, q_inb, q_a0, q_a1, q_app, q_bind, if_true, if_false, if_pos, if_neg]
  · obtain ⟨q1, T3⟩ := q
    obtain ⟨g1, f, g2, g3, g4, g5⟩ := hq
    rcases g5 with ⟨g5, h80⟩ | ⟨g5, g6⟩
    · omega
    · have g5 : q1 = nI 0 := g5
      subst g5
      refine ⟨T3, ?_, g1, f, g2, g3.wide (by omega), g6⟩
      unfold Md_layChanges_L68
      simp (disch := omega) only [q_lit, q_m1, q_m2, q_hid, q_add, q_mul, q_sub, q_le, q_lt, q_eq, q_mlt, q_mle, q_ltm, q_lem, q_meq, q_eqm, q_m2lt, q_m2le, q_ltm2, q_lem2, q_eqm2, q_mm2, q_m2m, q_mm, q_mnm, q_ix, q_inb, q_a0, q_a1, q_app, q_bind, if_true, if_false, if_pos, if_neg]
end LB2
section LC
variable {N K F R w : Nat} {U : List Nat} {X : List (List Cl)} {T S : Sm}
theorem op_changes (h : RelP N K F R U X w T S) (v1 v2 v3 : Int32) : ∃ v p, Dk_changes v1 v2 v3 S = some v ∧ Md_changes v1 v2 v3 T = some p ∧ v = p.1 ∧ SamT T p.2 := by
  unfold Dk_changes Md_changes Dk_changes_24 Md_changes_17 Md_changes_89
  rcases areC h.1 v1 v2 v3 with ⟨a, b⟩ | ⟨m, g, s, hm, hg, hs0, hs, rfl, rfl, rfl, a, b, c⟩
  · rw [a]
    refine ⟨mI, (mI, T), rfl, ?_, rfl, SamT.rfl T⟩
    rcases b with b | ⟨b, b'⟩
    · rw [b]; rfl
    · rw [b, b']; rfl
  · have hN := pos_of hm
    have t1 : ¬ nI 1 = 0 := by decide
    obtain ⟨hP, hS, hT⟩ := way_of h hN
    obtain ⟨hW, hV, hC, hcS, hcT⟩ := hours_S h hN
    have h8 := hP.1
    have h5 := hP.2.1
    have hp5 := pow5 h5
    have hL' : ∀ m o, m < N → o < K → Ld (T.1 70) m o < N := fun m o h1 h2 => (hP.2.2.2.2 m o h1 (Or.inl h2)).1
    rw [a, b, c, if_neg t1, if_neg t1, if_neg t1]
    by_cases y : m = g
    · subst y
      rw [if_pos rfl]
      unfold Wy_fewestChanges
      rw [if_pos rfl]
      exact ⟨nI 0, (nI 0, T), rfl, rfl, rfl, SamT.rfl T⟩
    · have y' : ¬ nI m = nI g := fun e => y ((q_eq (by omega) (by omega)).mp e)
      rw [if_neg y']
      obtain ⟨v, e1, hv⟩ := wy_fc hP hS hm hg y (set_lt h5 hs)
      obtain ⟨T2, e2, l1, f, l2, l3, l4⟩ := md_lay hP hV (set_lt h5 hs) hm
      have hT2 := hV T2 l1
      have e3 : ∃ r, lpN (Md_changes_L40 (nI g) T2) FU (nI 1000000, nI 0) = some r ∧ ∃ v, r = nI v ∧ v ≤ 1000000 ∧ (∀ c, c < K → v ≤ f (5 * g + c)) ∧ (v = 1000000 ∨ ∃ c, c < K ∧ v = f (5 * g + c)) := by
        refine lp_inv (fun i (q : Int32 × Int32) => q.2 = nI i ∧ ∃ v, q.1 = nI v ∧ v ≤ 1000000 ∧ (∀ c, c < i → v ≤ f (5 * g + c)) ∧ (v = 1000000 ∨ ∃ c, c < K ∧ v = f (5 * g + c))) K (by omega) ⟨rfl, 1000000, rfl, Nat.le_refl _, fun c h => absurd h (Nat.not_lt_zero c), Or.inl rfl⟩ (fun i q hi hq => ?_) (fun q hq => ?_)
        · obtain ⟨q1, q2⟩ := q
          obtain ⟨rfl, v, g1, g2, g3, g4⟩ := hq
          have g1 : q1 = nI v := g1
          subst g1
          obtain ⟨u1, u2⟩ := l2 (5 * g + i) (by omega)
          refine Or.inl ⟨(nI (min v (f (5 * g + i))), nI (i + 1)), ?_, rfl, _, rfl, by omega, fun c hc => ?_, ?_⟩
          · unfold Md_changes_L40
            simp (disch := omega) only [q_lit, q_m1, q_m2, q_hid, q_add, q_mul, q_sub, q_le, q_lt, q_eq, q_mlt, q_mle, q_ltm, q_lem, q_meq, q_eqm, q_m2lt, q_m2le, q_ltm2, q_lem2, q_eqm2, q_mm2, q_m2m, q_mm, q_mnm, q_ix, q_inb, q_a0, q_a1, q_app, q_bind, if_true, if_false, if_pos, if_neg, hT2.2.1, u1, q_min]
          · by_cases x : c = i
            · rw [x]; exact Nat.min_le_right _ _
            · exact Nat.le_trans (Nat.min_le_left _ _) (g3 c (by omega))
          · rcases Nat.le_total v (f (5 * g + i)) with x | x
            · rw [Nat.min_eq_left x]; exact g4
            · rw [Nat.min_eq_right x]; exact Or.inr ⟨i, hi, rfl⟩
        · obtain ⟨q1, q2⟩ := q
          obtain ⟨rfl, v, g1, g2, g3, g4⟩ := hq
          refine ⟨q1, ?_, v, g1, g2, g3, g4⟩
          unfold Md_changes_L40
          simp (disch := omega) only [q_lit, q_m1, q_m2, q_hid, q_add, q_mul, q_sub, q_le, q_lt, q_eq, q_mlt, q_mle, q_ltm, q_lem, q_meq, q_eqm, q_m2lt, q_m2le, q_ltm2, q_lem2, q_eqm2, q_mm2, q_m2m, q_mm, q_mnm, q_ix, q_inb, q_a0, q_a1, q_app, q_bind, if_true, if_false, if_pos, if_neg, hT2.2.1, Nat.le_refl]
      obtain ⟨r, e3, u, rfl, u1, u2, u3⟩ := e3
      have comp : ∀ k, k < 50 → Al N K (Ld (T.1 70)) s m (k + 1) g → ∃ c, c < K ∧ f (5 * g + c) ≤ k := by
        intro k
        induction k with
        | zero =>
          rintro - (hA | ⟨c, hc, hsc, hr⟩)
          · exact absurd hA y
          · exact ⟨c, hc, l4 8 (by omega) 0 8 (by omega) (by omega) c hc hsc g hr⟩
        | succ k ih =>
          rintro hk (hA | ⟨c, hc, hsc, hr⟩)
          · obtain ⟨c, hc, hle⟩ := ih (by omega) hA
            exact ⟨c, hc, by omega⟩
          · exact ⟨c, hc, l4 (9 * (k + 1) + 8) (by omega) (k + 1) 8 (by omega) (by omega) c hc hsc g hr⟩
      have hu : ChR N K (Ld (T.1 70)) s m g (if u = 1000000 then mI else nI u) := by
        by_cases z : u = 1000000
        · rw [if_pos z]
          refine Or.inl ⟨rfl, fun k hk => ?_⟩
          have h8' := Al.all h8 hL' hm k g hk
          obtain ⟨c, hc, hle⟩ := comp 7 (by omega) h8'
          have := u2 c hc
          omega
        · rw [if_neg z]
          rcases u3 with u3 | ⟨c, hc, u3⟩
          · exact absurd u3 z
          · obtain ⟨q1, q2, q3⟩ := (l3 g c hg hc).2 (by omega)
            rw [← u3] at q3 q1
            have hA : Al N K (Ld (T.1 70)) s m (u + 1) g := Or.inr ⟨c, hc, q2, q3⟩
            have no : ¬ Al N K (Ld (T.1 70)) s m u g := fun hn => by
              match u, hn with
              | 0, hn => exact y hn
              | u' + 1, hn =>
                by_cases sm : u' < 50
                · obtain ⟨c', hc', hle⟩ := comp u' sm hn
                  have := u2 c' hc'
                  omega
                · obtain ⟨c', hc', hle⟩ := comp 7 (by omega) (Al.all h8 hL' hm _ g hn)
                  have := u2 c' hc'
                  omega
            have u50 : u < 1000 := by
              obtain ⟨c', hc', hle⟩ := comp 7 (by omega) (Al.all h8 hL' hm _ g hA)
              have := u2 c' hc'
              omega
            exact Or.inr ⟨u, u50, rfl, hA, no⟩
      have ev := hv.uniq hu
      refine ⟨v, (v, T2), ?_, ?_, rfl, l1⟩
      · rw [e1]; rfl
      · rw [e2]
        show ((lpN (Md_changes_L40 (nI g) T2) FU (nI 1000000, nI 0)).bind _) = _
        rw [e3, ev]
        by_cases z : u = 1000000
        · simp (disch := omega) only [q_lit, q_m1, q_m2, q_hid, q_add, q_mul, q_sub, q_le, q_lt, q_eq, q_mlt, q_mle, q_ltm, q_lem, q_meq, q_eqm, q_m2lt, q_m2le, q_ltm2, q_lem2, q_eqm2, q_mm2, q_m2m, q_mm, q_mnm, q_ix, q_inb, q_a0, q_a1, q_app, q_bind, if_true, if_false, if_pos, if_neg, z]
        · simp (disch := omega) only [q_lit, q_m1, q_m2, q_hid, q_add, q_mul, q_sub, q_le, q_lt, q_eq, q_mlt, q_mle, q_ltm, q_lem, q_meq, q_eqm, q_m2lt, q_m2le, q_ltm2, q_lem2, q_eqm2, q_mm2, q_m2m, q_mm, q_mnm, q_ix, q_inb, q_a0, q_a1, q_app, q_bind, if_true, if_false, if_pos, if_neg, z]
end LC
