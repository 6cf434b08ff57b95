/-! ===== the class: could, tells ===== -/
theorem nwO_s (N n : Nat) (b : Nat → Bool) (j m x : Nat) : nwO N n b j m (x + 1) = nwO N n b j m x + (if b x = true ∧ nwDg N n x j = m then 1 else 0) := by
  show cntN _ (x + 1) = cntN _ x + _
  by_cases c : b x = true ∧ nwDg N n x j = m
  · rw [if_pos c, cnt_t (by rw [c.1, c.2]; simp)]
  · rw [if_neg c, cnt_n (by
      cases hb : b x
      · rfl
      · exact decide_eq_false fun z => c ⟨hb, z⟩)]; rfl
theorem nwO_le (N n : Nat) (b : Nat → Bool) (j m : Nat) : ∀ x, nwO N n b j m x ≤ cntN b x
  | 0 => Nat.le_refl _
  | x + 1 => by
    have ih := nwO_le N n b j m x
    rw [nwO_s, cnt_s]
    by_cases c : b x = true
    · rw [if_pos c]; split <;> omega
    · rw [if_neg c, if_neg fun z => c z.1]; exact ih
theorem nwO_ex (N n : Nat) (b : Nat → Bool) (j : Nat) : ∀ x, 0 < cntN b x → ∃ m, 0 < nwO N n b j m x ∧ (0 < N → m < N)
  | 0, h => absurd h (Nat.lt_irrefl 0)
  | x + 1, h => by
    rw [cnt_s] at h
    by_cases c : b x = true
    · refine ⟨nwDg N n x j, ?_, fun hN => nwDg_lt hN⟩
      rw [nwO_s, if_pos ⟨c, rfl⟩]; omega
    · rw [if_neg c] at h
      obtain ⟨m, h1, h2⟩ := nwO_ex N n b j x h
      exact ⟨m, by rw [nwO_s]; omega, h2⟩
def nwM (O : Nat → Nat) : Nat → Nat := fun k => fld (fun m a => max a (O m)) k 0
theorem nwM_ge (O : Nat → Nat) : ∀ k m, m < k → O m ≤ nwM O k
  | 0, m, h => absurd h (Nat.not_lt_zero m)
  | k + 1, m, h => by
    show O m ≤ max (nwM O k) (O k)
    by_cases c : m = k
    · rw [c]; exact Nat.le_max_right _ _
    · exact Nat.le_trans (nwM_ge O k m (by omega)) (Nat.le_max_left _ _)
theorem nwM_le (O : Nat → Nat) {c : Nat} (h : ∀ m, O m ≤ c) : ∀ k, nwM O k ≤ c
  | 0 => Nat.zero_le _
  | k + 1 => Nat.max_le.mpr ⟨nwM_le O h k, h k⟩
section NZ
variable {N K F R w : Nat} {U : List Nat} {X : List (List Cl)} {T S : Sm}
theorem sg_could (h : RelP N K F R U X w T S) (hN : 0 < N) {S0 : Sm} (hS0 : SamS S S0) {j : Nat} (hj : j < (UN U (T.1 70)).length) : ∃ v S2, Sg_couldLead (nI j) S0 = some (v, S2) ∧ SamS S S2 ∧ Msk (fun m => 0 < nwO N (UN U (T.1 70)).length (nwB (UN U (T.1 70)) N (T.1 70) T) j m (N ^ (UN U (T.1 70)).length)) v := by
  have l4 : (UN U (T.1 70)).length ≤ 4 := Nat.le_trans (List.length_filter_le _ _) h.2.2.1.2.1
  have h8 := h.1.2.2.2.2.2.2.1
  have hp := nw_pow h8 l4
  obtain ⟨S1, e1, a1, -⟩ := sg_begin h hN hS0
  suffices hl : ∃ r, lpN (Sg_couldLead_L10 (nI j) (nI (N ^ (UN U (T.1 70)).length))) FU (nI 0, nI 0, S1) = some r ∧ Msk (fun m => 0 < nwO N (UN U (T.1 70)).length (nwB (UN U (T.1 70)) N (T.1 70) T) j m (N ^ (UN U (T.1 70)).length)) r.1 ∧ SamS S r.2 by
    obtain ⟨r, e, b1, b2⟩ := hl
    refine ⟨r.1, r.2, ?_, b2, b1⟩
    unfold Sg_couldLead
    rw [e1, q_bind, show (0 : Int32) = nI 0 from rfl]
    show (lpN (Sg_couldLead_L10 (nI j) (nI (N ^ (UN U (T.1 70)).length))) FU (nI 0, nI 0, S1)).bind _ = _
    rw [e]; rfl
  refine lp_inv (fun x (q : Int32 × Int32 × Sm) => Msk (fun m => 0 < nwO N (UN U (T.1 70)).length (nwB (UN U (T.1 70)) N (T.1 70) T) j m x) q.1 ∧ q.2.1 = nI x ∧ NwA (UN U (T.1 70)) S q.2.2) (N ^ (UN U (T.1 70)).length) (by omega) ⟨Msk.none.of fun m => ⟨fun z => z.elim, fun z => absurd z (Nat.lt_irrefl 0)⟩, rfl, a1⟩ (fun x q hx hq => ?_) (fun q hq => ?_)
  · obtain ⟨q1, q2, S2⟩ := q
    obtain ⟨hq1, hq2, hA⟩ := hq
    have hq2 : q2 = nI x := hq2
    have hq1 : Msk _ q1 := hq1
    subst hq2
    obtain ⟨S3, e3, a3, a4, -⟩ := sg_isNet h hN hA (x := x) (by omega)
    have c0 : ¬ nI (N ^ (UN U (T.1 70)).length) ≤ nI x := by rw [q_le (by omega) (by omega)]; omega
    unfold Sg_couldLead_L10 Sg_couldLead_37_L10
    simp only []
    rw [if_neg c0, show Sg_isNet (nI x) S2 = _ from e3, q_bind]
    cases hb : nwB (UN U (T.1 70)) N (T.1 70) T x
    · refine Or.inl ⟨(q1 ||| nI 0, nI (x + 1), S3), ?_, (hq1.or Msk.none).of fun m => ?_, rfl, a3⟩
      · rw [if_pos (by rfl), show (1 : Int32) = nI 1 from rfl, q_add]; rfl
      · rw [nwO_s, if_neg (fun (z : nwB (UN U (T.1 70)) N (T.1 70) T x = true ∧ nwDg N (UN U (T.1 70)).length x j = m) => by rw [hb] at z; cases z.1)]
        exact ⟨fun z => z.elim (fun z => z) (fun z => z.elim), fun z => Or.inl z⟩
    · have am := (sg_digits h hN a3 a4).1 j hj
      have hdl := nwDg_lt (n := (UN U (T.1 70)).length) (x := x) (j := j) hN
      refine Or.inl ⟨(q1 ||| nI (2 ^ nwDg N (UN U (T.1 70)).length x j), nI (x + 1), S3), ?_, (hq1.or (Msk.one (m := nwDg N (UN U (T.1 70)).length x j) (by omega))).of fun m => ?_, rfl, a3⟩
      · rw [if_neg (show ¬ bI true = 0 by decide), am, show (1 : Int32) = nI 1 from rfl, q_shl (by omega), q_add]
      · rw [nwO_s]
        by_cases z : nwDg N (UN U (T.1 70)).length x j = m
        · rw [if_pos ⟨hb, z⟩]
          exact ⟨fun _ => Nat.succ_pos _, fun _ => Or.inr z⟩
        · rw [if_neg (show ¬ _ from fun y => z y.2)]
          exact ⟨fun y => y.elim (fun y => y) (fun y => absurd y z), fun y => Or.inl y⟩
  · obtain ⟨q1, q2, S2⟩ := q
    obtain ⟨hq1, hq2, hA⟩ := hq
    have hq2 : q2 = _ := hq2
    subst hq2
    refine ⟨(q1, S2), ?_, hq1, hA.1⟩
    unfold Sg_couldLead_L10
    exact if_pos ((q_le (by omega) (by omega)).mpr (Nat.le_refl _))
/-- row 46 holds how often -/
def NwO (n : Nat) (O : Nat → Nat → Nat) (f : Nat → Int32) : Prop := ∀ j m, j < n → m < 8 → f (8 * j + m) = nI (O j m)
theorem sg_add1 (h : RelP N K F R U X w T S) (hN : 0 < N) {S1 : Sm} {x : Nat} {O : Nat → Nat → Nat} (hA : NwA (UN U (T.1 70)) S S1) (hd : ∀ j u, (UN U (T.1 70))[j]? = some u → gi S1 45 u = nI (nwDg N (UN U (T.1 70)).length x j)) (hO : NwO (UN U (T.1 70)).length O (S1.1 46)) : ∃ S2, Sg_countAssumed S1 = some S2 ∧ NwA (UN U (T.1 70)) S S2 ∧ NwO (UN U (T.1 70)).length (fun j m => O j m + if nwDg N (UN U (T.1 70)).length x j = m then 1 else 0) (S2.1 46) := by
  have l4 : (UN U (T.1 70)).length ≤ 4 := Nat.le_trans (List.length_filter_le _ _) h.2.2.1.2.1
  have h8 := h.1.2.2.2.2.2.2.1
  suffices hl : ∃ r, lpN Sg_countAssumed_L2 FU (nI 0, S1) = some r ∧ NwA (UN U (T.1 70)) S r ∧ NwO (UN U (T.1 70)).length (fun j m => O j m + if nwDg N (UN U (T.1 70)).length x j = m then 1 else 0) (r.1 46) by
    obtain ⟨r, e, b1, b2⟩ := hl
    refine ⟨r, ?_, b1, b2⟩
    unfold Sg_countAssumed
    rw [show (0 : Int32) = nI 0 from rfl, e]; rfl
  refine lp_inv (fun i (q : Int32 × Sm) => q.1 = nI i ∧ NwA (UN U (T.1 70)) S q.2 ∧ (∀ j u, (UN U (T.1 70))[j]? = some u → gi q.2 45 u = nI (nwDg N (UN U (T.1 70)).length x j)) ∧ NwO (UN U (T.1 70)).length (fun j m => O j m + if j < i ∧ nwDg N (UN U (T.1 70)).length x j = m then 1 else 0) (q.2.1 46)) (UN U (T.1 70)).length (by omega) ⟨rfl, hA, hd, fun j m hj hm => ?_⟩ (fun i q hi hq => ?_) (fun q hq => ?_)
  · show S1.1 46 (8 * j + m) = nI (O j m + if j < 0 ∧ _ then 1 else 0)
    rw [if_neg fun z => absurd z.1 (Nat.not_lt_zero j)]; exact hO j m hj hm
  · obtain ⟨q1, S2⟩ := q
    obtain ⟨hq1, hA2, hd2, hO2⟩ := hq
    have hq1 : q1 = nI i := hq1
    have hA2 : NwA (UN U (T.1 70)) S S2 := hA2
    subst hq1
    have am := (sg_digits h hN hA2 hd2).1 i hi
    have hdl := nwDg_lt (n := (UN U (T.1 70)).length) (x := x) (j := i) hN
    obtain ⟨d, hdd⟩ : ∃ d, d = nwDg N (UN U (T.1 70)).length x i := ⟨_, rfl⟩
    rw [← hdd] at am hdl
    have o1 : gi S2 46 (8 * i + d) = nI (O i d) := by
      have : S2.1 46 (8 * i + d) = nI (O i d + if i < i ∧ nwDg N (UN U (T.1 70)).length x i = d then 1 else 0) := hO2 i d hi (by omega)
      rw [if_neg (fun (z : i < i ∧ nwDg N (UN U (T.1 70)).length x i = d) => absurd z.1 (Nat.lt_irrefl i))] at this
      exact this
    refine Or.inl ⟨(nI (i + 1), si S2 46 (8 * i + d) (nI (O i d + 1))), ?_, rfl, ⟨hA2.1.si rfl, hA2.2.1, hA2.2.2.1, hA2.2.2.2⟩, hd2, fun j m hj hm => ?_⟩
    · have c0 : ¬ gi S2 42 7 ≤ nI i := by rw [hA2.2.1, q_le (by omega) (by omega)]; omega
      unfold Sg_countAssumed_L2
      simp only []
      rw [if_neg c0, am, show nI i * 8 + nI d = nI (8 * i + d) by rw [show (8 : Int32) = nI 8 from rfl, q_mul, q_add, Nat.mul_comm], q_at (by omega) (by omega), o1, q_pu (by omega) (by omega), show (1 : Int32) = nI 1 from rfl, q_add, q_add]; rfl
    · show (if 46 = 46 ∧ 8 * j + m = 8 * i + d then nI (O i d + 1) else S2.1 46 (8 * j + m)) = nI (O j m + if j < i + 1 ∧ nwDg N (UN U (T.1 70)).length x j = m then 1 else 0)
      have this : S2.1 46 (8 * j + m) = nI (O j m + if j < i ∧ nwDg N (UN U (T.1 70)).length x j = m then 1 else 0) := hO2 j m hj hm
      by_cases z : j = i
      · subst z
        rw [if_neg (fun (z : j < j ∧ nwDg N (UN U (T.1 70)).length x j = m) => absurd z.1 (Nat.lt_irrefl j))] at this
        by_cases y : m = d
        · subst y
          rw [if_pos ⟨rfl, rfl⟩, if_pos ⟨Nat.lt_succ_self j, hdd.symm⟩]
        · rw [if_neg (fun (z : 46 = 46 ∧ 8 * j + m = 8 * j + d) => y (by omega)), if_neg (fun (z : j < j + 1 ∧ nwDg N (UN U (T.1 70)).length x j = m) => y (by rw [hdd]; exact z.2.symm))]
          exact this
      · rw [if_neg (fun (z : 46 = 46 ∧ 8 * j + m = 8 * i + d) => by omega), this]
        by_cases y : j < i ∧ nwDg N (UN U (T.1 70)).length x j = m
        · rw [if_pos y, if_pos ⟨by omega, y.2⟩]
        · rw [if_neg y, if_neg (fun (u : j < i + 1 ∧ nwDg N (UN U (T.1 70)).length x j = m) => y ⟨by omega, u.2⟩)]
  · obtain ⟨q1, S2⟩ := q
    obtain ⟨hq1, hA2, hd2, hO2⟩ := hq
    have hq1 : q1 = _ := hq1
    have hA2 : NwA (UN U (T.1 70)) S S2 := hA2
    subst hq1
    refine ⟨S2, ?_, hA2, fun j m hj hm => ?_⟩
    · unfold Sg_countAssumed_L2
      exact if_pos (by rw [hA2.2.1]; exact (q_le (by omega) (by omega)).mpr (Nat.le_refl _))
    · have this : S2.1 46 (8 * j + m) = nI (O j m + if j < (UN U (T.1 70)).length ∧ nwDg N (UN U (T.1 70)).length x j = m then 1 else 0) := hO2 j m hj hm
      show S2.1 46 (8 * j + m) = nI (O j m + if nwDg N (UN U (T.1 70)).length x j = m then 1 else 0)
      by_cases y : nwDg N (UN U (T.1 70)).length x j = m
      · rw [if_pos ⟨hj, y⟩] at this
        rw [if_pos y]; exact this
      · rw [if_neg fun z => y z.2] at this
        rw [if_neg y]; exact this
theorem sg_often (h : RelP N K F R U X w T S) (hN : 0 < N) {S0 : Sm} (hS0 : SamS S S0) : ∃ S2, Sg_countOften S0 = some S2 ∧ NwA (UN U (T.1 70)) S S2 ∧ NwO (UN U (T.1 70)).length (fun j m => nwO N (UN U (T.1 70)).length (nwB (UN U (T.1 70)) N (T.1 70) T) j m (N ^ (UN U (T.1 70)).length)) (S2.1 46) := by
  have l4 : (UN U (T.1 70)).length ≤ 4 := Nat.le_trans (List.length_filter_le _ _) h.2.2.1.2.1
  have h8 := h.1.2.2.2.2.2.2.1
  have hp := nw_pow h8 l4
  obtain ⟨S1, e1, a1, a2⟩ : ∃ S1, lpN Sg_countOften_L2 FU (nI 0, S0) = some S1 ∧ SamS S S1 ∧ ∀ k, k < 32 → gi S1 46 k = nI 0 := by
    refine lp_inv (fun i (q : Int32 × Sm) => q.1 = nI i ∧ SamS S q.2 ∧ ∀ k, k < i → gi q.2 46 k = nI 0) 32 (by omega) ⟨rfl, hS0, fun k hk => absurd hk (by omega)⟩ (fun i q hi hq => ?_) (fun q hq => ?_)
    · obtain ⟨q1, S1⟩ := q
      obtain ⟨hq1, g1, g2⟩ := hq
      have hq1 : q1 = nI i := hq1
      have g1 : SamS S S1 := g1
      subst hq1
      refine Or.inl ⟨(nI (i + 1), si S1 46 i (nI 0)), ?_, rfl, g1.si rfl, fun k hk => ?_⟩
      · unfold Sg_countOften_L2
        simp (disch := omega) only [q_lit, q_m1, q_m2, q_hid, q_add, q_mul, q_sub, q_le, q_lt, q_eq, q_mlt, q_mle, q_ltm, q_lem, q_meq, q_eqm, q_m2lt, q_m2le, q_ltm2, q_lem2, q_eqm2, q_mm2, q_m2m, q_mm, q_mnm, q_ix, q_inb, q_a0, q_a1, q_app, q_bind, if_true, if_false, if_pos, if_neg, q_pu]
      · show (if 46 = 46 ∧ k = i then nI 0 else gi S1 46 k) = _
        by_cases z : k = i
        · rw [if_pos ⟨rfl, z⟩]
        · rw [if_neg fun e => z e.2]; exact g2 k (by omega)
    · obtain ⟨q1, S1⟩ := q
      obtain ⟨hq1, g1, g2⟩ := hq
      have hq1 : q1 = nI 32 := hq1
      subst hq1
      exact ⟨S1, rfl, g1, g2⟩
  obtain ⟨S2, e2, b1, b2⟩ := sg_begin h hN a1
  suffices hl : ∃ r, lpN (Sg_countOften_L33 (nI (N ^ (UN U (T.1 70)).length))) FU (nI 0, S2) = some r ∧ NwA (UN U (T.1 70)) S r ∧ NwO (UN U (T.1 70)).length (fun j m => nwO N (UN U (T.1 70)).length (nwB (UN U (T.1 70)) N (T.1 70) T) j m (N ^ (UN U (T.1 70)).length)) (r.1 46) by
    obtain ⟨r, e, c1, c2⟩ := hl
    refine ⟨r, ?_, c1, c2⟩
    unfold Sg_countOften
    rw [show (0 : Int32) = nI 0 from rfl, e1, q_bind, e2, q_bind]
    show (lpN (Sg_countOften_L33 (nI (N ^ (UN U (T.1 70)).length))) FU (nI 0, S2)).bind _ = _
    rw [e]; rfl
  refine lp_inv (fun x (q : Int32 × Sm) => q.1 = nI x ∧ NwA (UN U (T.1 70)) S q.2 ∧ NwO (UN U (T.1 70)).length (fun j m => nwO N (UN U (T.1 70)).length (nwB (UN U (T.1 70)) N (T.1 70) T) j m x) (q.2.1 46)) (N ^ (UN U (T.1 70)).length) (by omega) ⟨rfl, b1, fun j m hj hm => ?_⟩ (fun x q hx hq => ?_) (fun q hq => ?_)
  · show S2.1 46 (8 * j + m) = nI 0
    rw [b2 46 (by omega) (by omega) (by omega)]; exact a2 _ (by omega)
  · obtain ⟨q1, S3⟩ := q
    obtain ⟨hq1, hA, hO⟩ := hq
    have hq1 : q1 = nI x := hq1
    have hA : NwA (UN U (T.1 70)) S S3 := hA
    subst hq1
    obtain ⟨S4, e4, a4, a5, a6⟩ := sg_isNet h hN hA (x := x) (by omega)
    have c0 : ¬ nI (N ^ (UN U (T.1 70)).length) ≤ nI x := by rw [q_le (by omega) (by omega)]; omega
    have hO4 : NwO (UN U (T.1 70)).length (fun j m => nwO N (UN U (T.1 70)).length (nwB (UN U (T.1 70)) N (T.1 70) T) j m x) (S4.1 46) := by
      rw [a6 46 (by omega)]; exact hO
    unfold Sg_countOften_L33 Sg_countOften_50_L33
    simp only []
    rw [if_neg c0, show Sg_isNet (nI x) S3 = _ from e4, q_bind]
    cases hb : nwB (UN U (T.1 70)) N (T.1 70) T x
    · refine Or.inl ⟨(nI (x + 1), S4), ?_, rfl, a4, fun j m hj hm => ?_⟩
      · rw [if_pos (by rfl), show (1 : Int32) = nI 1 from rfl, q_add]
      · show S4.1 46 _ = nI (nwO _ _ _ _ _ (x + 1))
        rw [nwO_s, if_neg (fun (z : nwB (UN U (T.1 70)) N (T.1 70) T x = true ∧ nwDg N (UN U (T.1 70)).length x j = m) => by rw [hb] at z; cases z.1)]
        exact hO4 j m hj hm
    · obtain ⟨S5, e5, a7, a8⟩ := sg_add1 h hN a4 a5 hO4
      refine Or.inl ⟨(nI (x + 1), S5), ?_, rfl, a7, fun j m hj hm => ?_⟩
      · rw [if_neg (show ¬ bI true = 0 by decide)]
        show (Sg_countAssumed S4).bind _ = _
        rw [e5, show (1 : Int32) = nI 1 from rfl, q_bind, q_add]
      · show S5.1 46 _ = nI (nwO _ _ _ _ _ (x + 1))
        have a8' : S5.1 46 (8 * j + m) = nI (nwO N (UN U (T.1 70)).length (nwB (UN U (T.1 70)) N (T.1 70) T) j m x + if nwDg N (UN U (T.1 70)).length x j = m then 1 else 0) := a8 j m hj hm
        rw [a8', nwO_s]
        by_cases z : nwDg N (UN U (T.1 70)).length x j = m
        · rw [if_pos z, if_pos ⟨hb, z⟩]
        · rw [if_neg z, if_neg (fun (y : nwB (UN U (T.1 70)) N (T.1 70) T x = true ∧ nwDg N (UN U (T.1 70)).length x j = m) => z y.2)]
  · obtain ⟨q1, S3⟩ := q
    obtain ⟨hq1, hA, hO⟩ := hq
    have hq1 : q1 = _ := hq1
    subst hq1
    refine ⟨S3, ?_, hA, hO⟩
    unfold Sg_countOften_L33
    exact if_pos ((q_le (by omega) (by omega)).mpr (Nat.le_refl _))
theorem sg_most {S2 : Sm} {n i : Nat} {O : Nat → Nat → Nat} (hn : n ≤ 4) (hi : i < n) (hb : ∀ j m, O j m < 5000) (hO : NwO n O (S2.1 46)) : Sg_mostOften (nI i) S2 = some (nI (nwM (O i) 8)) := by
  have e : lpN (Sg_mostOften_L4 (nI i) S2) FU (nI 0, nI 0) = some (nI (nwM (O i) 8)) := by
    refine lpN_run0 (fun m => (nI (nwM (O i) m), nI m)) 8 (by omega) (fun m hm => ?_) rfl rfl
    show Sg_mostOften_L4 (nI i) S2 (nI (nwM (O i) m), nI m) = _
    have h1 := hb i m
    have h2 := nwM_le (O i) (c := 5000) (fun m => Nat.le_of_lt (hb i m)) m
    have h3 : gi S2 46 (i * 8 + m) = nI (O i m) := by rw [Nat.mul_comm]; exact hO i m hi hm
    unfold Sg_mostOften_L4
    simp (disch := omega) only [q_lit, q_m1, q_m2, q_hid, q_add, q_mul, q_sub, q_le, q_lt, q_eq, q_mlt, q_mle, q_ltm, q_lem, q_meq, q_eqm, q_m2lt, q_m2le, q_ltm2, q_lem2, q_eqm2, q_mm2, q_m2m, q_mm, q_mnm, q_ix, q_inb, q_a0, q_a1, q_app, q_bind, if_true, if_false, if_pos, if_neg, q_at, h3, q_max]
    rfl
  unfold Sg_mostOften
  rw [show (0 : Int32) = nI 0 from rfl, e]; rfl
end NZ
