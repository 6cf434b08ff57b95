/-! ===== lamps: the fewest colours for all ===== -/
def pop (s : Nat) : Nat := ((List.range 8).filter fun i => s.testBit i).length
theorem bc_all : ∀ s, s < 256 → Jm_bitCount_0f7a4 (nI s) = nI (pop s) ∧ pop s ≤ 8 := by decide +kernel
theorem pop_le : ∀ k, k ≤ 5 → ∀ s, s < 2 ^ k → pop s ≤ k := by decide +kernel
theorem msk_full {N : Nat} (h : N ≤ 8) : Msk (fun j => j < N) (nI (2 ^ N - 1)) := by
  have := pow8 h
  exact ⟨2 ^ N - 1, by omega, rfl, fun j => by rw [Nat.testBit_two_pow_sub_one, decide_eq_true_iff]⟩
theorem full_N {N : Nat} (h : N ≤ 8) : iShl 1 (nI N) - 1 = nI (2 ^ N - 1) := by
  have : ∀ k, k ≤ 8 → iShl 1 (nI k) - 1 = nI (2 ^ k - 1) := by decide +kernel
  exact this N h
section LA
variable {N K : Nat} {L D : Nat → Nat → Nat} {T S : Sm}
def Jn (N K : Nat) (L : Nat → Nat → Nat) (s : Nat) : Prop := ∀ m, m < N → ∀ j, j < N → Rch N K L s (fun j => m = j) 8 j
theorem full_iff (hP : WyP N K L D) {s m : Nat} {r : Int32} (hm : m < N) (hr : Msk (Rch N K L s (fun j => m = j) 8) r) : r = nI (2 ^ N - 1) ↔ ∀ j, j < N → Rch N K L s (fun j => m = j) 8 j := by
  constructor
  · intro e j hj
    rw [e] at hr
    exact (hr.iff (msk_full hP.1) j).mpr hj
  · intro h
    exact hr.uniq ((msk_full hP.1).of fun j => ⟨h j, fun q => Rch.lt hP hm 8 j q⟩)
theorem wy_ja (hP : WyP N K L D) (hS : WyS N K L D S) {s : Nat} (hs : s < 32) : ∃ b, Wy_joinsAll (nI s) S = some b ∧ (b = nI 1 ∧ Jn N K L s ∨ b = nI 0 ∧ ¬ Jn N K L s) := by
  have h8 := hP.1
  suffices hl : ∃ r, lpN (Wy_joinsAll_L14 (nI s) (nI (2 ^ N - 1)) S) FU (nI 0) = some r ∧ (r = .inr () ∧ Jn N K L s ∨ r = .inl () ∧ ¬ Jn N K L s) by
    obtain ⟨r, e, hr⟩ := hl
    unfold Wy_joinsAll
    rw [hS.1, full_N h8, show (0 : Int32) = nI 0 from rfl, e]
    rcases hr with ⟨rfl, h⟩ | ⟨rfl, h⟩
    · exact ⟨nI 1, rfl, Or.inl ⟨rfl, h⟩⟩
    · exact ⟨nI 0, rfl, Or.inr ⟨rfl, h⟩⟩
  refine lp_inv (fun i q => q = nI i ∧ ∀ m, m < i → ∀ j, j < N → Rch N K L s (fun j => m = j) 8 j) N (by omega) ⟨rfl, fun m h => absurd h (Nat.not_lt_zero m)⟩ (fun i q hi hq => ?_) (fun q hq => ?_)
  · obtain ⟨rfl, hq⟩ := hq
    obtain ⟨r, e, hr⟩ := wy_rf hP hS hi hs
    unfold Wy_joinsAll_L14
    by_cases z : r = nI (2 ^ N - 1)
    · refine Or.inl ⟨nI (i + 1), ?_, rfl, fun m hm => ?_⟩
      · simp (disch := omega) only [q_lit, q_m1, q_m2, q_hid, q_add, q_mul, q_sub, q_le, q_lt, q_eq, q_mlt, q_mle, q_ltm, q_lem, q_meq, q_eqm, q_m2lt, q_m2le, q_ltm2, q_lem2, q_eqm2, q_mm2, q_m2m, q_mm, q_mnm, q_ix, q_inb, q_a0, q_a1, q_app, q_bind, if_true, if_false, if_pos, if_neg, hS.1, e, z]
      · by_cases y : m = i
        · subst y; exact (full_iff hP hi hr).mp z
        · exact hq m (by omega)
    · refine Or.inr ⟨.inl (), ?_, Or.inr ⟨rfl, fun h => z ((full_iff hP hi hr).mpr (h i hi))⟩⟩
      simp (disch := omega) only [q_lit, q_m1, q_m2, q_hid, q_add, q_mul, q_sub, q_le, q_lt, q_eq, q_mlt, q_mle, q_ltm, q_lem, q_meq, q_eqm, q_m2lt, q_m2le, q_ltm2, q_lem2, q_eqm2, q_mm2, q_m2m, q_mm, q_mnm, q_ix, q_inb, q_a0, q_a1, q_app, q_bind, if_true, if_false, if_pos, if_neg, hS.1, e, z]
  · obtain ⟨rfl, hq⟩ := hq
    refine ⟨.inr (), ?_, Or.inl ⟨rfl, hq⟩⟩
    unfold Wy_joinsAll_L14
    simp (disch := omega) only [q_lit, q_m1, q_m2, q_hid, q_add, q_mul, q_sub, q_le, q_lt, q_eq, q_mlt, q_mle, q_ltm, q_lem, q_meq, q_eqm, q_m2lt, q_m2le, q_ltm2, q_lem2, q_eqm2, q_mm2, q_m2m, q_mm, q_mnm, q_ix, q_inb, q_a0, q_a1, q_app, q_bind, if_true, if_false, if_pos, if_neg, hS.1, Nat.le_refl]
/-- the best of the first n sets -/
def Lm (J : Nat → Prop) (n : Nat) (v : Int32) : Prop := (v = mI ∧ ∀ s, s < n → ¬ J s) ∨ ∃ s, s < n ∧ v = nI s ∧ J s ∧ ∀ t, t < n → J t → pop s < pop t ∨ (pop s = pop t ∧ s ≤ t)
theorem Lm.uniq {J : Nat → Prop} {n : Nat} {v u : Int32} (h : Lm J n v) (g : Lm J n u) : v = u := by
  rcases h with ⟨rfl, h⟩ | ⟨s, h1, rfl, h2, h3⟩ <;> rcases g with ⟨rfl, g⟩ | ⟨t, g1, rfl, g2, g3⟩
  · rfl
  · exact absurd g2 (h t g1)
  · exact absurd h2 (g s h1)
  · have a := h3 t g1 g2
    have b := g3 s h1 h2
    rw [show s = t by omega]
theorem wy_fl (hP : WyP N K L D) (hS : WyS N K L D S) (hA : Nt_allColours S = nI (2 ^ K - 1)) : ∃ v, Wy_fewestLamps S = some v ∧ Lm (Jn N K L) (2 ^ K) v := by
  have h5 := hP.2.1
  have hp := pow5 h5
  have inner : ∀ i, i ≤ K → (∀ t, t < 2 ^ K → Jn N K L t → i ≤ pop t) → ∃ r, lpN (Wy_fewestLamps_L15 (nI i) S) FU (nI 0) = some r ∧ ((∃ s, r = .inl (nI s) ∧ s < 2 ^ K ∧ Jn N K L s ∧ pop s = i ∧ ∀ t, t < 2 ^ K → Jn N K L t → pop t = i → s ≤ t) ∨ r = .inr () ∧ ∀ t, t < 2 ^ K → Jn N K L t → i < pop t) := by
    intro i hi hlow
    refine lp_inv (fun k q => q = nI k ∧ ∀ t, t < k → Jn N K L t → pop t ≠ i) (2 ^ K) (by omega) ⟨rfl, fun t h => absurd h (Nat.not_lt_zero t)⟩ (fun k q hk hq => ?_) (fun q hq => ?_)
    · obtain ⟨rfl, hq⟩ := hq
      obtain ⟨bc, bp⟩ := bc_all k (by omega)
      unfold Wy_fewestLamps_L15 Wy_fewestLamps_44_L15
      by_cases z : pop k = i
      · obtain ⟨b, e, hb⟩ := wy_ja hP hS (s := k) (by omega)
        rcases hb with ⟨rfl, hj⟩ | ⟨rfl, hj⟩
        · refine Or.inr ⟨.inl (nI k), ?_, Or.inl ⟨k, rfl, hk, hj, z, fun t h1 h2 h3 => ?_⟩⟩
          · simp (disch := omega) only [q_lit, q_m1, q_m2, q_hid, q_add, q_mul, q_sub, q_le, q_lt, q_eq, q_mlt, q_mle, q_ltm, q_lem, q_meq, q_eqm, q_m2lt, q_m2le, q_ltm2, q_lem2, q_eqm2, q_mm2, q_m2m, q_mm, q_mnm, q_ix, q_inb, q_a0, q_a1, q_app, q_bind, if_true, if_false, if_pos, if_neg, hA, bc, z, e]
          · exact Nat.le_of_not_lt fun y => hq t y h2 h3
        · refine Or.inl ⟨nI (k + 1), ?_, rfl, fun t ht h2 h3 => ?_⟩
          · simp (disch := omega) only [q_lit, q_m1, q_m2, q_hid, q_add, q_mul, q_sub, q_le, q_lt, q_eq, q_mlt, q_mle, q_ltm, q_lem, q_meq, q_eqm, q_m2lt, q_m2le, q_ltm2, q_lem2, q_eqm2, q_mm2, q_m2m, q_mm, q_mnm, q_ix, q_inb, q_a0, q_a1, q_app, q_bind, if_true, if_false, if_pos, if_neg, hA, bc, z, e]
          · by_cases y : t = k
            · subst y; exact hj h2
            · exact hq t (by omega) h2 h3
      · refine Or.inl ⟨nI (k + 1), ?_, rfl, fun t ht h2 h3 => ?_⟩
        · simp (disch := omega) only [q_lit, q_m1, q_m2, q_hid, q_add, q_mul, q_sub, q_le, q_lt, q_eq, q_mlt, q_mle, q_ltm, q_lem, q_meq, q_eqm, q_m2lt, q_m2le, q_ltm2, q_lem2, q_eqm2, q_mm2, q_m2m, q_mm, q_mnm, q_ix, q_inb, q_a0, q_a1, q_app, q_bind, if_true, if_false, if_pos, if_neg, hA, bc, z]
        · by_cases y : t = k
          · subst y; exact z h3
          · exact hq t (by omega) h2 h3
    · obtain ⟨rfl, hq⟩ := hq
      refine ⟨.inr (), ?_, Or.inr ⟨rfl, fun t h1 h2 => ?_⟩⟩
      · unfold Wy_fewestLamps_L15
        simp (disch := omega) only [q_lit, q_m1, q_m2, q_hid, q_add, q_mul, q_sub, q_le, q_lt, q_eq, q_mlt, q_mle, q_ltm, q_lem, q_meq, q_eqm, q_m2lt, q_m2le, q_ltm2, q_lem2, q_eqm2, q_mm2, q_m2m, q_mm, q_mnm, q_ix, q_inb, q_a0, q_a1, q_app, q_bind, if_true, if_false, if_pos, if_neg, hA]
      · have a := hlow t h1 h2
        have b := hq t h1 h2
        omega
  suffices hl : ∃ r, lpN (Wy_fewestLamps_L2 S) FU (nI 0) = some r ∧ ((∃ s, r = .inl (nI s) ∧ s < 2 ^ K ∧ Jn N K L s ∧ ∀ t, t < 2 ^ K → Jn N K L t → pop s < pop t ∨ (pop s = pop t ∧ s ≤ t)) ∨ r = .inr () ∧ ∀ t, t < 2 ^ K → ¬ Jn N K L t) by
    obtain ⟨r, e, hr⟩ := hl
    unfold Wy_fewestLamps
    rw [show (0 : Int32) = nI 0 from rfl, e]
    rcases hr with ⟨s, rfl, h1, h2, h3⟩ | ⟨rfl, h⟩
    · exact ⟨nI s, rfl, Or.inr ⟨s, h1, rfl, h2, h3⟩⟩
    · exact ⟨mI, rfl, Or.inl ⟨rfl, h⟩⟩
  refine lp_inv (fun i q => q = nI i ∧ ∀ t, t < 2 ^ K → Jn N K L t → i ≤ pop t) (K + 1) (by omega) ⟨rfl, fun t _ _ => Nat.zero_le _⟩ (fun i q hi hq => ?_) (fun q hq => ?_)
  · obtain ⟨rfl, hq⟩ := hq
    obtain ⟨r, e, hr⟩ := inner i (by omega) hq
    unfold Wy_fewestLamps_L2
    rcases hr with ⟨s, rfl, h1, h2, h3, h4⟩ | ⟨rfl, h⟩
    · refine Or.inr ⟨.inl (nI s), ?_, Or.inl ⟨s, rfl, h1, h2, fun t g1 g2 => ?_⟩⟩
      · simp (disch := omega) only [q_lit, q_m1, q_m2, q_hid, q_add, q_mul, q_sub, q_le, q_lt, q_eq, q_mlt, q_mle, q_ltm, q_lem, q_meq, q_eqm, q_m2lt, q_m2le, q_ltm2, q_lem2, q_eqm2, q_mm2, q_m2m, q_mm, q_mnm, q_ix, q_inb, q_a0, q_a1, q_app, q_bind, if_true, if_false, if_pos, if_neg, hS.2.1, e]
        rfl
      · have a := hq t g1 g2
        by_cases y : pop t = i
        · exact Or.inr ⟨by omega, h4 t g1 g2 y⟩
        · exact Or.inl (by omega)
    · refine Or.inl ⟨nI (i + 1), ?_, rfl, h⟩
      simp (disch := omega) only [q_lit, q_m1, q_m2, q_hid, q_add, q_mul, q_sub, q_le, q_lt, q_eq, q_mlt, q_mle, q_ltm, q_lem, q_meq, q_eqm, q_m2lt, q_m2le, q_ltm2, q_lem2, q_eqm2, q_mm2, q_m2m, q_mm, q_mnm, q_ix, q_inb, q_a0, q_a1, q_app, q_bind, if_true, if_false, if_pos, if_neg, hS.2.1, e]
      rfl
  · obtain ⟨rfl, hq⟩ := hq
    refine ⟨.inr (), ?_, Or.inr ⟨rfl, fun t h1 h2 => ?_⟩⟩
    · unfold Wy_fewestLamps_L2
      simp (disch := omega) only [q_lit, q_m1, q_m2, q_hid, q_add, q_mul, q_sub, q_le, q_lt, q_eq, q_mlt, q_mle, q_ltm, q_lem, q_meq, q_eqm, q_m2lt, q_m2le, q_ltm2, q_lem2, q_eqm2, q_mm2, q_m2m, q_mm, q_mnm, q_ix, q_inb, q_a0, q_a1, q_app, q_bind, if_true, if_false, if_pos, if_neg, hS.2.1]
    · have a := hq t h1 h2
      have b := pop_le K h5 t h1
      omega
theorem md_lm (hP : WyP N K L D) (hT : WyT N K L D T) (hA : Md_everyColour T = nI (2 ^ K - 1)) : ∃ v, lpN (Md_lamps_L15 T) FU (-1, 0) = some v ∧ Lm (Jn N K L) (2 ^ K) v := by
  have h8 := hP.1
  have h5 := hP.2.1
  have hp := pow5 h5
  have inner : ∀ (s : Nat) (f : Int32) (v : Int32), s < 32 → (f = nI 1 ∨ f = nI 0) → ∃ b, lpN (Md_lamps_L32 v (nI s) T) FU (f, nI 0) = some b ∧ (b = nI 1 ∧ f = nI 1 ∧ Jn N K L s ∨ b = nI 0 ∧ ¬ (f = nI 1 ∧ Jn N K L s)) := by
    intro s f v hs hf
    refine lp_inv (fun k (q : Int32 × Int32) => q.2 = nI k ∧ (q.1 = nI 1 ∧ f = nI 1 ∧ (∀ m, m < k → ∀ j, j < N → Rch N K L s (fun j => m = j) 8 j) ∨ q.1 = nI 0 ∧ ¬ (f = nI 1 ∧ Jn N K L s))) N (by omega) ⟨rfl, ?_⟩ (fun k q hk hq => ?_) (fun q hq => ?_)
    · rcases hf with rfl | rfl
      · exact Or.inl ⟨rfl, rfl, fun m h => absurd h (Nat.not_lt_zero m)⟩
      · exact Or.inr ⟨rfl, fun h => absurd h.1 (by decide)⟩
    · obtain ⟨b, kk⟩ := q
      obtain ⟨rfl, hq⟩ := hq
      unfold Md_lamps_L32 Md_lamps_72_L32
      rcases hq with ⟨rfl, rfl, h⟩ | ⟨rfl, h⟩
      · obtain ⟨r, e, hr⟩ := md_rf hP hT hk hs
        refine Or.inl ?_
        by_cases z : r = nI (2 ^ N - 1)
        · refine ⟨(nI 1, nI (k + 1)), ?_, rfl, Or.inl ⟨rfl, rfl, fun m hm => ?_⟩⟩
          · have fN : iShl (nI 1) (nI N) - nI 1 = nI (2 ^ N - 1) := full_N h8
            simp (disch := omega) only [q_lit, q_m1, q_m2, q_hid, q_add, q_mul, q_sub, q_le, q_lt, q_eq, q_mlt, q_mle, q_ltm, q_lem, q_meq, q_eqm, q_m2lt, q_m2le, q_ltm2, q_lem2, q_eqm2, q_mm2, q_m2m, q_mm, q_mnm, q_ix, q_inb, q_a0, q_a1, q_app, q_bind, if_true, if_false, if_pos, if_neg, hT.1, e, fN, z]
          · by_cases y : m = k
            · subst y; exact (full_iff hP hk hr).mp z
            · exact h m (by omega)
        · refine ⟨(nI 0, nI (k + 1)), ?_, rfl, Or.inr ⟨rfl, fun g => z ((full_iff hP hk hr).mpr (g.2 k hk))⟩⟩
          have fN : iShl (nI 1) (nI N) - nI 1 = nI (2 ^ N - 1) := full_N h8
          simp (disch := omega) only [q_lit, q_m1, q_m2, q_hid, q_add, q_mul, q_sub, q_le, q_lt, q_eq, q_mlt, q_mle, q_ltm, q_lem, q_meq, q_eqm, q_m2lt, q_m2le, q_ltm2, q_lem2, q_eqm2, q_mm2, q_m2m, q_mm, q_mnm, q_ix, q_inb, q_a0, q_a1, q_app, q_bind, if_true, if_false, if_pos, if_neg, hT.1, e, fN, z]
      · refine Or.inr ⟨nI 0, ?_, Or.inr ⟨rfl, h⟩⟩
        simp (disch := omega) only [q_lit, q_m1, q_m2, q_hid, q_add, q_mul, q_sub, q_le, q_lt, q_eq, q_mlt, q_mle, q_ltm, q_lem, q_meq, q_eqm, q_m2lt, q_m2le, q_ltm2, q_lem2, q_eqm2, q_mm2, q_m2m, q_mm, q_mnm, q_ix, q_inb, q_a0, q_a1, q_app, q_bind, if_true, if_false, if_pos, if_neg, hT.1]
    · obtain ⟨b, kk⟩ := q
      obtain ⟨rfl, hq⟩ := hq
      refine ⟨b, ?_, ?_⟩
      · unfold Md_lamps_L32
        simp (disch := omega) only [q_lit, q_m1, q_m2, q_hid, q_add, q_mul, q_sub, q_le, q_lt, q_eq, q_mlt, q_mle, q_ltm, q_lem, q_meq, q_eqm, q_m2lt, q_m2le, q_ltm2, q_lem2, q_eqm2, q_mm2, q_m2m, q_mm, q_mnm, q_ix, q_inb, q_a0, q_a1, q_app, q_bind, if_true, if_false, if_pos, if_neg, hT.1, Nat.le_refl]
      · rcases hq with ⟨h1, h2, h3⟩ | h
        · exact Or.inl ⟨h1, h2, h3⟩
        · exact Or.inr h
  refine lp_inv (fun i (q : Int32 × Int32) => q.2 = nI i ∧ Lm (Jn N K L) i q.1) (2 ^ K) (by omega) ⟨rfl, Or.inl ⟨rfl, fun s h => absurd h (Nat.not_lt_zero s)⟩⟩ (fun i q hi hq => ?_) (fun q hq => ?_)
  · obtain ⟨v, ii⟩ := q
    obtain ⟨rfl, hq⟩ := hq
    have hq : Lm (Jn N K L) i v := hq
    obtain ⟨bi, bj⟩ := bc_all i (by omega)
    have hf : ∃ f, Md_isFewer (nI i) v = f ∧ (f = nI 1 ∧ (v = mI ∨ ∃ t, t < i ∧ v = nI t ∧ pop i < pop t) ∨ f = nI 0 ∧ ∃ t, t < i ∧ v = nI t ∧ pop t ≤ pop i) := by
      unfold Md_isFewer Md_isFewer_16 Md_isFewer_21
      rcases hq with ⟨rfl, h⟩ | ⟨t, h1, rfl, h2, h3⟩
      · exact ⟨nI 1, rfl, Or.inl ⟨rfl, Or.inl rfl⟩⟩
      · obtain ⟨ti, tj⟩ := bc_all t (by omega)
        by_cases y : pop t ≤ pop i
        · refine ⟨nI 0, ?_, Or.inr ⟨rfl, t, h1, rfl, y⟩⟩
          simp (disch := omega) only [q_lit, q_m1, q_m2, q_hid, q_add, q_mul, q_sub, q_le, q_lt, q_eq, q_mlt, q_mle, q_ltm, q_lem, q_meq, q_eqm, q_m2lt, q_m2le, q_ltm2, q_lem2, q_eqm2, q_mm2, q_m2m, q_mm, q_mnm, q_ix, q_inb, q_a0, q_a1, q_app, q_bind, if_true, if_false, if_pos, if_neg, ti, bi]
        · refine ⟨nI 1, ?_, Or.inl ⟨rfl, Or.inr ⟨t, h1, rfl, by omega⟩⟩⟩
          simp (disch := omega) only [q_lit, q_m1, q_m2, q_hid, q_add, q_mul, q_sub, q_le, q_lt, q_eq, q_mlt, q_mle, q_ltm, q_lem, q_meq, q_eqm, q_m2lt, q_m2le, q_ltm2, q_lem2, q_eqm2, q_mm2, q_m2m, q_mm, q_mnm, q_ix, q_inb, q_a0, q_a1, q_app, q_bind, if_true, if_false, if_pos, if_neg, ti, bi]
    obtain ⟨f, ef, hf⟩ := hf
    obtain ⟨b, e, hb⟩ := inner i f v (by omega) (hf.elim (fun h => Or.inl h.1) fun h => Or.inr h.1)
    refine Or.inl ?_
    unfold Md_lamps_L15 Md_lamps_88_L15
    rcases hb with ⟨rfl, rfl, hj⟩ | ⟨rfl, hj⟩
    · refine ⟨(nI i, nI (i + 1)), ?_, rfl, Or.inr ⟨i, by omega, rfl, hj, fun t ht htj => ?_⟩⟩
      · simp (disch := omega) only [q_lit, q_m1, q_m2, q_hid, q_add, q_mul, q_sub, q_le, q_lt, q_eq, q_mlt, q_mle, q_ltm, q_lem, q_meq, q_eqm, q_m2lt, q_m2le, q_ltm2, q_lem2, q_eqm2, q_mm2, q_m2m, q_mm, q_mnm, q_ix, q_inb, q_a0, q_a1, q_app, q_bind, if_true, if_false, if_pos, if_neg, hA, ef, e]
      · by_cases y : t = i
        · subst y; exact Or.inr ⟨rfl, Nat.le_refl _⟩
        · rcases hf with ⟨-, h | ⟨u, h1, h2, h3⟩⟩ | ⟨h, _⟩
          · rcases hq with ⟨-, g⟩ | ⟨s, g1, g2, g3, g4⟩
            · exact absurd htj (g t (by omega))
            · rw [h] at g2; exact absurd g2.symm (by rw [q_eqm (by omega)]; exact id)
          · rcases hq with ⟨g, -⟩ | ⟨s, g1, g2, g3, g4⟩
            · rw [g] at h2; exact absurd h2.symm (by rw [q_eqm (by omega)]; exact id)
            · rw [g2, q_eq (by omega) (by omega)] at h2
              subst h2
              have := g4 t (by omega) htj
              exact Or.inl (by omega)
          · exact absurd h (by decide)
    · refine ⟨(v, nI (i + 1)), ?_, rfl, ?_⟩
      · simp (disch := omega) only [q_lit, q_m1, q_m2, q_hid, q_add, q_mul, q_sub, q_le, q_lt, q_eq, q_mlt, q_mle, q_ltm, q_lem, q_meq, q_eqm, q_m2lt, q_m2le, q_ltm2, q_lem2, q_eqm2, q_mm2, q_m2m, q_mm, q_mnm, q_ix, q_inb, q_a0, q_a1, q_app, q_bind, if_true, if_false, if_pos, if_neg, hA, ef, e]
      · rcases hq with ⟨g, g1⟩ | ⟨s, g1, g2, g3, g4⟩
        · refine Or.inl ⟨g, fun t ht htj => ?_⟩
          by_cases y : t = i
          · subst y
            rcases hf with ⟨h, -⟩ | ⟨-, u, h1, h2, h3⟩
            · exact hj ⟨h, htj⟩
            · rw [g] at h2; exact absurd h2.symm (by rw [q_eqm (by omega)]; exact id)
          · exact g1 t (by omega) htj
        · refine Or.inr ⟨s, by omega, g2, g3, fun t ht htj => ?_⟩
          by_cases y : t = i
          · subst y
            rcases hf with ⟨h, -⟩ | ⟨-, u, h1, h2, h3⟩
            · exact absurd ⟨h, htj⟩ hj
            · rw [g2, q_eq (by omega) (by omega)] at h2
              subst h2
              omega
          · exact g4 t (by omega) htj
  · obtain ⟨v, ii⟩ := q
    obtain ⟨rfl, hq⟩ := hq
    refine ⟨v, ?_, hq⟩
    unfold Md_lamps_L15
    simp (disch := omega) only [q_lit, q_m1, q_m2, q_hid, q_add, q_mul, q_sub, q_le, q_lt, q_eq, q_mlt, q_mle, q_ltm, q_lem, q_meq, q_eqm, q_m2lt, q_m2le, q_ltm2, q_lem2, q_eqm2, q_mm2, q_m2m, q_mm, q_mnm, q_ix, q_inb, q_a0, q_a1, q_app, q_bind, if_true, if_false, if_pos, if_neg, hA]
end LA
section LB
variable {N K F R w : Nat} {U : List Nat} {X : List (List Cl)} {T S : Sm}
theorem toldC (h : NetR N K F T S) : (N = 0 ∧ Nt_isTold S = nI 0 ∧ gi T 68 0 = nI 0) ∨ (0 < N ∧ Nt_isTold S = nI 1 ∧ gi T 68 0 = nI N ∧ ¬ gi T 68 0 = 0) := by
  unfold Nt_isTold Nt_isTold_12
  have hm := n_m h
  obtain ⟨a1, a2, a3, a4, a5, a6, a7, -⟩ := h
  by_cases z : N = 0
  · subst z
    refine Or.inl ⟨rfl, ?_, a4⟩
    rw [hm]; rfl
  · refine Or.inr ⟨by omega, ?_, a4, ?_⟩
    · rw [hm]
      simp (disch := omega) only [q_lit, q_m1, q_m2, q_hid, q_add, q_mul, q_sub, q_le, q_lt, q_eq, q_mlt, q_mle, q_ltm, q_lem, q_meq, q_eqm, q_m2lt, q_m2le, q_ltm2, q_lem2, q_eqm2, q_mm2, q_m2m, q_mm, q_mnm, q_ix, q_inb, q_a0, q_a1, q_app, q_bind, if_true, if_false, if_pos, if_neg]
    · rw [a4, show (0 : Int32) = nI 0 from rfl, q_eq (by omega) (by omega)]; exact z
theorem op_lamps (h : RelP N K F R U X w T S) : ∃ v, Dk_lamps S = some v ∧ Md_lamps T = some v := by
  unfold Dk_lamps Md_lamps Dk_lamps_21
  rcases toldC h.1 with ⟨-, a, b⟩ | ⟨hN, a, b, b'⟩
  · rw [a, b]; exact ⟨mI, rfl, rfl⟩
  · obtain ⟨hP, hS, hT⟩ := way_of h hN
    obtain ⟨v, e, hv⟩ := wy_fl hP hS (n_all h.1)
    obtain ⟨u, e2, hu⟩ := md_lm hP hT (m_all h.1)
    rw [a, e, hv.uniq hu, if_neg b', e2]
    exact ⟨u, rfl, rfl⟩
end LB
