/-! ===== the class: nets, could, tells ===== -/
section NY
variable {N K F R w : Nat} {U : List Nat} {X : List (List Cl)} {T S : Sm}
theorem sg_count (h : RelP N K F R U X w T S) (hN : 0 < N) : ∃ S2, Sg_countNets S = some (nI (cntN (nwB (UN U (T.1 70)) N (T.1 70) T) (N ^ (UN U (T.1 70)).length)), S2) ∧ SamS S S2 := by
  have l4 : (UN U (T.1 70)).length ≤ 4 := Nat.le_trans (List.length_filter_le _ _) h.2.2.1.2.1
  have hp := nw_pow h.1.2.2.2.2.2.2.1 l4
  obtain ⟨S1, e1, a1, -⟩ := sg_begin h hN (SamS.rfl S)
  suffices hl : ∃ r, lpN (Sg_countNets_L9 (nI (N ^ (UN U (T.1 70)).length))) FU (nI 0, nI 0, S1) = some r ∧ r.1 = nI (cntN (nwB (UN U (T.1 70)) N (T.1 70) T) (N ^ (UN U (T.1 70)).length)) ∧ SamS S r.2 by
    obtain ⟨r, e, b1, b2⟩ := hl
    refine ⟨r.2, ?_, b2⟩
    unfold Sg_countNets
    rw [e1, q_bind, show (0 : Int32) = nI 0 from rfl]
    show (lpN (Sg_countNets_L9 (nI (N ^ (UN U (T.1 70)).length))) FU (nI 0, nI 0, S1)).bind _ = _
    rw [e, ← b1]; rfl
  refine lp_inv (fun x (q : Int32 × Int32 × Sm) => q.1 = nI (cntN (nwB (UN U (T.1 70)) N (T.1 70) T) x) ∧ q.2.1 = nI x ∧ NwA (UN U (T.1 70)) S q.2.2) (N ^ (UN U (T.1 70)).length) (by omega) ⟨rfl, rfl, a1⟩ (fun x q hx hq => ?_) (fun q hq => ?_)
  · obtain ⟨q1, q2, S2⟩ := q
    obtain ⟨hq1, hq2, hA⟩ := hq
    have hq1 : q1 = _ := hq1
    have hq2 : q2 = nI x := hq2
    subst hq1 hq2
    obtain ⟨S3, e3, a3, -⟩ := sg_isNet h hN hA (x := x) (by omega)
    have c0 : ¬ nI (N ^ (UN U (T.1 70)).length) ≤ nI x := by rw [q_le (by omega) (by omega)]; omega
    refine Or.inl ⟨(nI (cntN (nwB (UN U (T.1 70)) N (T.1 70) T) (x + 1)), nI (x + 1), S3), ?_, rfl, rfl, a3⟩
    unfold Sg_countNets_L9 Sg_countNets_28_L9
    simp only []
    rw [if_neg c0, show Sg_isNet (nI x) S2 = _ from e3, q_bind]
    cases hb : nwB (UN U (T.1 70)) N (T.1 70) T x
    · rw [if_pos (by rfl), cnt_n hb, show (0 : Int32) = nI 0 from rfl, show (1 : Int32) = nI 1 from rfl, q_add, q_add]; rfl
    · rw [if_neg (show ¬ bI true = 0 by decide), cnt_t hb, show (1 : Int32) = nI 1 from rfl, q_add, q_add]
  · obtain ⟨q1, q2, S2⟩ := q
    obtain ⟨hq1, hq2, hA⟩ := hq
    have hq2 : q2 = _ := hq2
    subst hq2
    refine ⟨(q1, S2), ?_, hq1, hA.1⟩
    unfold Sg_countNets_L9
    exact if_pos ((q_le (by omega) (by omega)).mpr (Nat.le_refl _))
theorem sg_digits (h : RelP N K F R U X w T S) (hN : 0 < N) {S1 : Sm} {x : Nat} (hA : NwA (UN U (T.1 70)) S S1) (hd : ∀ j u, (UN U (T.1 70))[j]? = some u → gi S1 45 u = nI (nwDg N (UN U (T.1 70)).length x j)) : (∀ j, j < (UN U (T.1 70)).length → Sg_assumedMouth (nI j) S1 = nI (nwDg N (UN U (T.1 70)).length x j)) ∧ Sg_assumedDigits S1 = some (nI (nwDec N (UN U (T.1 70)).length x)) := by
  have l4 : (UN U (T.1 70)).length ≤ 4 := Nat.le_trans (List.length_filter_le _ _) h.2.2.1.2.1
  have h8 := h.1.2.2.2.2.2.2.1
  have h5 := h.1.2.2.2.2.2.2.2.1
  have am : ∀ j, j < (UN U (T.1 70)).length → Sg_assumedMouth (nI j) S1 = nI (nwDg N (UN U (T.1 70)).length x j) := fun j hj => by
    obtain ⟨u, hu1⟩ : ∃ u, (UN U (T.1 70))[j]? = some u := ⟨_, List.getElem?_eq_getElem hj⟩
    have ulm := (un_lt h.2.2.1 h8 h5 (List.mem_of_getElem? hu1)).1
    unfold Sg_assumedMouth
    rw [q_at (by omega) (by omega), hA.2.2.1 j u hu1, q_at ulm (by omega), hd j u hu1]
  refine ⟨am, ?_⟩
  have e : lpN (Sg_assumedDigits_L4 S1) FU (nI 0, nI 0) = some (nI (nwDec N (UN U (T.1 70)).length x)) := by
    refine lpN_run0 (fun i => (nI (fld (fun j a => a * 10 + nwDg N (UN U (T.1 70)).length x j) i 0), nI i)) (UN U (T.1 70)).length (by omega) (fun i hi => ?_) ?_ rfl
    · show Sg_assumedDigits_L4 S1 (nI (fld (fun j a => a * 10 + nwDg N (UN U (T.1 70)).length x j) i 0), nI i) = _
      unfold Sg_assumedDigits_L4
      simp (disch := omega) only [q_lit, q_m1, q_m2, q_hid, q_add, q_mul, q_sub, q_le, q_lt, q_eq, q_mlt, q_mle, q_ltm, q_lem, q_meq, q_eqm, q_m2lt, q_m2le, q_ltm2, q_lem2, q_eqm2, q_mm2, q_m2m, q_mm, q_mnm, q_ix, q_inb, q_a0, q_a1, q_app, q_bind, if_true, if_false, if_pos, if_neg, am i hi, hA.2.1]
      rfl
    · show Sg_assumedDigits_L4 S1 (nI (fld (fun j a => a * 10 + nwDg N (UN U (T.1 70)).length x j) (UN U (T.1 70)).length 0), nI (UN U (T.1 70)).length) = _
      unfold Sg_assumedDigits_L4
      simp (disch := omega) only [q_lit, q_m1, q_m2, q_hid, q_add, q_mul, q_sub, q_le, q_lt, q_eq, q_mlt, q_mle, q_ltm, q_lem, q_meq, q_eqm, q_m2lt, q_m2le, q_ltm2, q_lem2, q_eqm2, q_mm2, q_m2m, q_mm, q_mnm, q_ix, q_inb, q_a0, q_a1, q_app, q_bind, if_true, if_false, if_pos, if_neg, hA.2.1, Nat.le_refl]
      rfl
  unfold Sg_assumedDigits
  rw [show (0 : Int32) = nI 0 from rfl, e]; rfl
theorem sg_at (h : RelP N K F R U X w T S) (hN : 0 < N) {k : Nat} (hk : k < 2147483648) : ∃ S2, Sg_netAt (nI k) S = some (nwF N (UN U (T.1 70)).length (nwB (UN U (T.1 70)) N (T.1 70) T) (nI k) (N ^ (UN U (T.1 70)).length), S2) ∧ SamS S S2 := by
  have l4 : (UN U (T.1 70)).length ≤ 4 := Nat.le_trans (List.length_filter_le _ _) h.2.2.1.2.1
  have hp := nw_pow h.1.2.2.2.2.2.2.1 l4
  obtain ⟨S1, e1, a1, -⟩ := sg_begin h hN (SamS.rfl S)
  suffices hl : ∃ r, lpN (Sg_netAt_L10 (nI k) (nI (N ^ (UN U (T.1 70)).length))) FU (nI 0, nI 0, S1) = some r ∧ ((∃ S2, r = .inl S2 ∧ SamS S S2 ∧ Sg_assumedDigits S2 = some (nwF N (UN U (T.1 70)).length (nwB (UN U (T.1 70)) N (T.1 70) T) (nI k) (N ^ (UN U (T.1 70)).length))) ∨ ∃ S2, r = .inr S2 ∧ SamS S S2 ∧ nwF N (UN U (T.1 70)).length (nwB (UN U (T.1 70)) N (T.1 70) T) (nI k) (N ^ (UN U (T.1 70)).length) = mI) by
    obtain ⟨r, e, hr⟩ := hl
    unfold Sg_netAt
    rw [e1, q_bind, show (0 : Int32) = nI 0 from rfl]
    show ∃ S2, (lpN (Sg_netAt_L10 (nI k) (nI (N ^ (UN U (T.1 70)).length))) FU (nI 0, nI 0, S1)).bind _ = _ ∧ _
    rw [e]
    rcases hr with ⟨S2, rfl, b1, b2⟩ | ⟨S2, rfl, b1, b2⟩
    · refine ⟨S2, ?_, b1⟩
      show (Sg_assumedDigits S2).bind _ = _
      rw [b2]; rfl
    · exact ⟨S2, by rw [b2]; rfl, b1⟩
  refine lp_inv (fun x (q : Int32 × Int32 × Sm) => q.1 = nI (cntN (nwB (UN U (T.1 70)) N (T.1 70) T) x) ∧ q.2.1 = nI x ∧ NwA (UN U (T.1 70)) S q.2.2 ∧ nwF N (UN U (T.1 70)).length (nwB (UN U (T.1 70)) N (T.1 70) T) (nI k) x = mI) (N ^ (UN U (T.1 70)).length) (by omega) ⟨rfl, rfl, a1, rfl⟩ (fun x q hx hq => ?_) (fun q hq => ?_)
  · obtain ⟨q1, q2, S2⟩ := q
    obtain ⟨hq1, hq2, hA, hF⟩ := hq
    have hq1 : q1 = _ := hq1
    have hq2 : q2 = nI x := hq2
    subst hq1 hq2
    obtain ⟨S3, e3, a3, a4, -⟩ := sg_isNet h hN hA (x := x) (by omega)
    have c0 : ¬ nI (N ^ (UN U (T.1 70)).length) ≤ nI x := by rw [q_le (by omega) (by omega)]; omega
    have cl := cnt_le (nwB (UN U (T.1 70)) N (T.1 70) T) x
    unfold Sg_netAt_L10 Sg_netAt_38_L10
    simp only []
    rw [if_neg c0, show Sg_isNet (nI x) S2 = _ from e3, q_bind]
    cases hb : nwB (UN U (T.1 70)) N (T.1 70) T x
    · refine Or.inl ⟨(nI (cntN (nwB (UN U (T.1 70)) N (T.1 70) T) (x + 1)), nI (x + 1), S3), ?_, rfl, rfl, a3, ?_⟩
      · rw [if_pos (by rfl), cnt_n hb, show (1 : Int32) = nI 1 from rfl, q_add]
      · show (if nwB (UN U (T.1 70)) N (T.1 70) T x = true ∧ _ then _ else _) = mI
        rw [if_neg fun z => by rw [hb] at z; cases z.1]
        exact hF
    · rw [if_neg (show ¬ bI true = 0 by decide)]
      by_cases z : nI (cntN (nwB (UN U (T.1 70)) N (T.1 70) T) x) = nI k
      · refine Or.inr ⟨.inl S3, ?_, Or.inl ⟨S3, rfl, a3.1, ?_⟩⟩
        · rw [if_pos z]
        · rw [(sg_digits h hN a3 a4).2, (nwF_st hb ((q_eq hk (by omega)).mp z.symm) (by omega) _ (by omega) (by omega)).1]
      · refine Or.inl ⟨(nI (cntN (nwB (UN U (T.1 70)) N (T.1 70) T) (x + 1)), nI (x + 1), S3), ?_, rfl, rfl, a3, ?_⟩
        · rw [if_neg z, cnt_t hb, show (1 : Int32) = nI 1 from rfl, q_add, q_add]
        · show (if nwB (UN U (T.1 70)) N (T.1 70) T x = true ∧ _ then _ else _) = mI
          rw [if_neg fun y => z y.2]
          exact hF
  · obtain ⟨q1, q2, S2⟩ := q
    obtain ⟨hq1, hq2, hA, hF⟩ := hq
    have hq2 : q2 = _ := hq2
    subst hq2
    refine ⟨.inr S2, ?_, Or.inr ⟨S2, rfl, hA.1, hF⟩⟩
    unfold Sg_netAt_L10
    exact if_pos ((q_le (by omega) (by omega)).mpr (Nat.le_refl _))
end NY
