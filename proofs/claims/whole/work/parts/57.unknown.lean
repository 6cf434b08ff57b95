/-! ===== what is not known now; count ===== -/
theorem filt_at {α : Type} (p : α → Bool) : ∀ (l : List α) (k : Nat) (u : α), l[k]? = some u → p u = true → (l.filter p)[((l.take k).filter p).length]? = some u
  | [], k, u, h, _ => by cases h
  | a :: l, 0, u, h, hp => by
    cases h
    rw [List.filter_cons_of_pos hp]; rfl
  | a :: l, k + 1, u, h, hp => by
    have h : l[k]? = some u := h
    have ih := filt_at p l k u h hp
    rw [List.take_succ_cons]
    by_cases q : p a = true
    · rw [List.filter_cons_of_pos q, List.filter_cons_of_pos q]; exact ih
    · rw [List.filter_cons_of_neg q, List.filter_cons_of_neg q]; exact ih
theorem filt_take {α : Type} (p : α → Bool) : ∀ (l : List α) (k : Nat) (u : α), l[k]? = some u → ((l.take (k + 1)).filter p).length = ((l.take k).filter p).length + (if p u = true then 1 else 0)
  | [], k, u, h => by cases h
  | a :: l, 0, u, h => by
    cases h
    show ([a].filter p).length = ([].filter p).length + _
    by_cases q : p a = true
    · rw [List.filter_cons_of_pos q, if_pos q]; rfl
    · rw [List.filter_cons_of_neg q, if_neg q]; rfl
  | a :: l, k + 1, u, h => by
    have h : l[k]? = some u := h
    have ih := filt_take p l k u h
    rw [List.take_succ_cons, List.take_succ_cons]
    by_cases q : p a = true
    · rw [List.filter_cons_of_pos q, List.filter_cons_of_pos q, List.length_cons, List.length_cons, ih]; omega
    · rw [List.filter_cons_of_neg q, List.filter_cons_of_neg q]; exact ih
/-- the darks not known now -/
def unk (M : Nat → Int32) (k : Nat) : Bool := decide (M k = mI2)
def UN (U : List Nat) (M : Nat → Int32) : List Nat := U.filter (unk M)
section UK
variable {N K F R w : Nat} {U : List Nat} {X : List (List Cl)} {T S : Sm}
theorem md_ua (hu : UnkR N K U T S) (h8 : N ≤ 8) (h5 : K ≤ 5) {i : Nat} (hi : i < 1000) : Md_unknownAt (nI i) T = some (match (UN U (T.1 70))[i]? with | some u => nI u | none => mI) := by
  obtain ⟨-, u4, u5, u6, -⟩ := hu
  suffices hl : ∃ r, lpN (Md_unknownAt_L4 (nI i) T) FU (nI 0, nI 0) = some r ∧ ((∃ u, r = .inl (nI u) ∧ (UN U (T.1 70))[i]? = some u) ∨ r = .inr () ∧ (UN U (T.1 70))[i]? = none) by
    obtain ⟨r, e, hr⟩ := hl
    unfold Md_unknownAt
    rw [show (0 : Int32) = nI 0 from rfl, e]
    rcases hr with ⟨u, rfl, h⟩ | ⟨rfl, h⟩
    · rw [h]; rfl
    · rw [h]; rfl
  refine lp_inv (fun k (q : Int32 × Int32) => q.2 = nI k ∧ q.1 = nI (((U.take k).filter (unk (T.1 70))).length) ∧ ((U.take k).filter (unk (T.1 70))).length ≤ i) U.length (by omega) ⟨rfl, rfl, Nat.zero_le _⟩ (fun k q hk hq => ?_) (fun q hq => ?_)
  · obtain ⟨q1, q2⟩ := q
    obtain ⟨rfl, hq1, hle⟩ := hq
    have hq1 : q1 = nI (((U.take k).filter (unk (T.1 70))).length) := hq1
    obtain ⟨m, c, hm, hc, hU, g1, g2⟩ := u6 k hk
    have ft := filt_take (unk (T.1 70)) U k _ hU
    have fl : ((U.take k).filter (unk (T.1 70))).length ≤ k := Nat.le_trans (List.length_filter_le _ _) (by rw [List.length_take]; omega)
    obtain ⟨nn, hnn⟩ : ∃ nn, nn = ((U.take k).filter (unk (T.1 70))).length := ⟨_, rfl⟩
    rw [← hnn] at hq1 hle ft fl
    subst hq1
    have i1 : ix (nI 0 + nI 5 * nI m + nI c) = 5 * m + c := by simp (disch := omega) only [q_lit, q_m1, q_m2, q_hid, q_add, q_mul, q_sub, q_le, q_lt, q_eq, q_mlt, q_mle, q_ltm, q_lem, q_meq, q_eqm, q_m2lt, q_m2le, q_ltm2, q_lem2, q_eqm2, q_mm2, q_m2m, q_mm, q_mnm, q_ix, q_inb, q_a0, q_a1, q_app, q_bind, if_true, if_false, if_pos, if_neg]; omega
    have i2 : inb (nI 0 + nI 5 * nI m + nI c) 320 := by simp (disch := omega) only [q_lit, q_m1, q_m2, q_hid, q_add, q_mul, q_sub, q_le, q_lt, q_eq, q_mlt, q_mle, q_ltm, q_lem, q_meq, q_eqm, q_m2lt, q_m2le, q_ltm2, q_lem2, q_eqm2, q_mm2, q_m2m, q_mm, q_mnm, q_ix, q_inb, q_a0, q_a1, q_app, q_bind, if_true, if_false, if_pos, if_neg]; omega
    have i3 : nI 0 + nI 5 * nI m + nI c = nI (5 * m + c) := by simp (disch := omega) only [q_lit, q_m1, q_m2, q_hid, q_add, q_mul, q_sub, q_le, q_lt, q_eq, q_mlt, q_mle, q_ltm, q_lem, q_meq, q_eqm, q_m2lt, q_m2le, q_ltm2, q_lem2, q_eqm2, q_mm2, q_m2m, q_mm, q_mnm, q_ix, q_inb, q_a0, q_a1, q_app, q_bind, if_true, if_false, if_pos, if_neg]; rw [Nat.zero_add]
    unfold Md_unknownAt_L4 Md_unknownAt_54_L4
    by_cases p : T.1 70 (5 * m + c) = mI2
    · have p' : gi T 70 (5 * m + c) = mI2 := p
      rw [if_pos (show unk (T.1 70) (5 * m + c) = true from decide_eq_true p)] at ft
      by_cases z : nn = i
      · refine Or.inr ⟨.inl (nI (5 * m + c)), ?_, Or.inl ⟨5 * m + c, rfl, ?_⟩⟩
        · rw [i3] at i1 i2
          simp (disch := omega) only [q_lit, q_m2, u5, q_le, q_inb, q_ix, if_true, if_false, if_pos, if_neg, g1, g2, i3, p', z]
        · have := filt_at (unk (T.1 70)) U k _ hU (decide_eq_true p)
          rw [← hnn, z] at this
          exact this
      · refine Or.inl ⟨(nI (nn + 1), nI (k + 1)), ?_, rfl, by rw [ft], by rw [ft]; omega⟩
        simp (disch := omega) only [q_lit, q_m2, q_add, u5, q_le, q_eq, q_inb, q_ix, if_true, if_false, if_pos, if_neg, g1, g2, i3, p', z]
    · have p' : ¬ gi T 70 (5 * m + c) = mI2 := p
      rw [if_neg (by unfold unk; rw [decide_eq_true_iff]; exact p)] at ft
      refine Or.inl ⟨(nI nn, nI (k + 1)), ?_, rfl, by rw [ft]; rfl, by rw [ft]; omega⟩
      simp (disch := omega) only [q_lit, q_m2, q_add, u5, q_le, q_inb, q_ix, if_true, if_false, if_pos, if_neg, g1, g2, i3, p']
  · obtain ⟨q1, q2⟩ := q
    obtain ⟨rfl, hq1, hle⟩ := hq
    refine ⟨.inr (), ?_, Or.inr ⟨rfl, ?_⟩⟩
    · unfold Md_unknownAt_L4
      simp (disch := omega) only [q_lit, q_m1, q_m2, q_hid, q_add, q_mul, q_sub, q_le, q_lt, q_eq, q_mlt, q_mle, q_ltm, q_lem, q_meq, q_eqm, q_m2lt, q_m2le, q_ltm2, q_lem2, q_eqm2, q_mm2, q_m2m, q_mm, q_mnm, q_ix, q_inb, q_a0, q_a1, q_app, q_bind, if_true, if_false, if_pos, if_neg, u5, Nat.le_refl]
    · rw [List.take_length] at hle
      exact List.getElem?_eq_none hle
theorem un_lt (hu : UnkR N K U T S) (h8 : N ≤ 8) (h5 : K ≤ 5) {M : Nat → Int32} {u : Nat} (h : u ∈ UN U M) : u < 40 ∧ M u = mI2 ∧ ∃ m c, m < N ∧ c < K ∧ u = 5 * m + c := by
  obtain ⟨h1, h2⟩ := List.mem_filter.mp h
  obtain ⟨j, hj, e⟩ := List.mem_iff_getElem.mp h1
  obtain ⟨m, c, hm, hc, g, -⟩ := hu.2.2.2.1 j hj
  rw [List.getElem?_eq_getElem hj, e] at g
  have := Option.some.inj g
  exact ⟨by omega, of_decide_eq_true h2, m, c, hm, hc, this⟩
theorem md_un (hu : UnkR N K U T S) (h8 : N ≤ 8) (h5 : K ≤ 5) : Md_unknownNow T = some (nI (UN U (T.1 70)).length) := by
  have l4 : (UN U (T.1 70)).length ≤ 4 := Nat.le_trans (List.length_filter_le _ _) hu.2.1
  have e : lpN (Md_unknownNow_L2 T) FU (nI 0) = some (nI (UN U (T.1 70)).length) := by
    refine lpN_run0 (fun i => nI i) (UN U (T.1 70)).length (by omega) (fun i hi => ?_) ?_ rfl
    · show Md_unknownNow_L2 T (nI i) = _
      obtain ⟨u, hx⟩ : ∃ u, (UN U (T.1 70))[i]? = some u := ⟨_, List.getElem?_eq_getElem hi⟩
      have hlt := (un_lt hu h8 h5 (List.mem_of_getElem? hx)).1
      unfold Md_unknownNow_L2
      rw [md_ua hu h8 h5 (by omega), hx]
      simp (disch := omega) only [q_lit, q_m1, q_m2, q_hid, q_add, q_mul, q_sub, q_le, q_lt, q_eq, q_mlt, q_mle, q_ltm, q_lem, q_meq, q_eqm, q_m2lt, q_m2le, q_ltm2, q_lem2, q_eqm2, q_mm2, q_m2m, q_mm, q_mnm, q_ix, q_inb, q_a0, q_a1, q_app, q_bind, if_true, if_false, if_pos, if_neg]
    · show Md_unknownNow_L2 T (nI (UN U (T.1 70)).length) = _
      unfold Md_unknownNow_L2
      rw [md_ua hu h8 h5 (by omega), List.getElem?_eq_none (Nat.le_refl _)]
      simp (disch := omega) only [q_lit, q_m1, q_m2, q_hid, q_add, q_mul, q_sub, q_le, q_lt, q_eq, q_mlt, q_mle, q_ltm, q_lem, q_meq, q_eqm, q_m2lt, q_m2le, q_ltm2, q_lem2, q_eqm2, q_mm2, q_m2m, q_mm, q_mnm, q_ix, q_inb, q_a0, q_a1, q_app, q_bind, if_true, if_false, if_pos, if_neg]
  unfold Md_unknownNow
  rw [show (0 : Int32) = nI 0 from rfl, e]; rfl
end UK
