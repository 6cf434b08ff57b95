/-! ===== what the unknown ones could be: the class goes through them ===== -/
section NW
variable {N K F R w : Nat} {U : List Nat} {X : List (List Cl)} {T S : Sm}
def NwA (un : List Nat) (S S1 : Sm) : Prop := SamS S S1 ∧ gi S1 42 7 = nI un.length ∧ (∀ j u, un[j]? = some u → gi S1 44 j = nI u) ∧ ∀ k, k < 40 → ¬ k ∈ un → gi S1 45 k = gi S 27 k
theorem nw_ld {M ld len f g : Nat → Int32} {x : Nat} (h8 : N ≤ 8) (hd : DkR N U len M ld) (hf : NwRow (UN U M) N (UN U M).length x M f) (h1 : ∀ j u, (UN U M)[j]? = some u → g u = nI (nwDg N (UN U M).length x j)) (h2 : ∀ k, k < 40 → ¬ k ∈ UN U M → g k = ld k) {m c : Nat} (hm : m < N) (hc : c < 5) : g (5 * m + c) = nI (Ld f m c) ∧ Ld f m c < N ∧ (if 0 ≤ f (5 * m + c) then f (5 * m + c) else nI m) = nI (Ld f m c) := by
  have hN : 0 < N := by omega
  unfold Ld
  by_cases k : 5 * m + c ∈ UN U M
  · obtain ⟨j, hj, e⟩ := List.mem_iff_getElem.mp k
    have ej : (UN U M)[j]? = some (5 * m + c) := by rw [List.getElem?_eq_getElem hj, e]
    have hl := nwDg_lt (n := (UN U M).length) (x := x) (j := j) hN
    have fe : f (5 * m + c) = nI (nwDg N (UN U M).length x j) := by rw [hf.1 j _ ej, if_pos hj]
    rw [h1 j _ ej, fe, if_neg (fun z => by
      rcases z with z | z
      · omega
      · exact nI_pos (by omega) z), q_ix (by omega), if_pos (nI_pos' (by omega))]
    exact ⟨rfl, hl, rfl⟩
  · rw [h2 _ (by omega) k, hf.2 _ k]
    rcases (hd m c (by omega) hc).1 with ⟨x1, -, x3⟩ | ⟨x1, x2, -⟩ | ⟨a, ha, x1, x2⟩
    · exact absurd (List.mem_filter.mpr ⟨x3, decide_eq_true x1⟩) k
    · rw [x1, x2, if_pos (Or.inr (by decide)), if_neg (by decide)]
      exact ⟨rfl, hm, rfl⟩
    · rw [x1, x2, if_neg (fun z => by
        rcases z with z | z
        · omega
        · exact nI_pos (by omega) z), q_ix (by omega), if_pos (nI_pos' (by omega))]
      exact ⟨rfl, ha, rfl⟩
theorem sg_begin (h : RelP N K F R U X w T S) (hN : 0 < N) {S0 : Sm} (hS0 : SamS S S0) : ∃ S2, Sg_beginAssumptions S0 = some (nI (N ^ (UN U (T.1 70)).length), S2) ∧ NwA (UN U (T.1 70)) S S2 ∧ (∀ r, r ≠ 44 → r ≠ 42 → r ≠ 45 → S2.1 r = S0.1 r) := by
  obtain ⟨S1, e1, a1, a2, a3⟩ : ∃ S1, lpN Sg_beginAssumptions_L2 FU (nI 0, S0) = some S1 ∧ SamS S S1 ∧ (∀ k, k < 40 → gi S1 45 k = gi S 27 k) ∧ ∀ r, r ≠ 45 → S1.1 r = S0.1 r := by
    refine lp_inv (fun i (q : Int32 × Sm) => q.1 = nI i ∧ SamS S q.2 ∧ (∀ k, k < i → gi q.2 45 k = gi S 27 k) ∧ ∀ r, r ≠ 45 → q.2.1 r = S0.1 r) 40 (by omega) ⟨rfl, hS0, fun k hk => absurd hk (by omega), fun _ _ => rfl⟩ (fun i q hi hq => ?_) (fun q hq => ?_)
    · obtain ⟨q1, S1⟩ := q
      obtain ⟨hq1, g1, g2, g3⟩ := hq
      have hq1 : q1 = nI i := hq1
      have g1 : SamS S S1 := g1
      subst hq1
      refine Or.inl ⟨(nI (i + 1), si S1 45 i (gi S 27 i)), ?_, rfl, g1.si rfl, fun k hk => ?_, fun r hr => (si_row hr).trans (g3 r hr)⟩
      · have k2 : Mo_leadsOfDark (nI i) S1 = gi S 27 i := by
          unfold Mo_leadsOfDark
          rw [q_at hi (by omega)]
          exact congrFun (g1.row 27 fun _ => rfl) _
        unfold Sg_beginAssumptions_L2
        simp (disch := omega) only [q_lit, q_m1, q_m2, q_hid, q_add, q_mul, q_sub, q_le, q_lt, q_eq, q_mlt, q_mle, q_ltm, q_lem, q_meq, q_eqm, q_m2lt, q_m2le, q_ltm2, q_lem2, q_eqm2, q_mm2, q_m2m, q_mm, q_mnm, q_ix, q_inb, q_a0, q_a1, q_app, q_bind, if_true, if_false, if_pos, if_neg, k2, q_pu]
      · show (if 45 = 45 ∧ k = i then gi S 27 i else gi S1 45 k) = _
        by_cases z : k = i
        · rw [if_pos ⟨rfl, z⟩, z]
        · rw [if_neg fun e => z e.2]; exact g2 k (by omega)
    · obtain ⟨q1, S1⟩ := q
      obtain ⟨hq1, g1, g2, g3⟩ := hq
      have hq1 : q1 = nI 40 := hq1
      subst hq1
      exact ⟨S1, rfl, g1, g2, g3⟩
  obtain ⟨S2, e2, b1, b2, b3, b4⟩ := sg_un h a1
  have l4 : (UN U (T.1 70)).length ≤ 4 := Nat.le_trans (List.length_filter_le _ _) h.2.2.1.2.1
  have nm := n_m (h.same b1 (SamT.rfl T)).1
  have h8 := h.1.2.2.2.2.2.2.1
  have hp := nw_pow h8 l4
  have e3 : lpN (Sg_beginAssumptions_L39 (nI (UN U (T.1 70)).length) S2) FU (nI 1, nI 0) = some (nI (N ^ (UN U (T.1 70)).length)) := by
    refine lpN_run0 (fun i => (nI (N ^ i), nI i)) (UN U (T.1 70)).length (by omega) (fun i hi => ?_) ?_ rfl
    · show Sg_beginAssumptions_L39 (nI (UN U (T.1 70)).length) S2 (nI (N ^ i), nI i) = _
      unfold Sg_beginAssumptions_L39
      simp (disch := omega) only [q_lit, q_m1, q_m2, q_hid, q_add, q_mul, q_sub, q_le, q_lt, q_eq, q_mlt, q_mle, q_ltm, q_lem, q_meq, q_eqm, q_m2lt, q_m2le, q_ltm2, q_lem2, q_eqm2, q_mm2, q_m2m, q_mm, q_mnm, q_ix, q_inb, q_a0, q_a1, q_app, q_bind, if_true, if_false, if_pos, if_neg, nm, Nat.pow_succ]
    · show Sg_beginAssumptions_L39 (nI (UN U (T.1 70)).length) S2 (nI (N ^ (UN U (T.1 70)).length), nI (UN U (T.1 70)).length) = _
      unfold Sg_beginAssumptions_L39
      simp (disch := omega) only [q_lit, q_m1, q_m2, q_hid, q_add, q_mul, q_sub, q_le, q_lt, q_eq, q_mlt, q_mle, q_ltm, q_lem, q_meq, q_eqm, q_m2lt, q_m2le, q_ltm2, q_lem2, q_eqm2, q_mm2, q_m2m, q_mm, q_mnm, q_ix, q_inb, q_a0, q_a1, q_app, q_bind, if_true, if_false, if_pos, if_neg, Nat.le_refl]
  refine ⟨S2, ?_, ⟨b1, b2, b3, fun k hk _ => ?_⟩, fun r h1 h2 h3 => (b4 r h1 h2).trans (a3 r h3)⟩
  · unfold Sg_beginAssumptions
    rw [show (0 : Int32) = nI 0 from rfl, e1, q_bind, e2, q_bind]
    show (lpN (Sg_beginAssumptions_L39 (nI (UN U (T.1 70)).length) S2) FU (nI 1, nI 0)).bind _ = _
    rw [e3]; rfl
  · rw [gi_row (b4 45 (by omega) (by omega))]; exact a2 k hk
theorem sg_fits {S1 : Sm} {L : Nat → Nat → Nat} {i m c k t : Nat} (h8 : N ≤ 8) (h5 : K ≤ 5) (hA : ∀ m c, m < N → c < K → gi S1 45 (5 * m + c) = nI (L m c) ∧ L m c < N) (hi : i < 10) (hm : m < N) (hc : c < K) (hk : k ≤ 4) (ht : t < N) (e0 : gi S1 43 (4 * i) = nI m) (e1 : gi S1 43 (4 * i + 1) = nI c) (e2 : gi S1 43 (4 * i + 2) = nI k) (e3 : gi S1 43 (4 * i + 3) = nI t) : Sg_fits (nI (4 * i)) S1 = some (bI (decide (wk L c k m = t))) := by
  have hw : ∀ j, wk L c j m < N := itr_lt (fun x hx => (hA x c hx hc).2) hm
  have e : lpN (Sg_fits_L11 (nI (4 * i)) S1) FU (nI m, nI 0) = some (nI (wk L c k m)) := by
    refine lpN_run0 (fun j => (nI (wk L c j m), nI j)) k (by omega) (fun j hj => ?_) ?_ rfl
    · show Sg_fits_L11 (nI (4 * i)) S1 (nI (wk L c j m), nI j) = _
      have hwj := hw j
      have a := (hA _ c hwj hc).1
      rw [Nat.mul_comm] at a
      unfold Sg_fits_L11 Dk_darkOf
      simp (disch := omega) only [q_lit, q_m1, q_m2, q_hid, q_add, q_mul, q_sub, q_le, q_lt, q_eq, q_mlt, q_mle, q_ltm, q_lem, q_meq, q_eqm, q_m2lt, q_m2le, q_ltm2, q_lem2, q_eqm2, q_mm2, q_m2m, q_mm, q_mnm, q_ix, q_inb, q_a0, q_a1, q_app, q_bind, if_true, if_false, if_pos, if_neg, q_at, e1, e2, a]
      rfl
    · show Sg_fits_L11 (nI (4 * i)) S1 (nI (wk L c k m), nI k) = _
      unfold Sg_fits_L11
      simp (disch := omega) only [q_lit, q_m1, q_m2, q_hid, q_add, q_mul, q_sub, q_le, q_lt, q_eq, q_mlt, q_mle, q_ltm, q_lem, q_meq, q_eqm, q_m2lt, q_m2le, q_ltm2, q_lem2, q_eqm2, q_mm2, q_m2m, q_mm, q_mnm, q_ix, q_inb, q_a0, q_a1, q_app, q_bind, if_true, if_false, if_pos, if_neg, q_at, e2, Nat.le_refl]
  have hwk := hw k
  unfold Sg_fits Sg_fits_72
  by_cases z : wk L c k m = t
  · simp (disch := omega) only [q_lit, q_m1, q_m2, q_hid, q_add, q_mul, q_sub, q_le, q_lt, q_eq, q_mlt, q_mle, q_ltm, q_lem, q_meq, q_eqm, q_m2lt, q_m2le, q_ltm2, q_lem2, q_eqm2, q_mm2, q_m2m, q_mm, q_mnm, q_ix, q_inb, q_a0, q_a1, q_app, q_bind, if_true, if_false, if_pos, if_neg, q_at, e0, e3, e, z]
    rfl
  · simp (disch := omega) only [q_lit, q_m1, q_m2, q_hid, q_add, q_mul, q_sub, q_le, q_lt, q_eq, q_mlt, q_mle, q_ltm, q_lem, q_meq, q_eqm, q_m2lt, q_m2le, q_ltm2, q_lem2, q_eqm2, q_mm2, q_m2m, q_mm, q_mnm, q_ix, q_inb, q_a0, q_a1, q_app, q_bind, if_true, if_false, if_pos, if_neg, q_at, e0, e3, e, z]
    rfl
end NW
