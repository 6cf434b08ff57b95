/-! ===== the class's unknown ones; count ===== -/
section UC
variable {N K F R w : Nat} {U : List Nat} {X : List (List Cl)} {T S : Sm}
theorem fm_filter (M : Nat → Int32) (dk : Nat → Nat) (U : List Nat) : ∀ l : List Nat, (∀ i, i ∈ l → M (dk i) = mI2 → dk i ∈ U) → (l.filterMap fun i => if M (dk i) = mI2 then some (dk i) else none) = (l.filterMap fun i => if dk i ∈ U then some (dk i) else none).filter (unk M)
  | [], _ => rfl
  | a :: l, hu => by
    have ih := fm_filter M dk U l (fun i hi => hu i (List.mem_cons_of_mem _ hi))
    by_cases c : M (dk a) = mI2
    · have hc := hu a (List.mem_cons_self ..) c
      rw [List.filterMap_cons_some (b := dk a) (by rw [if_pos c]), List.filterMap_cons_some (b := dk a) (by rw [if_pos hc]), List.filter_cons_of_pos (by exact decide_eq_true c), ih]
    · rw [List.filterMap_cons_none (by rw [if_neg c])]
      by_cases d : dk a ∈ U
      · rw [List.filterMap_cons_some (b := dk a) (by rw [if_pos d]), List.filter_cons_of_neg (by unfold unk; rw [decide_eq_true_iff]; exact c), ih]
      · rw [List.filterMap_cons_none (by rw [if_neg d]), ih]
theorem rg_len {α : Type} (f : Nat → Option α) {i j : Nat} (h : i ≤ j) : ((List.range i).filterMap f).Sublist ((List.range j).filterMap f) := (List.range_sublist.mpr h).filterMap f
theorem nt_dk {m c i : Nat} (hi : i < 18) (hm : m < 8) (hc : c < 5) (e1 : gi S 11 (4 + 4 * i) = nI m) (e2 : gi S 11 (4 + 4 * i + 1) = nI c) : Nt_darkOfTunnel (nI i) S = nI (5 * m + c) := by
  unfold Nt_darkOfTunnel Dk_darkOf
  rw [show (0 : Int32) = nI 0 from rfl, show Nt_item (1 : Int32) (nI i) (nI 0) S = gi S 11 (4 + 4 * i + 0) from it_1 hi (by omega), show Nt_item (1 : Int32) (nI i) (1 : Int32) S = gi S 11 (4 + 4 * i + 1) from it_1 hi (s := 1) (by omega), e2, show gi S 11 (4 + 4 * i + 0) = nI m from e1]
  simp (disch := omega) only [q_lit, q_m1, q_m2, q_hid, q_add, q_mul, q_sub, q_le, q_lt, q_eq, q_mlt, q_mle, q_ltm, q_lem, q_meq, q_eqm, q_m2lt, q_m2le, q_ltm2, q_lem2, q_eqm2, q_mm2, q_m2m, q_mm, q_mnm, q_ix, q_inb, q_a0, q_a1, q_app, q_bind, if_true, if_false, if_pos, if_neg]
  rw [Nat.mul_comm]
/-- the class's list of the unknown ones -/
theorem sg_un (h : RelP N K F R U X w T S) {S0 : Sm} (hS0 : SamS S S0) : ∃ S2, Sg_unknownNow S0 = some (nI (UN U (T.1 70)).length, S2) ∧ SamS S S2 ∧ gi S2 42 7 = nI (UN U (T.1 70)).length ∧ (∀ j u, (UN U (T.1 70))[j]? = some u → gi S2 44 j = nI u) ∧ (∀ r, r ≠ 44 → r ≠ 42 → S2.1 r = S0.1 r) := by
  obtain ⟨hn, -, hu, ⟨hd, -⟩, -⟩ := h
  have h8 := hn.2.2.2.2.2.2.1
  have h5 := hn.2.2.2.2.2.2.2.1
  have l4 : (UN U (T.1 70)).length ≤ 4 := Nat.le_trans (List.length_filter_le _ _) hu.2.1
  obtain ⟨-, -, -, -, t, dk, ht, e12, hdk, hfm⟩ := hu
  have e12' : ∀ S1, S1.1 12 = S.1 12 → Nt_many 1 S1 = nI t := fun S1 g => by
    unfold Nt_many
    rw [show atF (gi S1 12) 4 1 = gi S1 12 1 from q_at (a := 1) (by omega) (by omega), show gi S1 12 1 = gi S 12 1 from congrFun g 1]
    exact e12
  obtain ⟨LL, hLL⟩ : ∃ LL : Nat → List Nat, ∀ i, LL i = (List.range i).filterMap fun i => if T.1 70 (dk i) = mI2 then some (dk i) else none := ⟨_, fun _ => rfl⟩
  have l0 : LL 0 = [] := hLL 0
  have ls : ∀ i, LL (i + 1) = LL i ++ (if T.1 70 (dk i) = mI2 then [dk i] else []) := fun i => by
    rw [hLL, hLL, List.range_succ, List.filterMap_append]
    congr 1
    by_cases c : T.1 70 (dk i) = mI2
    · rw [if_pos c, List.filterMap_cons_some (b := dk i) (by rw [if_pos c])]; rfl
    · rw [if_neg c, List.filterMap_cons_none (by rw [if_neg c])]; rfl
  have lt : LL t = UN U (T.1 70) := by
    rw [hLL, fm_filter (T.1 70) dk U (List.range t) (fun i hi hm => ?_), hfm]; rfl
    have hi := List.mem_range.mp hi
    obtain ⟨m, c, hm2, hc, e, -⟩ := hdk i hi
    rw [e] at hm ⊢
    rcases (hd (by omega) m c (by omega) (by omega)).1 with ⟨-, -, x⟩ | ⟨x, -⟩ | ⟨a, ha, x, -⟩
    · exact x
    · rw [x] at hm; exact absurd hm (by decide)
    · rw [x] at hm; exact absurd hm (fun y => (q_eqm2 (by omega)).mp y)
  have lle : ∀ i, i ≤ t → (LL i).length ≤ 4 := fun i hi => by
    have := (rg_len (fun i => if T.1 70 (dk i) = mI2 then some (dk i) else none) hi).length_le
    rw [← hLL, ← hLL, lt] at this
    omega
  have lfull : ∀ i, i ≤ t → 4 ≤ (LL i).length → LL i = UN U (T.1 70) := fun i hi h4 => by
    have := (rg_len (fun i => if T.1 70 (dk i) = mI2 then some (dk i) else none) hi)
    rw [← hLL, ← hLL, lt] at this
    exact this.eq_of_length (by have := this.length_le; omega)
  suffices hl : ∃ r, lpN (Sg_unknownNow_L7) FU (nI 0, si S0 42 7 (nI 0)) = some r ∧ SamS S r ∧ gi r 42 7 = nI (UN U (T.1 70)).length ∧ (∀ j u, (UN U (T.1 70))[j]? = some u → gi r 44 j = nI u) ∧ (∀ r', r' ≠ 44 → r' ≠ 42 → r.1 r' = S0.1 r') by
    obtain ⟨r, e, h1, h2, h3, h4⟩ := hl
    refine ⟨r, ?_, h1, h2, h3, h4⟩
    unfold Sg_unknownNow
    rw [show (0 : Int32) = nI 0 from rfl, e, ← h2]; rfl
  refine lp_inv (fun i (q : Int32 × Sm) => q.1 = nI i ∧ SamS S q.2 ∧ gi q.2 42 7 = nI (LL i).length ∧ (∀ j u, (LL i)[j]? = some u → gi q.2 44 j = nI u) ∧ (∀ r', r' ≠ 44 → r' ≠ 42 → q.2.1 r' = S0.1 r')) t (by omega) ⟨rfl, hS0.si rfl, by rw [l0]; rfl, fun j u hj => (by rw [l0] at hj; cases hj), fun r' h1 h2 => si_row (by omega)⟩ (fun i q hi hq => ?_) (fun q hq => ?_)
  · obtain ⟨q1, S1⟩ := q
    obtain ⟨hq1, g1, g2, g3, g4⟩ := hq
    have hq1 : q1 = nI i := hq1
    have g1 : SamS S S1 := g1
    have g2 : gi S1 42 7 = nI (LL i).length := g2
    subst hq1
    have hi4 := lle i (by omega)
    have c0 : ¬ Nt_many 1 S1 ≤ nI i := by rw [e12' S1 (g1.row 12 fun _ => rfl), q_le (by omega) (by omega)]; omega
    unfold Sg_unknownNow_L7 Sg_unknownNow_70_L7
    by_cases f4 : 4 ≤ (LL i).length
    · refine Or.inr ⟨S1, ?_, g1, ?_, ?_, g4⟩
      · have c1 : (4 : Int32) ≤ gi S1 42 7 := by rw [g2]; exact (q_le (a := 4) (by omega) (by omega)).mpr f4
        rw [if_neg c0, if_pos c1]
      · rw [← lfull i (by omega) f4]; exact g2
      · rw [← lfull i (by omega) f4]; exact g3
    · have c1 : ¬ (4 : Int32) ≤ gi S1 42 7 := by rw [g2, show (4 : Int32) = nI 4 from rfl, q_le (by omega) (by omega)]; omega
      obtain ⟨m, c, hm, hc, e, e1, e2⟩ := hdk i hi
      have k1 : Nt_darkOfTunnel (nI i) S1 = nI (5 * m + c) := nt_dk (by omega) (by omega) (by omega) ((congrFun (g1.row 11 fun _ => rfl) _).trans e1) ((congrFun (g1.row 11 fun _ => rfl) _).trans e2)
      have k2 : Mo_leadsOfDark (nI (5 * m + c)) S1 = gi S 27 (5 * m + c) := by
        unfold Mo_leadsOfDark
        rw [q_at (by omega) (by omega)]
        exact congrFun (g1.row 27 fun _ => rfl) _
      have k3 : gi S 27 (5 * m + c) = mI ↔ T.1 70 (dk i) = mI2 := by
        rw [e]
        rcases (hd (by omega) m c (by omega) (by omega)).1 with ⟨x, y, -⟩ | ⟨x, y, -⟩ | ⟨a, ha, x, y⟩
        · exact ⟨fun _ => x, fun _ => y⟩
        · have y : gi S 27 (5 * m + c) = nI m := y
          rw [x, y]
          exact ⟨fun z => absurd z fun z => (q_eqm (by omega)).mp z, fun z => absurd z (by decide)⟩
        · have y : gi S 27 (5 * m + c) = nI a := y
          rw [x, y]
          exact ⟨fun z => absurd z fun z => (q_eqm (by omega)).mp z, fun z => absurd z fun z => (q_eqm2 (by omega)).mp z⟩
      refine Or.inl ?_
      by_cases u : T.1 70 (dk i) = mI2
      · have k4 := k3.mpr u
        have ee : LL (i + 1) = LL i ++ [5 * m + c] := by rw [ls, if_pos u, e]
        refine ⟨(nI (i + 1), si (si S1 44 (LL i).length (nI (5 * m + c))) 42 7 (nI (LL (i + 1)).length)), ?_, rfl, (g1.si rfl).si rfl, rfl, fun j u hj => ?_, fun r' h1 h2 => ?_⟩
        · simp only []
          rw [if_neg c0, if_neg c1, k1, k2, k4, if_pos (show mI = -1 from rfl), g2, q_pu (by omega) (by omega)]
          show some (Sum.inl (nI i + 1, si (si S1 44 (LL i).length (nI (5 * m + c))) 42 7 (gi S1 42 7 + 1))) = _
          rw [g2, ee, List.length_append, show (1 : Int32) = nI 1 from rfl, q_add, q_add]; rfl
        · show (if 44 = 42 ∧ j = 7 then nI (LL (i + 1)).length else if 44 = 44 ∧ j = (LL i).length then nI (5 * m + c) else gi S1 44 j) = nI u
          rw [if_neg (fun e => absurd e.1 (by decide))]
          rw [ee] at hj
          by_cases z : j = (LL i).length
          · rw [if_pos ⟨rfl, z⟩]
            rw [z, List.getElem?_append_right (Nat.le_refl _), Nat.sub_self] at hj
            rw [← Option.some.inj hj]
          · rw [if_neg fun e => z e.2]
            refine g3 j u ?_
            by_cases y : j < (LL i).length
            · rwa [List.getElem?_append_left y] at hj
            · rw [List.getElem?_append_right (by omega)] at hj
              obtain ⟨d, hd'⟩ : ∃ d, j - (LL i).length = d + 1 := ⟨j - (LL i).length - 1, by omega⟩
              rw [hd'] at hj; cases hj
        · show (si _ 42 7 _).1 r' = _
          rw [si_row (by omega), si_row (by omega)]; exact g4 r' h1 h2
      · have k4 : ¬ gi S 27 (5 * m + c) = mI := fun z => u (k3.mp z)
        have ee : LL (i + 1) = LL i := by rw [ls, if_neg u, List.append_nil]
        refine ⟨(nI (i + 1), S1), ?_, rfl, g1, by rw [ee]; exact g2, by rw [ee]; exact g3, g4⟩
        simp only []
        rw [if_neg c0, if_neg c1, k1, k2, if_neg (show ¬ gi S 27 (5 * m + c) = -1 from k4), show (1 : Int32) = nI 1 from rfl, q_add]
  · obtain ⟨q1, S1⟩ := q
    obtain ⟨hq1, g1, g2, g3, g4⟩ := hq
    have hq1 : q1 = nI t := hq1
    have g1 : SamS S S1 := g1
    subst hq1
    refine ⟨S1, ?_, g1, by rw [← lt]; exact g2, by rw [← lt]; exact g3, g4⟩
    have c0 : Nt_many 1 S1 ≤ nI t := by rw [e12' S1 (g1.row 12 fun _ => rfl), q_le (by omega) (by omega)]; exact Nat.le_refl _
    unfold Sg_unknownNow_L7
    exact if_pos c0
theorem gd_all (h : RelP N K F R U X w T S) : ∃ v, Mo_guardsInAll S = some v ∧ Md_guardsInAll T = some v := by
  obtain ⟨-, -, -, ⟨-, n, hh, q, hg, -⟩, -⟩ := h
  suffices hl : ∃ r u, lpN (Mo_guardsInAll_L4 S) FU (nI 0, nI 0) = some r ∧ lpN (Md_guardsInAll_L4 T) FU (nI 0, nI 0) = some u ∧ r = u by
    obtain ⟨r, u, e1, e2, rfl⟩ := hl
    unfold Mo_guardsInAll Md_guardsInAll
    rw [show (0 : Int32) = nI 0 from rfl, e1, e2]
    exact ⟨r, rfl, rfl⟩
  refine lp_rel (fun i (s t : Int32 × Int32) => s = t ∧ s.2 = nI i) 8 (by omega) ⟨rfl, rfl⟩ (fun i s t hi hs => ?_) (fun s t hs => ?_)
  · obtain ⟨s1, s2⟩ := s
    obtain ⟨rfl, hs⟩ := hs
    have hs : s2 = nI i := hs
    subst hs
    obtain ⟨g, -, a, b⟩ := hg i hi
    have a : gi T 70 (80 + i) = nI g := a
    have b : gi S 28 i = nI g := b
    refine Or.inl ⟨(s1 + nI g, nI (i + 1)), (s1 + nI g, nI (i + 1)), ?_, ?_, rfl, rfl⟩
    · unfold Mo_guardsInAll_L4 Mo_guardsAt
      simp (disch := omega) only [q_lit, q_m1, q_m2, q_hid, q_add, q_mul, q_sub, q_le, q_lt, q_eq, q_mlt, q_mle, q_ltm, q_lem, q_meq, q_eqm, q_m2lt, q_m2le, q_ltm2, q_lem2, q_eqm2, q_mm2, q_m2m, q_mm, q_mnm, q_ix, q_inb, q_a0, q_a1, q_app, q_bind, if_true, if_false, if_pos, if_neg, q_at, b]
    · unfold Md_guardsInAll_L4
      simp (disch := omega) only [q_lit, q_m1, q_m2, q_hid, q_add, q_mul, q_sub, q_le, q_lt, q_eq, q_mlt, q_mle, q_ltm, q_lem, q_meq, q_eqm, q_m2lt, q_m2le, q_ltm2, q_lem2, q_eqm2, q_mm2, q_m2m, q_mm, q_mnm, q_ix, q_inb, q_a0, q_a1, q_app, q_bind, if_true, if_false, if_pos, if_neg, a]
  · obtain ⟨s1, s2⟩ := s
    obtain ⟨rfl, hs⟩ := hs
    have hs : s2 = nI 8 := hs
    subst hs
    exact ⟨s1, s1, rfl, rfl, rfl⟩
theorem op_count (h : RelP N K F R U X w T S) (v : Int32) : ∃ q p, Dk_count v S = some q ∧ Md_count v T = some p ∧ q.1 = p ∧ SamS S q.2 := by
  have r := SamS.rfl S
  obtain ⟨gv, ga, gb⟩ := gd_all h
  obtain ⟨S2, u1, u2, -⟩ := sg_un h (SamS.rfl S)
  have u3 := md_un h.2.2.1 h.1.2.2.2.2.2.2.1 h.1.2.2.2.2.2.2.2.1
  have nm := n_m h.1
  have nk := n_k h.1
  obtain ⟨-, -, -, gm, gk, -⟩ := h.1
  obtain ⟨-, -, -, ⟨-, n, hh, q, hg, hn, hh9, hq, ⟨o1, o2⟩, ⟨o3, o4⟩, o5, ⟨o6, o7⟩, -⟩, -, ⟨a, x, -, -, k1, k2, -⟩, -, ⟨l, hl, s1, s2, -⟩, ⟨tn, -, t1, t2, -⟩, ⟨f, -, f1, f2⟩, -, lw1, lw2, lw3, -⟩ := h
  have o2 : gi S 25 4 = nI n := o2
  have o4 : gi S 25 5 = nI hh := o4
  have o7 : gi S 25 7 = nI q := o7
  have o1 : gi T 70 136 = nI n := o1
  have o3 : gi T 70 137 = nI hh := o3
  have o5 : gi T 70 138 = gi S 25 6 := o5
  have o6 : gi T 70 139 = nI (min q 60) := o6
  unfold Dk_count Md_count Dk_countMore
  by_cases c0 : v = 0
  · rw [if_pos c0, if_pos c0]; exact ⟨_, _, rfl, rfl, nm.trans gm.symm, r⟩
  rw [if_neg c0, if_neg c0]
  by_cases c1 : v = 1
  · rw [if_pos c1, if_pos c1]; exact ⟨_, _, rfl, rfl, nk.trans gk.symm, r⟩
  rw [if_neg c1, if_neg c1]
  by_cases c2 : v = 2
  · rw [if_pos c2, if_pos c2]; exact ⟨_, _, rfl, rfl, o2.trans o1.symm, r⟩
  rw [if_neg c2, if_neg c2]
  by_cases c3 : v = 3
  · rw [if_pos c3, if_pos c3, ga, gb]; exact ⟨_, _, rfl, rfl, rfl, r⟩
  rw [if_neg c3, if_neg c3]
  by_cases c4 : v = 4
  · rw [if_pos c4, if_pos c4]; exact ⟨_, _, rfl, rfl, lw2.trans lw1.symm, r⟩
  rw [if_neg c4, if_neg c4]
  by_cases c5 : v = 5
  · rw [if_pos c5, if_pos c5]; exact ⟨_, _, rfl, rfl, t2.trans t1.symm, r⟩
  rw [if_neg c5, if_neg c5]
  by_cases c6 : v = 6
  · rw [if_pos c6, if_pos c6]; exact ⟨_, _, rfl, rfl, lw3.symm, r⟩
  rw [if_neg c6, if_neg c6]
  by_cases c7 : v = 7
  · rw [if_pos c7, if_pos c7]; exact ⟨_, _, rfl, rfl, o4.trans o3.symm, r⟩
  rw [if_neg c7, if_neg c7]
  by_cases c8 : v = 8
  · rw [if_pos c8, if_pos c8]; exact ⟨_, _, rfl, rfl, o5.symm, r⟩
  rw [if_neg c8, if_neg c8]
  by_cases c9 : v = 9
  · rw [if_pos c9, if_pos c9]; exact ⟨_, _, rfl, rfl, f2.trans f1.symm, r⟩
  rw [if_neg c9, if_neg c9]
  by_cases c10 : v = 10
  · rw [if_pos c10, if_pos c10, u1, u3]; exact ⟨_, _, rfl, rfl, rfl, u2⟩
  rw [if_neg c10, if_neg c10]
  by_cases c11 : v = 11
  · rw [if_pos c11, if_pos c11]; exact ⟨_, _, rfl, rfl, s2.trans s1.symm, r⟩
  rw [if_neg c11, if_neg c11]
  by_cases c12 : v = 12
  · rw [if_pos c12, if_pos c12]
    refine ⟨_, _, rfl, rfl, ?_, r⟩
    show iMin (gi S 25 7) (nI 60) = _
    rw [o7, o6, q_min (by omega) (by omega)]
  rw [if_neg c12, if_neg c12]
  by_cases c13 : v = 13
  · rw [if_pos c13, if_pos c13]; exact ⟨_, _, rfl, rfl, k2.trans k1.symm, r⟩
  rw [if_neg c13, if_neg c13]
  exact ⟨_, _, rfl, rfl, rfl, r⟩
end UC
