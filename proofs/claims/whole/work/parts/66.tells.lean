/-! ===== could, tells ===== -/
section NU
variable {N K F R w : Nat} {U : List Nat} {X : List (List Cl)} {T S : Sm}
theorem un_nil (h : RelP N K F R U X w T S) (h0 : N = 0) : UN U (T.1 70) = [] := by
  cases e : UN U (T.1 70) with
  | nil => rfl
  | cons a l =>
    obtain ⟨-, -, m, c, hm, -⟩ := un_lt (M := T.1 70) h.2.2.1 h.1.2.2.2.2.2.2.1 h.1.2.2.2.2.2.2.2.1 (u := a) (by rw [e]; exact List.mem_cons_self ..)
    omega
theorem op_could (h : RelP N K F R U X w T S) (v : Int32) : ∃ q p, Dk_could v S = some q ∧ Md_could v T = some p ∧ q.1 = p.1 ∧ SamS S q.2 ∧ SamT T p.2 := by
  have l4 : (UN U (T.1 70)).length ≤ 4 := Nat.le_trans (List.length_filter_le _ _) h.2.2.1.2.1
  have h8 := h.1.2.2.2.2.2.2.1
  obtain ⟨S1, u1, u2, -⟩ := sg_un h (SamS.rfl S)
  unfold Dk_could Md_could Dk_could_26 Dk_could_27 Md_could_13
  by_cases c : v < 0
  · rw [if_pos c]
    refine ⟨(mI, S), (mI, T), rfl, ?_, rfl, SamS.rfl S, SamT.rfl T⟩
    by_cases d : gi T 68 0 = 0
    · rw [if_pos d]; rfl
    · rw [if_neg d, if_neg (fun z => Int32.lt_irrefl (Int32.lt_of_lt_of_le c z))]; rfl
  · rw [if_neg c, u1]
    obtain ⟨k, hk, rfl⟩ := nI_of c
    show ∃ q p, (if nI (UN U (T.1 70)).length ≤ nI k then _ else _) = _ ∧ _
    rcases toldC h.1 with ⟨h0, a, b⟩ | ⟨hN, a, -, b⟩
    · rw [if_pos (by rw [un_nil h h0]; exact nI_pos' hk), b]
      exact ⟨(mI, S1), (mI, T), rfl, rfl, rfl, u2, SamT.rfl T⟩
    · rw [if_neg b, if_pos (show (0 : Int32) ≤ nI k from nI_pos' hk)]
      obtain ⟨T2, e2, d1, d2, d3, d4⟩ := md_layN h hN (-1)
      rw [e2]
      by_cases z : (UN U (T.1 70)).length ≤ k
      · rw [if_pos ((q_le (by omega) hk).mpr z)]
        refine ⟨(mI, S1), (mI, T2), rfl, ?_, rfl, u2, d1⟩
        show (if nI k < nI (UN U (T.1 70)).length then _ else some (mI, T2)) = _
        rw [if_neg (fun y => by have := (q_lt hk (by omega)).mp y; omega)]
      · rw [if_neg (fun y => z ((q_le (by omega) hk).mp y))]
        obtain ⟨v, S2, e3, f1, f2⟩ := sg_could h hN u2 (j := k) (by omega)
        have hp := nw_pow h8 l4
        rw [show Sg_couldLead (nI k) S1 = some (v, S2) from e3]
        obtain ⟨O, hO⟩ : ∃ O : Nat → Nat, ∀ m, O m = nwO N (UN U (T.1 70)).length (nwB (UN U (T.1 70)) N (T.1 70) T) k m (N ^ (UN U (T.1 70)).length) := ⟨_, fun _ => rfl⟩
        have hOl : ∀ m, O m < 5000 := fun m => by
          have h1 := nwO_le N (UN U (T.1 70)).length (nwB (UN U (T.1 70)) N (T.1 70) T) k m (N ^ (UN U (T.1 70)).length)
          have h2 := cnt_le (nwB (UN U (T.1 70)) N (T.1 70) T) (N ^ (UN U (T.1 70)).length)
          rw [hO]; omega
        obtain ⟨r, er, hr⟩ : ∃ r, lpN (Md_could_L33 (nI k) T2) FU (nI 0, nI 0) = some r ∧ Msk (fun m => m < 8 ∧ 0 < O m) r := by
          refine lp_inv (fun i (q : Int32 × Int32) => q.2 = nI i ∧ Msk (fun m => m < i ∧ 0 < O m) q.1) 8 (by omega) ⟨rfl, Msk.none.of fun m => ⟨fun z => z.elim, fun z => absurd z.1 (Nat.not_lt_zero m)⟩⟩ (fun i q hi hq => ?_) (fun q hq => ?_)
          · obtain ⟨q1, q2⟩ := q
            obtain ⟨hq2, hq1⟩ := hq
            have hq2 : q2 = nI i := hq2
            have hq1 : Msk _ q1 := hq1
            subst hq2
            have c0 : ¬ (8 : Int32) ≤ nI i := by rw [show (8 : Int32) = nI 8 from rfl, q_le (by omega) (by omega)]; omega
            have o1 : gi T2 86 (8 * k + i) = nI (O i) := by rw [hO]; exact d4 k i (by omega) hi
            have hl := hOl i
            unfold Md_could_L33 Md_could_64_L33
            simp only []
            rw [if_neg c0, show (8 : Int32) * nI k + nI i = nI (8 * k + i) by rw [show (8 : Int32) = nI 8 from rfl, q_mul, q_add], if_pos (nI_in (by omega) (by omega)), q_ix (by omega), o1]
            by_cases y : 0 < O i
            · refine Or.inl ⟨(q1 ||| nI (2 ^ i), nI (i + 1)), ?_, rfl, (hq1.or (Msk.one hi)).of fun m => ?_⟩
              · rw [if_neg (nw_pos y (by omega)), show (1 : Int32) = nI 1 from rfl, q_shl (by omega), q_add]
              · constructor
                · rintro (x | rfl)
                  · exact ⟨by omega, x.2⟩
                  · exact ⟨Nat.lt_succ_self _, y⟩
                · intro x
                  by_cases e : i = m
                  · exact Or.inr e
                  · exact Or.inl ⟨by omega, x.2⟩
            · refine Or.inl ⟨(q1 ||| nI 0, nI (i + 1)), ?_, rfl, (hq1.or Msk.none).of fun m => ?_⟩
              · rw [if_pos (show nI (O i) ≤ 0 by rw [show O i = 0 by omega]; decide), show (1 : Int32) = nI 1 from rfl, q_add]; rfl
              · constructor
                · rintro (x | x)
                  · exact ⟨by omega, x.2⟩
                  · exact x.elim
                · intro x
                  by_cases e : i = m
                  · subst e; exact absurd x.2 y
                  · exact Or.inl ⟨by omega, x.2⟩
          · obtain ⟨q1, q2⟩ := q
            obtain ⟨hq2, hq1⟩ := hq
            have hq2 : q2 = nI 8 := hq2
            subst hq2
            exact ⟨q1, rfl, hq1⟩
        refine ⟨(v, S2), (r, T2), rfl, ?_, ?_, f1, d1⟩
        · show (if nI k < nI (UN U (T.1 70)).length then (lpN (Md_could_L33 (nI k) T2) FU (nI 0, nI 0)).bind _ else _) = _
          rw [if_pos ((q_lt hk (by omega)).mpr (by omega)), er]; rfl
        · refine Msk.uniq f2 (hr.of fun m => ?_)
          rw [hO]
          exact ⟨fun x => x.2, fun x => ⟨f2.lt x, x⟩⟩
theorem op_tells (h : RelP N K F R U X w T S) (v : Int32) : ∃ q p, Dk_tells v S = some q ∧ Md_tells v T = some p ∧ q.1 = p.1 ∧ SamS S q.2 ∧ SamT T p.2 := by
  have l4 : (UN U (T.1 70)).length ≤ 4 := Nat.le_trans (List.length_filter_le _ _) h.2.2.1.2.1
  have h8 := h.1.2.2.2.2.2.2.1
  obtain ⟨S1, u1, u2, -⟩ := sg_un h (SamS.rfl S)
  have t1 : ¬ nI 1 = 0 := by decide
  unfold Dk_tells Md_tells Dk_tells_19 Dk_tells_38 Dk_tells_50 Md_tells_18 Md_tells_130
  rcases rngG v 0 1 (by omega) (by omega) with ⟨q, e⟩ | ⟨n, -, hn, rfl, e⟩
  · refine ⟨(mI, S), (mI, T), ?_, ?_, rfl, SamS.rfl S, SamT.rfl T⟩
    · by_cases c : v < 0
      · rw [if_pos c]; rfl
      · rw [if_neg c, if_pos (by
          rcases q with q | q
          · exact absurd q c
          · exact q)]; rfl
    · by_cases d : gi T 68 0 = 0
      · rw [if_pos d]; rfl
      · rw [if_neg d, show Md_in v 0 1 = nI 0 from e]; rfl
  · have c1 : ¬ nI n < 0 := nI_pos (by omega)
    have c2 : ¬ (1 : Int32) < nI n := by rw [show (1 : Int32) = nI 1 from rfl, q_lt (by omega) (by omega)]; omega
    rw [if_neg c1, if_neg c2, u1, show Md_in (nI n) 0 1 = nI 1 from e, if_neg t1]
    show ∃ q p, (if nI (UN U (T.1 70)).length = 0 then _ else _) = _ ∧ _
    rcases toldC h.1 with ⟨h0, a, b⟩ | ⟨hN, a, -, b⟩
    · rw [if_pos (by rw [un_nil h h0]; rfl), if_pos (show gi T 68 0 = 0 from b)]
      exact ⟨(mI, S1), (mI, T), rfl, rfl, rfl, u2, SamT.rfl T⟩
    · rw [if_neg b]
      obtain ⟨T2, e2, d1, d2, d3, d4⟩ := md_layN h hN (-1)
      have hp := nw_pow h8 l4
      rw [e2]
      obtain ⟨ln, hln⟩ : ∃ ln, ln = (UN U (T.1 70)).length := ⟨_, rfl⟩
      obtain ⟨C, hC⟩ : ∃ C, C = cntN (nwB (UN U (T.1 70)) N (T.1 70) T) (N ^ (UN U (T.1 70)).length) := ⟨_, rfl⟩
      have hCl : C < 5000 := by
        have h2 := cnt_le (nwB (UN U (T.1 70)) N (T.1 70) T) (N ^ (UN U (T.1 70)).length)
        omega
      obtain ⟨O, hO⟩ : ∃ O : Nat → Nat → Nat, O = fun j m => nwO N (UN U (T.1 70)).length (nwB (UN U (T.1 70)) N (T.1 70) T) j m (N ^ (UN U (T.1 70)).length) := ⟨_, rfl⟩
      have hOC : ∀ j m, O j m ≤ C := fun j m => by rw [hO, hC]; exact nwO_le ..
      have hOl : ∀ j m, O j m < 5000 := fun j m => Nat.lt_of_le_of_lt (hOC j m) hCl
      have hOx : 0 < C → ∀ j, 0 < nwM (O j) 8 := fun hc j => by
        rw [hC] at hc
        obtain ⟨m, m1, m2⟩ := nwO_ex N (UN U (T.1 70)).length _ j _ hc
        have := nwM_ge (O j) 8 m (by have := m2 hN; omega)
        have e : O j m = nwO N (UN U (T.1 70)).length (nwB (UN U (T.1 70)) N (T.1 70) T) j m (N ^ (UN U (T.1 70)).length) := by rw [hO]
        rw [← e] at m1
        omega
      have hM : ∀ j, nwM (O j) 8 ≤ C := fun j => nwM_le (O j) (hOC j) 8
      rw [← hO, ← hln] at d4
      rw [← hC] at d2
      rw [← hln]
      by_cases z : ln = 0
      · rw [if_pos (by rw [z]; rfl)]
        refine ⟨(mI, S1), (mI, T2), rfl, ?_, rfl, u2, d1⟩
        show ((lpN (Md_tells_L34 (nI n) (nI ln) T2) FU (mI, nI 0, nI 0)).bind _) = _
        rw [lpN_run0 (fun _ => (mI, nI 0, nI 0)) 0 (by omega) (fun i hi => absurd hi (Nat.not_lt_zero i)) (r := (mI, nI 0)) (by rw [z]; rfl) rfl]
        rfl
      · rw [if_neg (show ¬ nI ln = 0 from fun y => z ((q_eq (by omega) (by omega)).mp (show nI ln = nI 0 from y)))]
        obtain ⟨S2, e3, f1, f2⟩ := sg_often h hN u2
        rw [← hO, ← hln] at f2
        have mo := fun i (hi : i < ln) => sg_most (S2 := S2) (by omega : ln ≤ 4) hi hOl f2
        have f7 : gi S2 42 7 = nI ln := by rw [hln]; exact f1.2.1
        have mo2 : ∀ i, i < ln → lpN (Md_tells_L53 (nI n) (nI ln) (nI 0) (nI 0) (nI i) T2) FU (nI 0, nI 0) = some (nI (nwM (O i) 8)) ∧ ∀ a c, lpN (Md_tells_L53 (nI n) (nI ln) a c (nI i) T2) FU (nI 0, nI 0) = some (nI (nwM (O i) 8)) := fun i hi => by
          suffices g : ∀ a c, lpN (Md_tells_L53 (nI n) (nI ln) a c (nI i) T2) FU (nI 0, nI 0) = some (nI (nwM (O i) 8)) from ⟨g _ _, g⟩
          intro a c
          refine lpN_run0 (fun m => (nI (nwM (O i) m), nI m)) 8 (by omega) (fun m hm => ?_) rfl rfl
          show Md_tells_L53 (nI n) (nI ln) a c (nI i) T2 (nI (nwM (O i) m), nI m) = _
          have h1 := hOl i m
          have h2 := nwM_le (O i) (c := 5000) (fun m => Nat.le_of_lt (hOl i m)) m
          have h3 : gi T2 86 (8 * i + m) = nI (O i m) := d4 i m hi hm
          unfold Md_tells_L53
          simp (disch := omega) only [q_lit, q_m1, q_m2, q_hid, q_add, q_mul, q_sub, q_le, q_lt, q_eq, q_mlt, q_mle, q_ltm, q_lem, q_meq, q_eqm, q_m2lt, q_m2le, q_ltm2, q_lem2, q_eqm2, q_mm2, q_m2m, q_mm, q_mnm, q_ix, q_inb, q_a0, q_a1, q_app, q_bind, if_true, if_false, if_pos, if_neg, h3, q_max]
          rfl
        obtain ⟨r, u, e4, e5, hru⟩ : ∃ r u, lpN (Sg_mostTelling_L8 S2) FU (mI, nI 0) = some r ∧ lpN (Md_tells_L34 (nI n) (nI ln) T2) FU (mI, nI 0, nI 0) = some u ∧ ((r = mI ∧ u.1 = mI) ∨ ∃ b, b < ln ∧ r = nI b ∧ u.1 = nI b ∧ u.2 = nI (nwM (O b) 8)) := by
          by_cases hc : 0 < C
          · refine lp_rel (fun i (s : Int32 × Int32) (t : Int32 × Int32 × Int32) => s.2 = nI i ∧ t.2.2 = nI i ∧ ((s.1 = mI ∧ t.1 = mI) ∨ ∃ b, b < ln ∧ s.1 = nI b ∧ t.1 = nI b ∧ t.2.1 = nI (nwM (O b) 8))) ln (by omega) ⟨rfl, rfl, Or.inl ⟨rfl, rfl⟩⟩ (fun i s t hi hs => ?_) (fun s t hs => ?_)
            · obtain ⟨s1, s2⟩ := s
              obtain ⟨t1, t2, t3⟩ := t
              obtain ⟨g1, g2, g3⟩ := hs
              have g1 : s2 = nI i := g1
              have g2 : t3 = nI i := g2
              subst g1 g2
              have hMi := hM i
              have hOi := hOx hc i
              have c0 : ¬ gi S2 42 7 ≤ nI i := by rw [f7, q_le (by omega) (by omega)]; omega
              have c3 : ¬ nI ln ≤ nI i := by rw [q_le (by omega) (by omega)]; omega
              have c4 : ¬ gi T2 53 52 ≤ 0 := by rw [d2]; exact nw_pos hc (by omega)
              unfold Sg_mostTelling_L8 Md_tells_L34 Sg_mostTelling_44_L8 Sg_mostTelling_42_L8 Md_tells_105_L34 Md_tells_98_L34 Sg_mostTelling_44_L8 Md_tells_105_L34
              simp only []
              rw [if_neg c0, mo i hi, q_bind, if_neg (nw_pos hOi (by omega)), if_neg c3, if_neg c4, show (0 : Int32) = nI 0 from rfl, (mo2 i hi).2 _ _, q_bind]
              rcases g3 with ⟨g3, g4⟩ | ⟨b, hb, g3, g4, g5⟩
              · have g3 : s1 = mI := g3
                have g4 : t1 = mI := g4
                subst g3 g4
                rw [if_pos (show mI = -1 from rfl), q_bind, if_pos (show mI = -1 from rfl)]
                exact Or.inl ⟨(nI i, nI (i + 1)), (nI i, nI (nwM (O i) 8), nI (i + 1)), by rw [show (1 : Int32) = nI 1 from rfl, q_add], by rw [show (1 : Int32) = nI 1 from rfl, q_add], rfl, rfl, Or.inr ⟨i, hi, rfl, rfl, rfl⟩⟩
              · have g3 : s1 = nI b := g3
                have g4 : t1 = nI b := g4
                have g5 : t2 = nI (nwM (O b) 8) := g5
                subst g3 g4 g5
                have hMb := hM b
                have hm1 : ¬ nI b = -1 := fun y => (q_eqm (by omega)).mp y
                rw [if_neg hm1, mo b hb, q_bind, q_bind, if_neg hm1]
                by_cases y : nwM (O b) 8 ≤ nwM (O i) 8
                · have y' : nI (nwM (O b) 8) ≤ nI (nwM (O i) 8) := (q_le (by omega) (by omega)).mpr y
                  rw [if_pos y', if_pos y']
                  exact Or.inl ⟨(nI b, nI (i + 1)), (nI b, nI (nwM (O b) 8), nI (i + 1)), by rw [show (1 : Int32) = nI 1 from rfl, q_add], by rw [show (1 : Int32) = nI 1 from rfl, q_add], rfl, rfl, Or.inr ⟨b, hb, rfl, rfl, rfl⟩⟩
                · have y' : ¬ nI (nwM (O b) 8) ≤ nI (nwM (O i) 8) := fun x => y ((q_le (by omega) (by omega)).mp x)
                  rw [if_neg y', if_neg y']
                  exact Or.inl ⟨(nI i, nI (i + 1)), (nI i, nI (nwM (O i) 8), nI (i + 1)), by rw [show (1 : Int32) = nI 1 from rfl, q_add], by rw [show (1 : Int32) = nI 1 from rfl, q_add], rfl, rfl, Or.inr ⟨i, hi, rfl, rfl, rfl⟩⟩
            · obtain ⟨s1, s2⟩ := s
              obtain ⟨t1, t2, t3⟩ := t
              obtain ⟨g1, g2, g3⟩ := hs
              have g1 : s2 = nI ln := g1
              have g2 : t3 = nI ln := g2
              subst g1 g2
              have c0 : gi S2 42 7 ≤ nI ln := by rw [f7]; exact (q_le (by omega) (by omega)).mpr (Nat.le_refl _)
              have c3 : nI ln ≤ nI ln := (q_le (by omega) (by omega)).mpr (Nat.le_refl _)
              refine ⟨s1, (t1, t2), ?_, ?_, g3⟩
              · unfold Sg_mostTelling_L8
                exact if_pos c0
              · unfold Md_tells_L34
                exact if_pos c3
          · have hc0 : C = 0 := by omega
            refine ⟨mI, (mI, nI 0), ?_, ?_, Or.inl ⟨rfl, rfl⟩⟩
            · refine lpN_run0 (fun i => (mI, nI i)) ln (by omega) (fun i hi => ?_) ?_ rfl
              · show Sg_mostTelling_L8 S2 (mI, nI i) = _
                have hMi := hM i
                have c0 : ¬ gi S2 42 7 ≤ nI i := by rw [f7, q_le (by omega) (by omega)]; omega
                unfold Sg_mostTelling_L8 Sg_mostTelling_44_L8
                simp only []
                rw [if_neg c0, mo i hi, q_bind, if_pos (show nI (nwM (O i) 8) ≤ 0 by rw [show nwM (O i) 8 = 0 by omega]; decide), show (1 : Int32) = nI 1 from rfl, q_add]
              · show Sg_mostTelling_L8 S2 (mI, nI ln) = _
                unfold Sg_mostTelling_L8
                exact if_pos (by rw [f7]; exact (q_le (by omega) (by omega)).mpr (Nat.le_refl _))
            · refine lpN_run0 (fun _ => (mI, nI 0, nI 0)) 0 (by omega) (fun i hi => absurd hi (Nat.not_lt_zero i)) ?_ rfl
              have c3 : ¬ nI ln ≤ nI 0 := by rw [q_le (by omega) (by omega)]; omega
              show Md_tells_L34 (nI n) (nI ln) T2 (mI, nI 0, nI 0) = _
              unfold Md_tells_L34
              simp only []
              rw [if_neg c3, if_pos (by rw [d2, hc0]; decide)]
        have e6 : Sg_mostTelling S1 = some (r, S2) := by
          unfold Sg_mostTelling
          rw [e3, q_bind]
          show (lpN (Sg_mostTelling_L8 S2) FU (mI, nI 0)).bind _ = _
          rw [e4]; rfl
        show ∃ q p, (Sg_mostTelling S1).bind _ = _ ∧ (lpN (Md_tells_L34 (nI n) (nI ln) T2) FU (mI, nI 0, nI 0)).bind _ = _ ∧ _
        rw [e6, e5, q_bind, q_bind]
        obtain ⟨u1', u2'⟩ := u
        rcases hru with ⟨rfl, g⟩ | ⟨b, hb, rfl, g, g5⟩
        · have g : u1' = mI := g
          subst g
          refine ⟨(mI, S2), (mI, T2), ?_, ?_, rfl, f1.1, d1⟩
          · by_cases y : nI n = 0
            · rw [if_pos y]
            · rw [if_neg y]; exact if_pos rfl
          · exact if_pos rfl
        · have g : u1' = nI b := g
          have g5 : u2' = nI (nwM (O b) 8) := g5
          subst g g5
          have hm1 : ¬ nI b = -1 := fun y => (q_eqm (by omega)).mp y
          by_cases y : nI n = 0
          · refine ⟨(nI b, S2), (nI b, T2), ?_, ?_, rfl, f1.1, d1⟩
            · rw [if_pos y]
            · show (if nI b = -1 then _ else if nI n = 0 then some (nI b, T2) else _) = _
              rw [if_neg hm1, if_pos y]
          · refine ⟨(nI (nwM (O b) 8), S2), (nI (nwM (O b) 8), T2), ?_, ?_, rfl, f1.1, d1⟩
            · rw [if_neg y]
              show (if nI b = -1 then some (nI b, S2) else (Sg_mostOften (nI b) S2).bind _) = _
              rw [if_neg hm1, mo b hb]; rfl
            · show (if nI b = -1 then _ else if nI n = 0 then _ else some (nI (nwM (O b) 8), T2)) = _
              rw [if_neg hm1, if_neg y]
end NU
