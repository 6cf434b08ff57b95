/-! ===== go, years ===== -/
section PY
variable {N K F R w : Nat} {U : List Nat} {X : List (List Cl)} {T S : Sm}
theorem pass_ok (h : RelP N K F R U X w T S) {hh : Nat} (e5 : gi S 25 5 = nI hh) (h9 : hh < 9999) (v1 v2 : Int32) (hl : v2 = 0 ∨ gl S 40 6 = gl T 53 35) : ∃ T' S', Md_pass v1 v2 T = some T' ∧ Hr_passHour_7 v1 v2 S = some S' ∧ RelP N K F R U X w T' S' ∧ S'.1 31 = S.1 31 ∧ gi S' 25 5 = nI (hh + 1) ∧ gi T' 70 137 = nI (hh + 1) ∧ (gl S 40 6 = gl T 53 35 → gl S' 40 6 = gl T' 53 35) := by
  obtain ⟨S1, b1, b2, b3, b4⟩ : ∃ S1, lpN (Hr_comeOut_L2 v2) FU (0, S) = some S1 ∧ (∀ b, b ≠ 41 → S1.1 b = S.1 b) ∧ S1.2 = S.2 ∧ ∀ m, m < 8 → gi S1 41 m = nI 0 := by
    refine lp_inv (fun i (q : Int32 × Sm) => q.1 = nI i ∧ (∀ b, b ≠ 41 → q.2.1 b = S.1 b) ∧ q.2.2 = S.2 ∧ ∀ m, m < i → gi q.2 41 m = nI 0) 8 (by omega) ⟨rfl, fun _ _ => rfl, rfl, fun m z => absurd z (by omega)⟩ (fun i q hi hq => ?_) (fun q hq => ?_)
    · obtain ⟨k', S2⟩ := q
      obtain ⟨(e4 : k' = _), g1, g2, g3⟩ := hq
      subst e4
      have c8 : ¬ (8 : Int32) ≤ nI i := fun z => by have := (q_le (a := 8) (by omega) (by omega)).mp z; omega
      refine Or.inl ⟨(nI (i + 1), si S2 41 i (nI 0)), ?_, rfl, fun b hb => (si_row hb).trans (g1 b hb), g2, fun m hm => ?_⟩
      · unfold Hr_comeOut_L2
        dsimp only
        rw [if_neg c8, q_pu (by omega) (by omega), q_app, show nI i + 1 = nI (i + 1) from q_add i 1]; rfl
      · by_cases z : m = i
        · subst z; exact tb_h
        · exact (tb_n (fun e => z e.2)).trans (g3 m (by omega))
    · obtain ⟨k', S2⟩ := q
      obtain ⟨(e4 : k' = _), g1, g2, g3⟩ := hq
      subst e4
      exact ⟨S2, rfl, g1, g2, g3⟩
  obtain ⟨T1, d1, d2, d3, d4⟩ : ∃ T1, lpN (Md_pass_L2 v1 v2) FU (0, T) = some T1 ∧ (∀ b, b ≠ 74 → T1.1 b = T.1 b) ∧ T1.2 = T.2 ∧ ∀ m, m < 8 → gi T1 74 m = nI 0 := by
    refine lp_inv (fun i (q : Int32 × Sm) => q.1 = nI i ∧ (∀ b, b ≠ 74 → q.2.1 b = T.1 b) ∧ q.2.2 = T.2 ∧ ∀ m, m < i → gi q.2 74 m = nI 0) 8 (by omega) ⟨rfl, fun _ _ => rfl, rfl, fun m z => absurd z (by omega)⟩ (fun i q hi hq => ?_) (fun q hq => ?_)
    · obtain ⟨k', S2⟩ := q
      obtain ⟨(e4 : k' = _), g1, g2, g3⟩ := hq
      subst e4
      have c8 : ¬ (8 : Int32) ≤ nI i := fun z => by have := (q_le (a := 8) (by omega) (by omega)).mp z; omega
      refine Or.inl ⟨(nI (i + 1), si S2 74 i (nI 0)), ?_, rfl, fun b hb => (si_row hb).trans (g1 b hb), g2, fun m hm => ?_⟩
      · have ib : inb (nI i) 8 := nI_in (by omega) (by omega)
        unfold Md_pass_L2
        dsimp only
        rw [if_neg c8, if_pos ib, q_ix (by omega), show nI i + 1 = nI (i + 1) from q_add i 1]; rfl
      · by_cases z : m = i
        · subst z; exact tb_h
        · exact (tb_n (fun e => z e.2)).trans (g3 m (by omega))
    · obtain ⟨k', S2⟩ := q
      obtain ⟨(e4 : k' = _), g1, g2, g3⟩ := hq
      subst e4
      exact ⟨S2, rfl, g1, g2, g3⟩
  obtain ⟨hD, n, hr, q, ho⟩ := h.2.2.2.1
  have ehr : hr = hh := (q_eq (by have := ho.2.2.1; omega) (by omega)).mp (ho.2.2.2.2.2.1.2.symm.trans e5)
  subst ehr
  have n8 := ho.2.1
  have p0 : PsR N K n hr q 0 T S T1 S1 := by
    refine ⟨fun b _ h4 => b2 b h4, b2 27 (by omega), fun b _ h2 => d2 b h2, fun k _ => congrFun (d2 70 (by omega)) k, fun m hm => (b4 m hm).trans (d4 m hm).symm, fun hg => ?_, ?_⟩
    · show S1.2 40 6 = T1.2 53 35
      rw [b3, d3]; exact hg
    · rw [d2 70 (by omega), b2 26 (by omega), b2 28 (by omega), b2 29 (by omega), b2 25 (by omega)]
      obtain ⟨o1, o2, o3, o4, o5⟩ := ho
      exact ⟨o1, o2, h9, o4, o5⟩
  obtain ⟨S2, T2, f1, f2, ⟨q2, e2, he2, p2⟩, x2⟩ := ps_outs h p0 v1 v2 hl
  obtain ⟨S3, T3, f3, f4, p3, x3⟩ : ∃ S3 T3, (if v1 = 0 then (Hr_goIn S2).bind fun q4 => Hr_passHour_20 q4 else Hr_passHour_20 S2) = Hr_passHour_20 S3 ∧ lpN (Md_pass_L116 v1) FU (0, T2) = some T3 ∧ PsR N K n hr q2 e2 T S T3 S3 ∧ ∀ r, r < n → T3.1 70 (88 + 6 * r + 5) ≠ nI hr := by
    by_cases y : v1 = 0
    · subst y
      obtain ⟨S3, T3, g1, g2, g3, g4⟩ := ps_ins h p2 x2
      refine ⟨S3, T3, ?_, g2, g3, g4⟩
      unfold Hr_goIn
      rw [if_pos rfl, g1]; rfl
    · exact ⟨S2, T2, if_neg y, ps_fog p2 y, p2, x2⟩
  obtain ⟨S4, T4, f5, f6, p4, x4⟩ := ps_meets p3 x3
  obtain ⟨r1, r2, r3, r4, r5, r6, pn⟩ := p4
  have e55 : gi S4 25 5 = nI hr := pn.2.2.2.2.2.1.2
  have e137 : gi T4 70 137 = nI hr := pn.2.2.2.2.2.1.1
  have ha : nI hr + 1 = nI (hr + 1) := q_add hr 1
  refine ⟨si T4 70 137 (nI (hr + 1)), si S4 25 5 (nI (hr + 1)), ?_, ?_, h.now (fun b hb h4 => ?_) (fun b h1 h2 => ?_) ⟨fun p => ?_, n, hr + 1, q2, ?_⟩, ?_, tb_h, tb_h, r6⟩
  · unfold Md_pass
    rw [d1, q_bind, f2, q_bind, f4, q_bind, f6, q_bind, e137, ha]
  · unfold Hr_passHour_7 Hr_comeOut
    rw [b1, q_bind, f1, q_bind, q_bind, f3]
    unfold Hr_passHour_20 Hr_meet Mo_passHour
    rw [f5, q_bind, q_bind, e55, ha, q_app]
  · exact (si_row (by omega)).trans (r1 b hb h4)
  · exact (si_row h1).trans (r3 b h1 h2)
  · refine DkR.ext (hD p) (fun k hk => ?_) (fun k _ => ?_) fun _ _ => rfl
    · exact (if_neg (fun e => absurd e.2 (by omega))).trans (r4 k hk)
    · exact congrFun ((si_row (by omega)).trans r2) k
  · exact pn.fin (by omega) x4 (fun k hk => if_neg fun e => hk e.2) tb_h (fun k hk => if_neg fun e => hk e.2) tb_h
  · exact (si_row (by omega)).trans (r1 31 (by omega) (by omega))
theorem hoursC (h : RelP N K F R U X w T S) (v : Int32) : (Hr_canPass v S = nI 0 ∧ Md_areHours v T = nI 0) ∨ ∃ k hh, k ≤ 200 ∧ v = nI k ∧ gi S 25 5 = nI hh ∧ gi T 70 137 = nI hh ∧ hh + k ≤ 9999 ∧ Hr_canPass v S = nI 1 ∧ Md_areHours v T = nI 1 := by
  obtain ⟨-, n, hr, q, ho⟩ := h.2.2.2.1
  have e5 : gi S 25 5 = nI hr := ho.2.2.2.2.2.1.2
  have e137 : gi T 70 137 = nI hr := ho.2.2.2.2.2.1.1
  have h9 := ho.2.2.1
  have z0 : (0 : Int32) &&& 1 = nI 0 := by decide
  have z1 : (1 : Int32) &&& 1 = nI 1 := by decide
  unfold Hr_canPass Md_areHours Hr_canPass_41 Hr_canPass_42 Md_areHours_40 Md_areHours_41 Mo_hour
  rw [e5, e137, z0, z1]
  rcases toldC h.1 with ⟨-, a, b⟩ | ⟨hN, a, b, c⟩
  · rw [a, b]; exact Or.inl ⟨rfl, rfl⟩
  · have b8 := h.1.2.2.2.2.2.2.1
    rw [a, b, if_neg (show ¬ nI 1 = 0 by decide), if_neg (show ¬ nI N ≤ 0 from fun z => by have := (q_le (b := 0) (by omega) (by omega)).mp z; omega)]
    rcases rngG v 1 200 (by omega) (by omega) with ⟨z, f⟩ | ⟨k, hk1, hk, rfl, f⟩
    · rw [show Md_in v 1 200 = nI 0 from f, if_pos (show nI 0 = 0 from rfl)]
      refine Or.inl ⟨?_, rfl⟩
      rcases z with z | z
      · rw [if_pos (show v < 1 from z)]
      · by_cases y : v < 1
        · rw [if_pos y]
        · rw [if_neg y, if_pos (show (200 : Int32) < v from z)]
    · rw [show Md_in (nI k) 1 200 = nI 1 from f, if_neg (show ¬ nI 1 = 0 by decide), if_neg (show ¬ nI k < 1 from nI_nlt (a := k) (b := 1) hk1 (by omega)), if_neg (show ¬ (200 : Int32) < nI k from nI_nlt (a := 200) (b := k) hk (by omega)), q_add]
      by_cases y : hr + k ≤ 9999
      · rw [if_neg (show ¬ (9999 : Int32) < nI (hr + k) from nI_nlt (a := 9999) (b := hr + k) y (by omega))]
        exact Or.inr ⟨k, hr, hk, rfl, rfl, rfl, y, rfl, rfl⟩
      · rw [if_pos (show (9999 : Int32) < nI (hr + k) from nI_lt (a := 9999) (by omega) (by omega))]
        exact Or.inl ⟨rfl, rfl⟩
theorem op_go (h : RelP N K F R U X w T S) (hw : w ≤ 1000) (v : Int32) : KpOp N K F R U X w S (Dk_go v S) (Md_go v T) := by
  unfold Dk_go Md_go
  rcases hoursC h v with ⟨a, b⟩ | ⟨k, hh, hk, rfl, e5, e137, h9, a, b⟩
  · rw [a, b]; exact kp_nil h
  · rw [a, b, if_neg (show ¬ nI 1 = 0 by decide), if_neg (show ¬ nI 1 = 0 by decide)]
    suffices hl : ∃ S' T', lpN (Hr_hand_L2 (nI k)) FU (0, S) = some S' ∧ lpN (Md_go_L12 (nI k)) FU (0, T) = some T' ∧ gi S' 25 5 = gi T' 70 137 ∧ gNs S ≤ gNs S' ∧ RelP N K F R U X w T' S' by
      obtain ⟨S', T', f1, f2, f3, f4, f5⟩ := hl
      refine ⟨(gi S' 25 5, S'), (gi T' 70 137, T'), ?_, ?_, f3, f4, f5⟩
      · unfold Hr_passByHand Mo_hour; rw [f1]; rfl
      · rw [f2]; rfl
    refine lp_rel (Q := fun (S' : Sm) (T' : Sm) => gi S' 25 5 = gi T' 70 137 ∧ gNs S ≤ gNs S' ∧ RelP N K F R U X w T' S') (fun i (s t : Int32 × Sm) => s.1 = nI i ∧ t.1 = nI i ∧ gi s.2 25 5 = nI (hh + i) ∧ gi t.2 70 137 = nI (hh + i) ∧ gNs S ≤ gNs s.2 ∧ RelP N K F R U X w t.2 s.2) k (by omega) ⟨rfl, rfl, e5, e137, Nat.le_refl _, h⟩ (fun i s t hi hq => ?_) (fun s t hq => ?_)
    · obtain ⟨s1, S1⟩ := s
      obtain ⟨t1, T1⟩ := t
      obtain ⟨(a1 : s1 = nI i), (a2 : t1 = nI i), (a3 : gi S1 25 5 = _), (a4 : gi T1 70 137 = _), (a5 : gNs S ≤ gNs S1), (a6 : RelP N K F R U X w T1 S1)⟩ := hq
      subst a1 a2
      obtain ⟨T2, t1, t2, rel, g, k1, k2, k3, k4, k5⟩ := keep_ok a6 hw
      have e5' : gi (kpS S1) 25 5 = nI (hh + i) := (congrFun (k1 25 (by omega) (by omega) (by omega)) 5).trans a3
      obtain ⟨T3, S3, c1, c2, c3, c4, c5, c6, -⟩ := pass_ok rel e5' (by omega) 0 0 (Or.inl rfl)
      have cn : ¬ nI k ≤ nI i := by rw [q_le (by omega) (by omega)]; omega
      refine Or.inl ⟨(nI (i + 1), S3), (nI (i + 1), T3), ?_, ?_, rfl, rfl, c5, c6, ?_, c3⟩
      · unfold Hr_hand_L2 Hr_passHour
        dsimp only
        rw [if_neg cn, t2, q_bind, c2]
        show (some (f31 ((kpS S1).1 31) S3)).bind _ = _
        rw [f31_id c4, q_bind, show nI i + 1 = nI (i + 1) from q_add i 1]
      · unfold Md_go_L12
        dsimp only
        rw [if_neg cn, t1, q_bind, c1, q_bind, show nI i + 1 = nI (i + 1) from q_add i 1]
      · show gNs S ≤ ix (S3.1 31 40)
        rw [c4]; exact Nat.le_trans a5 g
    · obtain ⟨s1, S1⟩ := s
      obtain ⟨t1, T1⟩ := t
      obtain ⟨(a1 : s1 = nI k), (a2 : t1 = nI k), (a3 : gi S1 25 5 = _), (a4 : gi T1 70 137 = _), (a5 : gNs S ≤ gNs S1), (a6 : RelP N K F R U X w T1 S1)⟩ := hq
      subst a1 a2
      refine ⟨S1, T1, ?_, ?_, a3.trans a4.symm, a5, a6⟩
      · unfold Hr_hand_L2; exact if_pos (nI_le (Nat.le_refl _) (by omega))
      · unfold Md_go_L12; exact if_pos (nI_le (Nat.le_refl _) (by omega))
theorem op_years (h : RelP N K F R U X w T S) (hw : w ≤ 1000) (v : Int32) (z : Int64) : KpOp N K F R U X w S (Dk_years v z S) (Md_years v z T) := by
  unfold Dk_years Md_years
  rcases hoursC h v with ⟨a, b⟩ | ⟨k, hh, hk, rfl, e5, e137, h9, a, b⟩
  · rw [a, b]; exact kp_nil h
  · rw [a, b, if_neg (show ¬ nI 1 = 0 by decide), if_neg (show ¬ nI 1 = 0 by decide)]
    suffices hl : ∃ S' T', lpN (Hr_draws_L8 (nI k)) FU (0, sl S 40 6 z) = some S' ∧ lpN (Md_years_L18 (nI k)) FU (0, sl T 53 35 z) = some T' ∧ gi S' 25 5 = gi T' 70 137 ∧ gNs S ≤ gNs S' ∧ RelP N K F R U X w T' S' by
      obtain ⟨S', T', f1, f2, f3, f4, f5⟩ := hl
      refine ⟨(gi S' 25 5, S'), (gi T' 70 137, T'), ?_, ?_, f3, f4, f5⟩
      · unfold Hr_passByDraws Mo_hour; rw [f1]; rfl
      · rw [f2]; rfl
    have h0 : RelP N K F R U X w (sl T 53 35 z) (sl S 40 6 z) := h.same ((SamS.rfl S).sl) ((SamT.rfl T).sl)
    have z0 : gl (sl S 40 6 z) 40 6 = gl (sl T 53 35 z) 53 35 := gl_h.trans gl_h.symm
    refine lp_rel (Q := fun (S' : Sm) (T' : Sm) => gi S' 25 5 = gi T' 70 137 ∧ gNs S ≤ gNs S' ∧ RelP N K F R U X w T' S') (fun i (s t : Int32 × Sm) => s.1 = nI i ∧ t.1 = nI i ∧ gi s.2 25 5 = nI (hh + i) ∧ gi t.2 70 137 = nI (hh + i) ∧ gNs S ≤ gNs s.2 ∧ gl s.2 40 6 = gl t.2 53 35 ∧ RelP N K F R U X w t.2 s.2) k (by omega) ⟨rfl, rfl, e5, e137, Nat.le_refl _, z0, h0⟩ (fun i s t hi hq => ?_) (fun s t hq => ?_)
    · obtain ⟨s1, S1⟩ := s
      obtain ⟨t1, T1⟩ := t
      obtain ⟨(a1 : s1 = nI i), (a2 : t1 = nI i), (a3 : gi S1 25 5 = _), (a4 : gi T1 70 137 = _), (a5 : gNs S ≤ gNs S1), (a7 : gl S1 40 6 = gl T1 53 35), (a6 : RelP N K F R U X w T1 S1)⟩ := hq
      subst a1 a2
      have cn : ¬ nI k ≤ nI i := by rw [q_le (by omega) (by omega)]; omega
      have n100 : ¬ Int32.toInt64 100 = (0 : Int64) := t64_0 (N := 100) (by omega) (by omega)
      have n1 : ¬ (100 : Int32) ≤ 0 := by decide
      unfold Hr_draws_L8 Md_years_L18
      dsimp only
      rw [if_neg cn, if_neg cn]
      unfold Hr_draw Hr_draw_35
      rw [if_neg n1, if_neg n100, q_bind]
      generalize hL : gl S1 40 6 * 6364136223846793005 + 1442695040888963407 = L
      have g1 : gl (sl S1 40 6 L) 40 6 = L := gl_h
      dsimp only
      rw [g1]
      have a6' : RelP N K F R U X w T1 (sl S1 40 6 L) := a6.same ((SamS.rfl S1).sl) (SamT.rfl T1)
      obtain ⟨T2, t1, t2, rel, g, k1, k2, k3, k4, k5⟩ := keep_ok a6' hw
      have e35 : gl T2 53 35 = gl S1 40 6 := (congrFun (congrFun k4 53) 35).trans a7.symm
      have g2 : gl (sl T2 53 35 L) 53 35 = L := gl_h
      have dT : Md_draw 100 T2 = some (Int64.toInt32 (lRem (lUsh L 33) (Int32.toInt64 100)), sl T2 53 35 L) := by
        unfold Md_draw
        rw [if_neg n100, e35, hL, g2]
      rw [t1, q_bind, dT, q_bind]
      generalize Int64.toInt32 (lRem (lUsh L 33) (Int32.toInt64 100)) = x
      have rel' : RelP N K F R U X w (sl T2 53 35 L) (kpS (sl S1 40 6 L)) := rel.same (SamS.rfl _) ((SamT.rfl T2).sl)
      have e5' : gi (kpS (sl S1 40 6 L)) 25 5 = nI (hh + i) := (congrFun (k1 25 (by omega) (by omega) (by omega)) 5).trans a3
      have hgl : gl (kpS (sl S1 40 6 L)) 40 6 = gl (sl T2 53 35 L) 53 35 := (congrFun (k5 40 (by omega)) 6).trans (g1.trans g2.symm)
      have fog : gi (sl T2 53 35 L) 53 32 = gi (sl S1 40 6 L) 40 5 := by
        obtain ⟨f, -, f1, f2⟩ := a6.2.2.2.2.2.2.2.2.2.1
        exact (k3 32 (by omega)).trans (f1.trans f2.symm)
      have hour : gi (sl T2 53 35 L) 70 137 = Mo_hour (sl S1 40 6 L) := (congrFun (k2 70 (by omega) (by omega)) 137).trans (a4.trans a3.symm)
      obtain ⟨T3, S3, c1, c2, c3, c4, c5, c6, c7⟩ := pass_ok rel' e5' (by omega) (fogOf x (sl S1 40 6 L)) (dawnOf (sl S1 40 6 L)) (Or.inr hgl)
      refine Or.inl ⟨(nI (i + 1), S3), (nI (i + 1), T3), ?_, ?_, rfl, rfl, c5, c6, ?_, c7 hgl, c3⟩
      · unfold Hr_passHour
        rw [t2, q_bind, c2]
        show (some (f31 ((kpS (sl S1 40 6 L)).1 31) S3)).bind _ = _
        rw [f31_id c4, q_bind, show nI i + 1 = nI (i + 1) from q_add i 1]
      · have e : (if gi (sl T2 53 35 L) 53 32 ≤ x then Md_years_46_L18 (nI k) (nI i) 0 (sl T2 53 35 L) else Md_years_46_L18 (nI k) (nI i) 1 (sl T2 53 35 L)) = (Md_pass (fogOf x (sl S1 40 6 L)) (dawnOf (sl S1 40 6 L)) (sl T2 53 35 L)).bind fun q3 => some (Sum.inl (nI i + 1, q3)) := by
          unfold fogOf dawnOf Md_years_46_L18 Md_years_72_L18
          rw [fog, hour]
          by_cases y : gi (sl S1 40 6 L) 40 5 ≤ x
          · rw [if_pos y, if_pos y]
            by_cases y2 : iRem (Mo_hour (sl S1 40 6 L)) 24 = 6
            · rw [if_pos y2, if_pos y2]
            · rw [if_neg y2, if_neg y2]
          · rw [if_neg y, if_neg y]
            by_cases y2 : iRem (Mo_hour (sl S1 40 6 L)) 24 = 6
            · rw [if_pos y2, if_pos y2]
            · rw [if_neg y2, if_neg y2]
        rw [e, c1, q_bind, show nI i + 1 = nI (i + 1) from q_add i 1]
      · show gNs S ≤ ix (S3.1 31 40)
        rw [c4]; exact Nat.le_trans a5 g
    · obtain ⟨s1, S1⟩ := s
      obtain ⟨t1, T1⟩ := t
      obtain ⟨(a1 : s1 = nI k), (a2 : t1 = nI k), (a3 : gi S1 25 5 = _), (a4 : gi T1 70 137 = _), (a5 : gNs S ≤ gNs S1), -, (a6 : RelP N K F R U X w T1 S1)⟩ := hq
      subst a1 a2
      refine ⟨S1, T1, ?_, ?_, a3.trans a4.symm, a5, a6⟩
      · unfold Hr_draws_L8; exact if_pos (nI_le (Nat.le_refl _) (by omega))
      · unfold Md_years_L18; exact if_pos (nI_le (Nat.le_refl _) (by omega))
end PY
