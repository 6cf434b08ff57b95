/-! ===== a net's text read ===== -/
section NA
variable {n : Nat} {b : Nat → Nat} {T S : Sm}
theorem np_begin (h : LxB n b T S) : ∃ S1 T1, Dr_empty (Tp_rewind S) = some S1 ∧ lpN (Md_readAll_L29 0) FU (0, si (si (si (si (si T 53 3 0) 53 4 ((-1))) 53 21 0) 53 22 0) 53 23 0) = some T1 ∧ SamS S S1 ∧ SamT T T1 ∧ LxO n b 0 T1 S1 ∧ NdO (fun _ => 0) T1 S1 := by
  obtain ⟨S1, e1, s1, s2⟩ : ∃ S1, lpN Dr_empty_L2 FU (0, Tp_rewind S) = some S1 ∧ (∀ i j, i ≠ 16 → S1.1 i j = (Tp_rewind S).1 i j) ∧ ∀ k, k < 4 → gi S1 16 k = nI 0 := by
    refine lp_inv (fun i (q : Int32 × Sm) => q.1 = nI i ∧ (∀ i j, i ≠ 16 → q.2.1 i j = (Tp_rewind S).1 i j) ∧ ∀ k, k < i → gi q.2 16 k = nI 0) 4 (by omega) ⟨rfl, fun _ _ _ => rfl, fun k z => absurd z (by omega)⟩ (fun i q hi hq => ?_) (fun q hq => ?_)
    · obtain ⟨k', S2⟩ := q
      obtain ⟨(e : k' = nI i), g1, g2⟩ := hq
      subst e
      refine Or.inl ⟨(nI (i + 1), si S2 16 i (nI 0)), ?_, rfl, fun i' j hn => (tb_n fun e => hn e.1).trans (g1 i' j hn), fun k hk => ?_⟩
      · unfold Dr_empty_L2
        dsimp only
        rw [if_neg (show ¬ (4 : Int32) ≤ nI i from fun z => by have := (q_le (a := 4) (by omega) (by omega)).mp z; omega), q_pu hi (by omega), q_app, show nI i + 1 = nI (i + 1) from q_add i 1]; rfl
      · by_cases y : k = i
        · rw [y]; exact tb_h
        · exact (tb_n fun e => y e.2).trans (g2 k (by omega))
    · obtain ⟨k', S2⟩ := q
      obtain ⟨(e : k' = nI 4), g1, g2⟩ := hq
      subst e
      exact ⟨S2, rfl, g1, g2⟩
  generalize hT0 : si (si (si (si (si T 53 3 0) 53 4 ((-1))) 53 21 0) 53 22 0) 53 23 0 = T0
  have t53 : ∀ j, j ≠ 3 → j ≠ 4 → j ≠ 21 → j ≠ 22 → j ≠ 23 → gi T0 53 j = gi T 53 j := fun j a b c d e => by
    subst hT0
    rw [tb_n fun x => e x.2, tb_n fun x => d x.2, tb_n fun x => c x.2, tb_n fun x => b x.2, tb_n fun x => a x.2]
  have t3 : gi T0 53 3 = nI 0 := by subst hT0; rw [tb_n fun x => absurd x.2 (by decide), tb_n fun x => absurd x.2 (by decide), tb_n fun x => absurd x.2 (by decide), tb_n fun x => absurd x.2 (by decide)]; exact tb_h
  have t4 : gi T0 53 4 = mI := by subst hT0; rw [tb_n fun x => absurd x.2 (by decide), tb_n fun x => absurd x.2 (by decide), tb_n fun x => absurd x.2 (by decide)]; exact tb_h
  have t21 : gi T0 53 21 = nI 0 := by subst hT0; rw [tb_n fun x => absurd x.2 (by decide), tb_n fun x => absurd x.2 (by decide)]; exact tb_h
  have t22 : gi T0 53 22 = nI 0 := by subst hT0; rw [tb_n fun x => absurd x.2 (by decide)]; exact tb_h
  have t23 : gi T0 53 23 = nI 0 := by subst hT0; exact tb_h
  have to : ∀ i j, i ≠ 53 → T0.1 i j = T.1 i j := fun i j hi => by
    subst hT0
    show gi _ i j = gi T i j
    rw [tb_n fun x => hi x.1, tb_n fun x => hi x.1, tb_n fun x => hi x.1, tb_n fun x => hi x.1, tb_n fun x => hi x.1]
  obtain ⟨T1, e2, u1, u2⟩ : ∃ T1, lpN (Md_readAll_L29 0) FU (0, T0) = some T1 ∧ (∀ i j, i ≠ 64 → T1.1 i j = T0.1 i j) ∧ ∀ s, s < 4 → gi T1 64 s = nI (usN 0 s) := by
    refine lp_inv (fun i (q : Int32 × Sm) => q.1 = nI i ∧ (∀ i j, i ≠ 64 → q.2.1 i j = T0.1 i j) ∧ ∀ s, s < i → gi q.2 64 s = nI (usN 0 s)) 4 (by omega) ⟨rfl, fun _ _ _ => rfl, fun k z => absurd z (by omega)⟩ (fun i q hi hq => ?_) (fun q hq => ?_)
    · obtain ⟨k', S2⟩ := q
      obtain ⟨(e : k' = nI i), g1, g2⟩ := hq
      subst e
      have us : Md_usual 110 (nI i) = nI (usN 0 i) := (t_rng 0 (by omega) i hi).2.2.2.2.2.1
      refine Or.inl ⟨(nI (i + 1), si S2 64 i (nI (usN 0 i))), ?_, rfl, fun i' j hn => (tb_n fun e => hn e.1).trans (g1 i' j hn), fun k hk => ?_⟩
      · unfold Md_readAll_L29
        dsimp only
        rw [if_neg (show ¬ (4 : Int32) ≤ nI i from fun z => by have := (q_le (a := 4) (by omega) (by omega)).mp z; omega), if_pos (nI_in (by omega) (by omega)), q_ix (by omega), us, show nI i + 1 = nI (i + 1) from q_add i 1]
      · by_cases y : k = i
        · rw [y]; exact tb_h
        · exact (tb_n fun e => y e.2).trans (g2 k (by omega))
    · obtain ⟨k', S2⟩ := q
      obtain ⟨(e : k' = nI 4), g1, g2⟩ := hq
      subst e
      exact ⟨S2, rfl, g1, g2⟩
  have r8 : ∀ j, j ≠ 2 → j ≠ 3 → (Tp_rewind S).1 8 j = S.1 8 j := fun j a c => (tb_n fun x => c x.2).trans (tb_n fun x => a x.2)
  have ro : ∀ i j, i ≠ 8 → (Tp_rewind S).1 i j = S.1 i j := fun i j a => (tb_n fun x => a x.1).trans (tb_n fun x => a x.1)
  obtain ⟨h1, h2, h3, h4, h5, h6⟩ := h
  refine ⟨S1, T1, ?_, e2, fun i j hs => ?_, fun i j hs => ?_, ⟨⟨h1, h2, (s1 8 1 (by omega)).trans ((r8 1 (by omega) (by omega)).trans h3), fun i hi => (s1 9 i (by omega)).trans ((ro 9 i (by omega)).trans (h4 i hi)), (u1 53 2 (by omega)).trans ((t53 2 (by omega) (by omega) (by omega) (by omega) (by omega)).trans h5), fun i hi => (u1 54 i (by omega)).trans ((to 54 i (by omega)).trans (h6 i hi))⟩, (s1 8 3 (by omega)).trans tb_h, (u1 53 4 (by omega)).trans t4, (s1 8 2 (by omega)).trans ((tb_n fun x => absurd x.2 (by decide)).trans tb_h), (u1 53 3 (by omega)).trans t3, Nat.zero_le _⟩, ⟨fun k hk => ⟨Nat.zero_le _, s2 k hk⟩, ⟨(u1 53 21 (by omega)).trans t21, (u1 53 22 (by omega)).trans t22, (u1 53 23 (by omega)).trans t23⟩, fun k _ e z => absurd z (Nat.not_lt_zero e), fun _ s hs => u2 s hs⟩⟩
  · unfold Dr_empty
    rw [e1]; rfl
  · by_cases y : i = 16
    · subst y; exact absurd hs (by show ¬ true = false; decide)
    · refine (s1 i j y).trans ?_
      by_cases y8 : i = 8
      · subst y8
        exact r8 j (fun z => by subst z; exact absurd hs (by decide)) (fun z => by subst z; exact absurd hs (by decide))
      · exact ro i j y8
  · by_cases y : i = 64
    · subst y; exact absurd hs (by show ¬ true = false; decide)
    · refine (u1 i j y).trans ?_
      by_cases y8 : i = 53
      · subst y8
        exact t53 j (fun z => by subst z; exact absurd hs (by decide)) (fun z => by subst z; exact absurd hs (by decide)) (fun z => by subst z; exact absurd hs (by decide)) (fun z => by subst z; exact absurd hs (by decide)) (fun z => by subst z; exact absurd hs (by decide))
      · exact to i j y8
theorem np_loop {S1 T1 : Sm} (h : LxO n b 0 T1 S1) (hd : NdO (fun _ => 0) T1 S1) : ∃ S2 T2, lpN Nr_firstFault_L18 FU (1, 0, S1) = some S2 ∧ lpN Md_readAll_L54 FU (0, 1, T1) = some T2 ∧ SamS S1 S2 ∧ SamT T1 T2 ∧ LxB n b T2 S2 ∧ ((∃ m, LxO n b n T2 S2 ∧ NdO m T2 S2) ∨ ∃ p, p ≤ n ∧ NdC S2 ∧ gi S2 8 3 = nI p ∧ (gi T2 53 4 = nI p ∨ (gi T2 53 4 = mI ∧ gi T2 53 3 = nI p ∧ LxN n b p ∧ p < n))) := by
  have n240 := h.1.1
  refine lp_rel (Q := fun (S2 T2 : Sm) => SamS S1 S2 ∧ SamT T1 T2 ∧ LxB n b T2 S2 ∧ ((∃ m, LxO n b n T2 S2 ∧ NdO m T2 S2) ∨ ∃ p, p ≤ n ∧ NdC S2 ∧ gi S2 8 3 = nI p ∧ (gi T2 53 4 = nI p ∨ (gi T2 53 4 = mI ∧ gi T2 53 3 = nI p ∧ LxN n b p ∧ p < n)))) (fun it (s t : Int32 × Int32 × Sm) => s.2.1 = nI it ∧ s.1 = t.2.1 ∧ SamS S1 s.2.2 ∧ SamT T1 t.2.2 ∧ LxB n b t.2.2 s.2.2 ∧ ((s.1 = nI 1 ∧ ∃ i m, it ≤ i ∧ LxO n b i t.2.2 s.2.2 ∧ NdO m t.2.2 s.2.2 ∧ t.1 = nI (m 0)) ∨ (s.1 = nI 0 ∧ ((∃ m, LxO n b n t.2.2 s.2.2 ∧ NdO m t.2.2 s.2.2) ∨ ∃ p, p ≤ n ∧ NdC s.2.2 ∧ gi s.2.2 8 3 = nI p ∧ (gi t.2.2 53 4 = nI p ∨ (gi t.2.2 53 4 = mI ∧ gi t.2.2 53 3 = nI p ∧ LxN n b p ∧ p < n)))))) 241 (by omega) ⟨rfl, rfl, SamS.rfl S1, SamT.rfl T1, h.1, Or.inl ⟨rfl, 0, fun _ => 0, Nat.le_refl _, h, hd, rfl⟩⟩ (fun it s t hi hq => ?_) (fun s t hq => ?_)
  · obtain ⟨s1, s2, S2⟩ := s
    obtain ⟨t1, t2, T2⟩ := t
    obtain ⟨(e2 : s2 = nI it), (e1 : s1 = t2), (sS : SamS S1 S2), (sT : SamT T1 T2), (hB : LxB n b T2 S2), hq⟩ := hq
    subst e2 e1
    rcases hq with ⟨(f1 : s1 = nI 1), i, m, hii, (hO : LxO n b i T2 S2), (hD : NdO m T2 S2), (f2 : t1 = nI (m 0))⟩ | ⟨(f1 : s1 = nI 0), hq⟩
    · subst f1 f2
      obtain ⟨g, t, T3, S3, r1, r2, q1, q2, q3, q4⟩ := nr_turn hO hD (it := it) (by omega)
      refine Or.inl ⟨_, _, r1, r2, rfl, rfl, sS.trans q1, sT.trans q2, q3, ?_⟩
      rcases q4 with ⟨g1, i', m', x1, x2, x3, x4⟩ | ⟨g1, m', x2, x3⟩ | ⟨g1, x⟩
      · exact Or.inl ⟨g1, i', m', by omega, x2, x3, x4⟩
      · exact Or.inr ⟨g1, Or.inl ⟨m', x2, x3⟩⟩
      · exact Or.inr ⟨g1, Or.inr x⟩
    · subst f1
      refine Or.inr ⟨S2, T2, ?_, ?_, sS, sT, hB, hq⟩
      · unfold Nr_firstFault_L18
        dsimp only
        rw [if_neg (show ¬ (240 : Int32) < nI it from nI_nlt (a := 240) (b := it) (by omega) (by omega)), if_pos (show nI 0 = 0 from rfl)]
      · unfold Md_readAll_L54
        exact if_pos (show nI 0 = 0 from rfl)
  · obtain ⟨s1, s2, S2⟩ := s
    obtain ⟨t1, t2, T2⟩ := t
    obtain ⟨(e2 : s2 = nI 241), (e1 : s1 = t2), (sS : SamS S1 S2), (sT : SamT T1 T2), (hB : LxB n b T2 S2), hq⟩ := hq
    subst e2 e1
    rcases hq with ⟨-, i, m, hii, hO, -⟩ | ⟨(f1 : s1 = nI 0), hq⟩
    · have := hO.2.2.2.2.2
      omega
    · subst f1
      refine ⟨S2, T2, ?_, ?_, sS, sT, hB, hq⟩
      · unfold Nr_firstFault_L18
        exact if_pos (show (240 : Int32) < nI 241 by decide)
      · unfold Md_readAll_L54
        exact if_pos (show nI 0 = 0 from rfl)
theorem st_us (S : Sm) : ∃ S', Nr_setUsual 0 S = some S' ∧ (∀ s, s < 4 → gi S' 19 s = nI (usN 0 s)) ∧ ∀ i j, i ≠ 19 → S'.1 i j = S.1 i j := by
  have rng := t_rng 0 (by omega)
  suffices hS : ∃ S', lpN (Nr_setUsual_L2 0) FU (0, S) = some S' ∧ (∀ s, s < 4 → gi S' 19 s = nI (usN 0 s)) ∧ ∀ i j, i ≠ 19 → S'.1 i j = S.1 i j by
    obtain ⟨S', e, h1, h2⟩ := hS
    refine ⟨S', ?_, h1, h2⟩
    unfold Nr_setUsual
    rw [e]; rfl
  refine lp_inv (fun i (q : Int32 × Sm) => q.1 = nI i ∧ (∀ s, s < i → gi q.2 19 s = nI (usN 0 s)) ∧ ∀ i' j, i' ≠ 19 → q.2.1 i' j = S.1 i' j) 4 (by omega) ⟨rfl, fun s z => absurd z (by omega), fun _ _ _ => rfl⟩ (fun i q hi hq => ?_) (fun q hq => ?_)
  · obtain ⟨k', S1⟩ := q
    obtain ⟨(e : k' = nI i), g1, g2⟩ := hq
    subst e
    have e5 : atF (cst 2) 16 (0 * 4 + nI i) = nI (usN 0 i) := (rng i hi).2.2.2.2.1
    refine Or.inl ⟨(nI (i + 1), si S1 19 i (nI (usN 0 i))), ?_, rfl, fun s hs => ?_, fun i' j hn => (tb_n fun e => hn e.1).trans (g2 i' j hn)⟩
    · unfold Nr_setUsual_L2
      dsimp only
      rw [if_neg (show ¬ (4 : Int32) ≤ nI i from fun z => by have := (q_le (a := 4) (by omega) (by omega)).mp z; omega), e5, q_pu hi (by omega), q_app, show nI i + 1 = nI (i + 1) from q_add i 1]
    · by_cases y : s = i
      · rw [y]; exact tb_h
      · exact (tb_n fun e => y e.2).trans (g1 s (by omega))
  · obtain ⟨k', S1⟩ := q
    obtain ⟨(e : k' = nI 4), g1, g2⟩ := hq
    subst e
    exact ⟨S1, rfl, g1, g2⟩
/-- the size, if none was told -/
theorem np_size {S2 : Sm} {m0 : Nat} (h0 : gi S2 16 0 = nI m0) (hm : m0 ≤ 1) : ∃ S3, Nr_sizeIfUntold S2 = some S3 ∧ SamS S2 S3 ∧ (∀ i j, i ≠ 15 → i ≠ 16 → i ≠ 19 → S3.1 i j = S2.1 i j) ∧ gi S3 16 0 = nI 1 ∧ (∀ j, j ≠ 0 → gi S3 16 j = gi S2 16 j) ∧ (∀ j, 4 ≤ j → gi S3 15 j = gi S2 15 j) ∧ ((m0 = 1 ∧ S3 = S2) ∨ (m0 = 0 ∧ ∀ s, s < 4 → gi S3 15 s = nI (usN 0 s))) := by
  have dm : Dr_many 0 S2 = nI m0 := (dr_m (k := 0) (by omega)).trans h0
  unfold Nr_sizeIfUntold Nr_sizeIfUntold_28
  rw [dm]
  by_cases z : m0 = 0
  · subst z
    rw [if_pos (show nI 0 = 0 from rfl)]
    obtain ⟨S3, e1, us, f1⟩ := st_us S2
    obtain ⟨S4, s1, s2, s3, s4, s5, s6⟩ := st_ok (S := S3) (k := 0) (m := 0) (by omega) ((f1 16 0 (by omega)).trans h0) (by decide)
    have s1' : Dr_store_19 0 S3 = some S4 := s1
    rw [e1, q_bind, s1', q_bind]
    refine ⟨S4, rfl, fun i j hs => ?_, fun i j a c d => (s2 i j a c).trans (f1 i j d), s5, fun j hj => (s6 j hj).trans (f1 16 j (by omega)), fun j hj => (s4 j (Or.inr (by show 0 + 4 ≤ j; omega))).trans (f1 15 j (by omega)), Or.inr ⟨rfl, fun s hs => ?_⟩⟩
    · by_cases y : i = 15
      · subst y; exact absurd hs (by show ¬ true = false; decide)
      by_cases y2 : i = 16
      · subst y2; exact absurd hs (by show ¬ true = false; decide)
      by_cases y3 : i = 19
      · subst y3; exact absurd hs (by show ¬ true = false; decide)
      exact (s2 i j y y2).trans (f1 i j y3)
    · have := s3 s hs
      rw [us s hs, show 4 * (fiN 0 + 0) + s = s by show 0 + s = s; omega] at this
      exact this
  · have m1 : m0 = 1 := by omega
    subst m1
    rw [if_neg (show ¬ nI 1 = 0 by decide)]
    exact ⟨S2, rfl, SamS.rfl S2, fun _ _ _ _ _ => rfl, h0, fun _ _ => rfl, fun _ _ => rfl, Or.inl ⟨rfl, rfl⟩⟩
/-- a net's text read by both -/
theorem np_all (h : LxB n b T S) : ∃ v T' S', Nr_firstFault S = some (v, S') ∧ Md_readAll T = some (v, T') ∧ SamS S S' ∧ SamT T T' ∧ ((v = mI ∧ ∃ m, m 0 = 1 ∧ NdO m T' S' ∧ SndN m S') ∨ ∃ p, p ≤ n ∧ v = nI p) := by
  have n240 := h.1
  obtain ⟨S1, T1, e1, e2, s1, t1, O1, D1⟩ := np_begin h
  obtain ⟨S2, T2, e3, e4, s2, t2, B2, hq⟩ := np_loop O1 D1
  have e2' : lpN (Md_readAll_L29 0) FU (0, si (si (si (si (si T 53 3 0) 53 4 ((-1))) 53 21 0) 53 22 0) 53 23 0) = some T1 := e2
  have cut : ∀ r, (if (gi T2 53 4) = ((-1)) then ((Md_look T2).bind fun q25 => (if q25.1 = ((-1)) then ((Md_isWhole q25.2).bind fun q27 => (if q27 = 0 then (Md_readAll_337 q25.2) else (Md_readAll_341 q25.2))) else (Md_readAll_337 q25.2))) else (Md_readAll_341 T2)) = r → Md_readAll T = r := fun r hr => by
    unfold Md_readAll
    rw [e2', q_bind, e4, q_bind]; exact hr
  have cutS : ∀ S3 v r, Nr_sizeIfUntold S2 = some S3 → Dr_isSound S3 = some v → (if v = 0 then (app (Tp_failAtEnd S3) fun q10 => (Nr_firstFault_68 q10)) else (Nr_firstFault_68 S3)) = r → Nr_firstFault S = r := fun S3 v r a c hr => by
    unfold Nr_firstFault
    rw [q_app, e1, q_bind, e3, q_bind, a, q_bind, c, q_bind]; exact hr
  rcases hq with ⟨m, O, D⟩ | ⟨p, hp, hC, p1, p2⟩
  · have d0 := D.1 0 (by omega)
    have d0' : m 0 ≤ 1 := d0.1
    obtain ⟨S3, f1, f2, f3, f4, f5, f6, f7⟩ := np_size d0.2 d0'
    have D3 : NdO (fun j => if j = 0 then 1 else m j) T2 S3 := by
      obtain ⟨g1, g2, g3, g4⟩ := D
      refine ⟨fun k hk => ?_, g2, fun k hk e he s hs => ?_, fun z => absurd z (by show ¬ (if 0 = 0 then 1 else m 0) = 0; rw [if_pos rfl]; decide)⟩
      · by_cases z : k = 0
        · subst z; exact ⟨by show 1 ≤ _; decide, f4⟩
        · show (if k = 0 then 1 else m k) ≤ _ ∧ gi S3 16 k = nI (if k = 0 then 1 else m k)
          rw [if_neg z]; exact ⟨(g1 k hk).1, (f5 k z).trans (g1 k hk).2⟩
      · by_cases z : k = 0
        · subst z
          have he : e < 1 := he
          have e0 : e = 0 := by omega
          subst e0
          have r := t_rng 0 (by omega) s hs
          rcases f7 with ⟨m1, f7⟩ | ⟨m1, f7⟩
          · rw [f7]; exact g3 0 (by omega) 0 (by omega) s hs
          · refine ⟨usN 0 s, r.2.2.2.2.2.2.1, r.2.2.2.2.2.2.2.1, ?_, ?_⟩
            · rw [show 4 * (fiN 0 + 0) + s = s by show 0 + s = s; omega]; exact f7 s hs
            · rw [show nsN 0 * 0 + s = s by omega]; exact g4 m1 s hs
        · have he : e < (if k = 0 then 1 else m k) := he
          rw [if_neg z] at he
          obtain ⟨x, x1, x2, x3, x4⟩ := g3 k hk e he s hs
          have k3 : 1 ≤ fiN k := by
            have k4 : k = 1 ∨ k = 2 ∨ k = 3 := by omega
            rcases k4 with rfl | rfl | rfl <;> decide
          exact ⟨x, x1, x2, (f6 _ (by omega)).trans x3, x4⟩
    obtain ⟨v1, w1, w2⟩ := dr_snd D3 rfl
    obtain ⟨v2, w3, w4⟩ := md_snd D3 rfl
    have g83 : gi S3 8 3 = mI := (f3 8 3 (by omega) (by omega) (by omega)).trans O.2.1
    have g81 : gi S3 8 1 = nI n := (f3 8 1 (by omega) (by omega) (by omega)).trans B2.2.2.1
    have nb : LxN n b n := fun e => absurd e.1 (Nat.lt_irrefl n)
    have lk := (lx_at O nb).2
    rw [lxs_out (Nat.lt_irrefl n)] at lk
    rcases w2 with ⟨rfl, snd⟩ | ⟨rfl, snd⟩
    · rcases w4 with ⟨rfl, -⟩ | ⟨-, z⟩
      · refine ⟨mI, T2, S3, cutS S3 _ _ f1 w1 ?_, cut _ ?_, (s1.trans s2).trans f2, t1.trans t2, Or.inl ⟨rfl, _, rfl, D3, snd⟩⟩
        · rw [if_neg (show ¬ nI 1 = 0 by decide)]
          unfold Nr_firstFault_68 Tp_firstFault
          rw [g83]
        · rw [O.2.2.1, if_pos (show mI = -1 from rfl), lk, q_bind]
          dsimp only
          rw [if_pos (show mI = -1 from rfl), w3, q_bind, if_neg (show ¬ nI 1 = 0 by decide)]
          unfold Md_readAll_341
          rw [O.2.2.1]
      · exact absurd snd z
    · rcases w4 with ⟨-, z⟩ | ⟨rfl, -⟩
      · exact absurd z snd
      · refine ⟨nI n, si T2 53 4 (nI n), si S3 8 3 (nI n), cutS S3 _ _ f1 w1 ?_, cut _ ?_, ((s1.trans s2).trans f2).si rfl, (t1.trans t2).si rfl, Or.inr ⟨n, Nat.le_refl _, rfl⟩⟩
        · rw [if_pos (show nI 0 = 0 from rfl)]
          unfold Tp_failAtEnd Tp_failAtEnd_16 Nr_firstFault_68 Tp_firstFault
          rw [g83, if_pos (show mI = -1 from rfl), g81, q_app, tb_h]
        · rw [O.2.2.1, if_pos (show mI = -1 from rfl), lk, q_bind]
          dsimp only
          rw [if_pos (show mI = -1 from rfl), w3, q_bind, if_pos (show nI 0 = 0 from rfl)]
          unfold Md_readAll_337 Md_readAll_341
          rw [(lx_fail O).2, q_app, tb_h]
  · obtain ⟨m0, c0, d0⟩ := hC 0 (by omega)
    have c0 : m0 ≤ 1 := c0
    obtain ⟨S3, f1, f2, f3, f4, f5, f6, f7⟩ := np_size d0 c0
    have C3 : NdC S3 := fun k hk => by
      by_cases z : k = 0
      · subst z; exact ⟨1, by decide, f4⟩
      · obtain ⟨x, x1, x2⟩ := hC k hk
        exact ⟨x, x1, (f5 k z).trans x2⟩
    obtain ⟨v1, w1⟩ := dr_some C3
    have g83 : gi S3 8 3 = nI p := (f3 8 3 (by omega) (by omega) (by omega)).trans p1
    have np : ¬ nI p = -1 := fun z => (q_eqm (by omega)).mp z
    have rS : Nr_firstFault S = some (nI p, S3) := cutS S3 _ _ f1 w1 (by
      unfold Tp_failAtEnd Tp_failAtEnd_16 Nr_firstFault_68 Tp_firstFault
      rw [g83, if_neg np]
      split
      · rw [q_app, g83]
      · rfl)
    rcases p2 with p2 | ⟨p2, p3, p4, p5⟩
    · refine ⟨nI p, T2, S3, rS, cut _ ?_, (s1.trans s2).trans f2, t1.trans t2, Or.inr ⟨p, hp, rfl⟩⟩
      rw [p2, if_neg np]
      unfold Md_readAll_341
      rw [p2]
    · have O : LxO n b p T2 (si (si S2 8 3 mI) 8 2 (nI p)) := by
        obtain ⟨b1, b2, b3, b4, b5, b6⟩ := B2
        exact ⟨⟨b1, b2, (tb_n fun e => absurd e.2 (by decide)).trans ((tb_n fun e => absurd e.2 (by decide)).trans b3), fun i hi => (tb_n fun e => absurd e.1 (by decide)).trans ((tb_n fun e => absurd e.1 (by decide)).trans (b4 i hi)), b5, b6⟩, (tb_n fun e => absurd e.2 (by decide)).trans tb_h, p2, tb_h, p3, hp⟩
      refine ⟨nI p, si T2 53 4 (nI p), S3, rS, cut _ ?_, (s1.trans s2).trans f2, (t1.trans t2).si rfl, Or.inr ⟨p, hp, rfl⟩⟩
      have := B2.2.1 p p5
      rw [p2, if_pos (show mI = -1 from rfl), (lx_at O p4).2, q_bind]
      dsimp only
      rw [lxs_in p5, if_neg (show ¬ nI (b p) = -1 from fun z => (q_eqm (by omega)).mp z)]
      unfold Md_readAll_337 Md_readAll_341
      rw [(lx_fail O).2, q_app, tb_h]
end NA
