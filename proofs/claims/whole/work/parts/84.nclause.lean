/-! ===== a net's text: one clause ===== -/
def zN (k : Nat) : Nat := [4, 72, 24, 4].getD k 0
def cpN (k : Nat) : Nat := fiN (k + 1) - fiN k
theorem t_cap : ∀ k, k < 4 → fiN k + cpN k ≤ 29 ∧ fiN (k + 1) = fiN k + cpN k ∧ zN k ≤ 100 ∧ nsN k * cpN k = zN k ∧ 1 ≤ cpN k := by decide
section NK
variable {n : Nat} {b : Nat → Nat} {T S T0 S0 : Sm}
/-- the draft, as both have it -/
def NdO (m : Nat → Nat) (T S : Sm) : Prop := (∀ k, k < 4 → m k ≤ cpN k ∧ gi S 16 k = nI (m k)) ∧ (gi T 53 21 = nI (m 1) ∧ gi T 53 22 = nI (m 2) ∧ gi T 53 23 = nI (m 3)) ∧ (∀ k, k < 4 → ∀ e, e < m k → ∀ s, s < nsN k → ∃ x, loN k s ≤ x ∧ x ≤ hiN k s ∧ gi S 15 (4 * (fiN k + e) + s) = nI x ∧ gi T (64 + k) (nsN k * e + s) = nI x) ∧ (m 0 = 0 → ∀ s, s < 4 → gi T 64 s = nI (usN 0 s))
/-- the draft's counts alone -/
def NdC (S : Sm) : Prop := ∀ k, k < 4 → ∃ m, m ≤ cpN k ∧ gi S 16 k = nI m
theorem NdO.C {m : Nat → Nat} (h : NdO m T S) : NdC S := fun k hk => ⟨m k, (h.1 k hk).1, (h.1 k hk).2⟩
theorem dr_m {S : Sm} {k : Nat} (hk : k < 4) : Dr_many (nI k) S = gi S 16 k := q_at hk (by omega)
theorem st_ok {S : Sm} {k m : Nat} (hk : k < 4) (hm : gi S 16 k = nI m) (hc : m < cpN k) : ∃ S', Dr_store_19 (nI k) S = some S' ∧ (∀ i j, i ≠ 15 → i ≠ 16 → S'.1 i j = S.1 i j) ∧ (∀ s, s < 4 → gi S' 15 (4 * (fiN k + m) + s) = gi S 19 s) ∧ (∀ j, j < 4 * (fiN k + m) ∨ 4 * (fiN k + m) + 4 ≤ j → gi S' 15 j = gi S 15 j) ∧ gi S' 16 k = nI (m + 1) ∧ ∀ j, j ≠ k → gi S' 16 j = gi S 16 j := by
  have tc := t_cap k hk
  have tf := (t_full k hk).2
  suffices hl : ∃ S1, lpN (Dr_store_19_L19 (nI k) (nI (4 * (fiN k + m)))) FU (0, S) = some S1 ∧ (∀ i j, i ≠ 15 → S1.1 i j = S.1 i j) ∧ (∀ s, s < 4 → gi S1 15 (4 * (fiN k + m) + s) = gi S 19 s) ∧ ∀ j, j < 4 * (fiN k + m) ∨ 4 * (fiN k + m) + 4 ≤ j → gi S1 15 j = gi S 15 j by
    obtain ⟨S1, e1, g1, g2, g3⟩ := hl
    have hm1 : gi S1 16 k = nI m := (g1 16 k (by omega)).trans hm
    refine ⟨si S1 16 k (nI (m + 1)), ?_, fun i j h1 h2 => (tb_n fun e => h2 e.1).trans (g1 i j h1), fun s hs => (tb_n fun e => absurd e.1 (by decide)).trans (g2 s hs), fun j hj => (tb_n fun e => absurd e.1 (by decide)).trans (g3 j hj), tb_h, fun j hj => (tb_n fun e => hj e.2).trans (g1 16 j (by omega))⟩
    unfold Dr_store_19
    rw [tf, dr_m hk, hm, q_add, show (4 : Int32) = nI 4 from rfl, q_mul, Nat.mul_comm _ 4, e1, q_bind, dr_m hk, hm1, q_pu hk (by omega), q_app, show nI m + 1 = nI (m + 1) from q_add m 1]
  refine lp_inv (fun i (q : Int32 × Sm) => q.1 = nI i ∧ (∀ i j, i ≠ 15 → q.2.1 i j = S.1 i j) ∧ (∀ s, s < i → gi q.2 15 (4 * (fiN k + m) + s) = gi S 19 s) ∧ ∀ j, j < 4 * (fiN k + m) ∨ 4 * (fiN k + m) + 4 ≤ j → gi q.2 15 j = gi S 15 j) 4 (by omega) ⟨rfl, fun _ _ _ => rfl, fun s z => absurd z (by omega), fun _ _ => rfl⟩ (fun i q hi hq => ?_) (fun q hq => ?_)
  · obtain ⟨k', S1⟩ := q
    obtain ⟨(e : k' = nI i), g1, g2, g3⟩ := hq
    subst e
    have e19 : gi S1 19 i = gi S 19 i := g1 19 i (by omega)
    refine Or.inl ⟨(nI (i + 1), si S1 15 (4 * (fiN k + m) + i) (gi S 19 i)), ?_, rfl, fun i' j h1 => (tb_n fun e => h1 e.1).trans (g1 i' j h1), fun s hs => ?_, fun j hj => (tb_n fun e => by omega).trans (g3 j hj)⟩
    · unfold Dr_store_19_L19
      dsimp only
      rw [if_neg (show ¬ (4 : Int32) ≤ nI i from fun z => by have := (q_le (a := 4) (by omega) (by omega)).mp z; omega), q_at hi (by omega), e19, q_add, q_pu (by omega) (by omega), q_app, show nI i + 1 = nI (i + 1) from q_add i 1]
    · by_cases y : s = i
      · rw [y]; exact tb_h
      · exact (tb_n fun e => y (by omega)).trans (g2 s (by omega))
  · obtain ⟨k', S1⟩ := q
    obtain ⟨(e : k' = nI 4), g1, g2, g3⟩ := hq
    subst e
    exact ⟨S1, rfl, g1, g2, g3⟩
theorem NiF.sam {k base : Nat} (h : NiF k base T0 S0 T S) (hk : k < 4) : SamS S0 S ∧ SamT T0 T := by
  constructor
  · intro i j hs
    by_cases y : i = 8
    · subst y
      refine h.2.1 j (fun z => ?_) fun z => ?_
      · subst z; exact absurd hs (by decide)
      · subst z; exact absurd hs (by decide)
    · refine h.1 i j y fun z => ?_
      subst z
      exact absurd hs (by show ¬ true = false; decide)
  · intro i j hs
    by_cases y : i = 53
    · subst y
      refine h.2.2.2 j (fun z => ?_) fun z => ?_
      · subst z; exact absurd hs (by decide)
      · subst z; exact absurd hs (by decide)
    · refine h.2.2.1 i j y fun z => ?_
      obtain ⟨z, -⟩ := z
      subst z
      have k4 : k = 0 ∨ k = 1 ∨ k = 2 ∨ k = 3 := by omega
      rcases k4 with rfl | rfl | rfl | rfl
      · exact absurd hs (by show ¬ true = false; decide)
      · exact absurd hs (by show ¬ true = false; decide)
      · exact absurd hs (by show ¬ true = false; decide)
      · exact absurd hs (by show ¬ true = false; decide)
/-- what a clause comes to, with the class and with the reference: ok, or a fault that the class has told already -/
def NcQ (n : Nat) (b : Nat → Nat) (i : Nat) (T0 S0 T S : Sm) : Prop := SamS S0 S ∧ SamT T0 T ∧ LxB n b T S ∧ ((∃ i' m, i < i' ∧ LxN n b i' ∧ LxO n b i' T S ∧ NdO m T S) ∨ ∃ p, p ≤ n ∧ NdC S ∧ gi S 8 3 = nI p ∧ (gi T 53 4 = nI p ∨ (gi T 53 4 = mI ∧ gi T 53 3 = nI p ∧ LxN n b p ∧ p < n ∧ b p ≠ 59)))
/-- a clause of a kind, behind its letter: the class sets, reads and stores; the reference reads and counts -/
theorem nc_kind {k i : Nat} {m : Nat → Nat} (hk : k < 4) (h : LxO n b i T S) (hd : NdO m T S) (hc : m k < cpN k) : ∃ S1 S2 S3 T1, Nr_setUsual (nI k) S = some S1 ∧ Nr_readItems (nI k) S1 = some S2 ∧ (if (Tp_isFaulty S2) = 0 then ((Dr_store_19 (nI k) S2).bind fun q7 => (Nr_readClause_78 q7)) else (Nr_readClause_78 S2)) = some S3 ∧ niAll (64 + k) (zN k) (nI (kcN k)) (nI (nsN k * m k)) (nI (nsN k)) T = some T1 ∧ ((∃ i', i ≤ i' ∧ LxN n b i' ∧ ∀ T2 : Sm, T2 = (if k = 0 then T1 else si T1 53 (20 + k) (nI (m k + 1))) → LxO n b i' T2 S3 ∧ NdO (fun j => if j = k then m k + 1 else m j) T2 S3 ∧ SamS S S3 ∧ SamT T T2 ∧ LxB n b T2 S3) ∨ ∃ p, p ≤ n ∧ NdC S3 ∧ gi S3 8 3 = nI p ∧ SamS S S3 ∧ ∀ T2 : Sm, T2 = (if k = 0 then T1 else si T1 53 (20 + k) (nI (m k + 1))) → SamT T T2 ∧ LxB n b T2 S3 ∧ (gi T2 53 4 = nI p ∨ (gi T2 53 4 = mI ∧ gi T2 53 3 = nI p ∧ LxN n b p ∧ p < n ∧ b p ≠ 59))) ∧ gi T1 53 (20 + k) = gi T 53 (20 + k) := by
  have tc := t_cap k hk
  obtain ⟨ns4, ns1⟩ := ns_le k
  have n240 := h.1.1
  have hz : nsN k * m k + nsN k ≤ zN k := by
    have : nsN k * (m k + 1) ≤ nsN k * cpN k := Nat.mul_le_mul_left _ hc
    rw [Nat.mul_succ] at this
    omega
  obtain ⟨S1, T1, e1, e2, v1, f1, g1, g2⟩ := ni_us h.1 hk hz tc.2.2.1
  have O1 : LxO n b i T1 S1 := ⟨f1.B hk h.1, (congrFun g1 3).trans h.2.1, (congrFun g2 4).trans h.2.2.1, (congrFun g1 2).trans h.2.2.2.1, (congrFun g2 3).trans h.2.2.2.2.1, h.2.2.2.2.2⟩
  obtain ⟨S2, T2, q4, e3, e4, e5, hF, hq⟩ := ni_loop O1 hk hz tc.2.2.1 v1
  have F := f1.tr hF
  obtain ⟨hd1, hd2, hd3, hd4⟩ := hd
  have e16 : ∀ j, gi S2 16 j = gi S 16 j := fun j => F.1 16 j (by omega) (by omega)
  have eAll : niAll (64 + k) (zN k) (nI (kcN k)) (nI (nsN k * m k)) (nI (nsN k)) T = some T2 := by
    unfold niAll
    rw [e2, q_bind, e4, q_bind]
    have e5' : lpN (niL41 (64 + k) (zN k) (nI (kcN k)) (nI (nsN k * m k))) FU (0, Md_itemOf (nI (kcN k)) q4.1, q4.2) = some T2 := e5
    rw [e5']; rfl
  have e20 : gi T2 53 (20 + k) = gi T 53 (20 + k) := F.2.2.2 _ (by omega) (by omega)
  have sT : ∀ T3 : Sm, T3 = (if k = 0 then T2 else si T2 53 (20 + k) (nI (m k + 1))) → SamT T T3 ∧ (∀ i' j, i' ≠ 53 → T3.1 i' j = T2.1 i' j) ∧ (∀ j, j ≠ 20 + k → T3.1 53 j = T2.1 53 j) ∧ (k ≠ 0 → gi T3 53 (20 + k) = nI (m k + 1)) := fun T3 e => by
    have s0 := (F.sam hk).2
    by_cases z : k = 0
    · rw [if_pos z] at e
      subst e
      exact ⟨s0, fun _ _ _ => rfl, fun _ _ => rfl, fun y => absurd z y⟩
    · rw [if_neg z] at e
      subst e
      refine ⟨s0.si ?_, fun i' j h => tb_n fun e => h e.1, fun j h => tb_n fun e => h e.2, fun _ => tb_h⟩
      have k4 : k = 1 ∨ k = 2 ∨ k = 3 := by omega
      rcases k4 with rfl | rfl | rfl <;> rfl
  rcases hq with ⟨i', a1, a2, a3, a4⟩ | ⟨p, p1, p2, p3⟩
  · have nf : Tp_isFaulty S2 = 0 := by
      unfold Tp_isFaulty Tp_isFaulty_13
      rw [a3.2.1, if_pos (show mI = -1 from rfl)]; decide
    obtain ⟨S3, s1, s2, s3, s4, s5, s6⟩ := st_ok hk ((e16 k).trans (hd1 k hk).2) hc
    refine ⟨S1, S2, S3, T2, e1, e3, ?_, eAll, Or.inl ⟨i', a1, a2, fun T3 e => ?_⟩, e20⟩
    · rw [nf, if_pos rfl, s1]; rfl
    · obtain ⟨t1, t2, t3, t4⟩ := sT T3 e
      obtain ⟨l1, l2, l3, l4, l5, l6⟩ := a3
      obtain ⟨b1, b2, b3, b4, b5, b6⟩ := l1
      have B3 : LxB n b T3 S3 := ⟨b1, b2, (s2 8 1 (by omega) (by omega)).trans b3, fun i hi => (s2 9 i (by omega) (by omega)).trans (b4 i hi), (t3 2 (by omega)).trans b5, fun i hi => (t2 54 i (by omega)).trans (b6 i hi)⟩
      have O3 : LxO n b i' T3 S3 := ⟨B3, (s2 8 3 (by omega) (by omega)).trans l2, (t3 4 (by omega)).trans l3, (s2 8 2 (by omega) (by omega)).trans l4, (t3 3 (by omega)).trans l5, l6⟩
      refine ⟨O3, ⟨fun j hj => ?_, ?_, fun j hj e' he' s hs => ?_, fun hz0 => ?_⟩, fun x y hxy => ?_, t1, B3⟩
      · by_cases y : j = k
        · subst y
          show (if j = j then m j + 1 else m j) ≤ _ ∧ gi S3 16 j = nI (if j = j then m j + 1 else m j)
          rw [if_pos rfl]
          exact ⟨hc, s5⟩
        · show (if j = k then m k + 1 else m j) ≤ _ ∧ gi S3 16 j = nI (if j = k then m k + 1 else m j)
          rw [if_neg y]
          exact ⟨(hd1 j hj).1, (s6 j y).trans ((e16 j).trans (hd1 j hj).2)⟩
      · have cell : ∀ j, 1 ≤ j → j < 4 → gi T 53 (20 + j) = nI (m j) → gi T3 53 (20 + j) = nI (if j = k then m k + 1 else m j) := fun j j1 j4 hj => by
          by_cases y : j = k
          · subst y
            rw [if_pos rfl]; exact t4 (by omega)
          · rw [if_neg y]
            exact (t3 _ (by omega)).trans ((F.2.2.2 _ (by omega) (by omega)).trans hj)
        exact ⟨cell 1 (by omega) (by omega) hd2.1, cell 2 (by omega) (by omega) hd2.2.1, cell 3 (by omega) (by omega) hd2.2.2⟩
      · have he' : e' < (if j = k then m k + 1 else m j) := he'
        have tcj := t_cap j hj
        obtain ⟨nj4, nj1⟩ := ns_le j
        by_cases y : j = k ∧ e' = m k
        · obtain ⟨rfl, rfl⟩ := y
          obtain ⟨x, x1, x2, x3, x4⟩ := a4 s hs
          exact ⟨x, x1, x2, (s3 s (by omega)).trans x3, (t2 _ _ (by omega)).trans x4⟩
        · have hm : e' < m j := by
            by_cases z : j = k
            · subst z; rw [if_pos rfl] at he'; omega
            · rwa [if_neg z] at he'
          obtain ⟨x, x1, x2, x3, x4⟩ := hd3 j hj e' hm s hs
          have mj := (hd1 j hj).1
          refine ⟨x, x1, x2, (s4 _ ?_).trans ((F.1 15 _ (by omega) (by omega)).trans x3), (t2 _ _ (by omega)).trans ((F.2.2.1 _ _ (by omega) fun z => ?_).trans x4)⟩
          · by_cases z : j = k
            · subst z; omega
            · have tj : j < k ∨ k < j := by omega
              rcases tj with tj | tj
              · have : fiN j + cpN j ≤ fiN k := by
                  have j4 : (j = 0 ∧ k = 1) ∨ (j = 0 ∧ k = 2) ∨ (j = 0 ∧ k = 3) ∨ (j = 1 ∧ k = 2) ∨ (j = 1 ∧ k = 3) ∨ (j = 2 ∧ k = 3) := by omega
                  rcases j4 with ⟨rfl, rfl⟩ | ⟨rfl, rfl⟩ | ⟨rfl, rfl⟩ | ⟨rfl, rfl⟩ | ⟨rfl, rfl⟩ | ⟨rfl, rfl⟩ <;> decide
                omega
              · have : fiN k + cpN k ≤ fiN j := by
                  have j4 : (k = 0 ∧ j = 1) ∨ (k = 0 ∧ j = 2) ∨ (k = 0 ∧ j = 3) ∨ (k = 1 ∧ j = 2) ∨ (k = 1 ∧ j = 3) ∨ (k = 2 ∧ j = 3) := by omega
                  rcases j4 with ⟨rfl, rfl⟩ | ⟨rfl, rfl⟩ | ⟨rfl, rfl⟩ | ⟨rfl, rfl⟩ | ⟨rfl, rfl⟩ | ⟨rfl, rfl⟩ <;> decide
                omega
          · obtain ⟨z1, z2, z3⟩ := z
            have jk : j = k := by omega
            subst jk
            have h1 : nsN j * e' + nsN j ≤ nsN j * m j := by
              have := Nat.mul_le_mul_left (nsN j) hm
              rw [Nat.mul_succ] at this; exact this
            omega
      · have hz0 : (if 0 = k then m k + 1 else m 0) = 0 := hz0
        by_cases z : 0 = k
        · rw [if_pos z] at hz0; omega
        · rw [if_neg z] at hz0
          intro s hs
          exact (t2 _ _ (by omega)).trans ((F.2.2.1 _ _ (by omega) fun e => by omega).trans (hd4 hz0 s hs))
      · by_cases y15 : x = 15
        · subst y15; exact absurd hxy (by show ¬ true = false; decide)
        · by_cases y16 : x = 16
          · subst y16; exact absurd hxy (by show ¬ true = false; decide)
          · exact (s2 x y y15 y16).trans ((F.sam hk).1 x y hxy)
  · have nf : Tp_isFaulty S2 = 1 := by
      unfold Tp_isFaulty Tp_isFaulty_13
      rw [p2, if_neg (show ¬ nI p = -1 from fun z => (q_eqm (by omega)).mp z)]; decide
    refine ⟨S1, S2, S2, T2, e1, e3, ?_, eAll, Or.inr ⟨p, p1, fun j hj => ⟨m j, (hd1 j hj).1, (e16 j).trans (hd1 j hj).2⟩, p2, (F.sam hk).1, fun T3 e => ?_⟩, e20⟩
    · rw [nf, if_neg (show ¬ (1 : Int32) = 0 by decide)]; rfl
    · obtain ⟨t1, t2, t3, -⟩ := sT T3 e
      have B2 := F.B hk h.1
      obtain ⟨b1, b2, b3, b4, b5, b6⟩ := B2
      refine ⟨t1, ⟨b1, b2, b3, b4, (t3 2 (by omega)).trans b5, fun i hi => (t2 54 i (by omega)).trans (b6 i hi)⟩, ?_⟩
      rcases p3 with p3 | ⟨p3, p4, p5⟩
      · exact Or.inl ((t3 4 (by omega)).trans p3)
      · exact Or.inr ⟨(t3 4 (by omega)).trans p3, (t3 3 (by omega)).trans p4, p5⟩
end NK
