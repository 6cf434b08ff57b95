/-! ===== a net's text: the items of a clause ===== -/
def niL3 (r z : Nat) (v1 v3 v4 : Int32) (q : Int32 × Sm) : Option ((Int32 × Sm) ⊕ Sm) := (if v4 ≤ q.1 then (some (.inr q.2)) else (if inb (v3 + q.1) z then (some (.inl (q.1 + 1, si q.2 r (ix (v3 + q.1)) (Md_usual v1 q.1)))) else none))
def niL41 (r z : Nat) (v1 v3 : Int32) (q : Int32 × Int32 × Sm) : Option ((Int32 × Int32 × Sm) ⊕ Sm) := (if (gi q.2.2 53 4) = ((-1)) then (if q.2.1 = ((-1)) then (some (.inr q.2.2)) else (if (Md_has q.1 q.2.1) = 0 then ((Md_number (Md_lowest v1 q.2.1) (Md_highest v1 q.2.1) (si q.2.2 53 3 ((gi q.2.2 53 3) + 1))).bind fun q5 => (if inb (v3 + q.2.1) z then (if (gi (si q5.2 r (ix (v3 + q.2.1)) q5.1) 53 4) = ((-1)) then ((Md_look (si q5.2 r (ix (v3 + q.2.1)) q5.1)).bind fun q7 => (some (.inl (q.1 ||| (iShl 1 q.2.1), Md_itemOf v1 q7.1, q7.2)))) else (some (.inl (q.1 ||| (iShl 1 q.2.1), ((-1)), si q5.2 r (ix (v3 + q.2.1)) q5.1)))) else none)) else (some (.inr q.2.2)))) else (some (.inr q.2.2)))
def niAll (r z : Nat) (v1 v3 v4 : Int32) (T : Sm) : Option Sm := ((lpN (niL3 r z v1 v3 v4) FU (0, T)).bind fun q3 => ((Md_look q3).bind fun q4 => ((lpN (niL41 r z v1 v3) FU (0, Md_itemOf v1 q4.1, q4.2)).bind fun q12 => (some q12))))
theorem ni_64 (v1 v3 v4 : Int32) (T : Sm) : Md_items_64 v1 v3 v4 T = niAll 64 4 v1 v3 v4 T := rfl
theorem ni_65 (v1 v3 v4 : Int32) (T : Sm) : Md_items_65 v1 v3 v4 T = niAll 65 72 v1 v3 v4 T := rfl
theorem ni_66 (v1 v3 v4 : Int32) (T : Sm) : Md_items_66 v1 v3 v4 T = niAll 66 24 v1 v3 v4 T := rfl
theorem ni_67 (v1 v3 v4 : Int32) (T : Sm) : Md_items_67 v1 v3 v4 T = niAll 67 4 v1 v3 v4 T := rfl
theorem ns_le (k : Nat) : nsN k ≤ 4 ∧ 1 ≤ nsN k := by unfold nsN; split <;> omega
theorem sl_59 : ∀ k, k < 4 → slN k (nI 59) = mI := by decide +kernel
section NI
variable {n : Nat} {b : Nat → Nat} {T S T0 S0 : Sm}
def NiV (k base : Nat) (T S : Sm) : Prop := ∀ s, s < nsN k → ∃ x, loN k s ≤ x ∧ x ≤ hiN k s ∧ gi S 19 s = nI x ∧ gi T (64 + k) (base + s) = nI x
def NiF (k base : Nat) (T0 S0 T S : Sm) : Prop := (∀ i j, i ≠ 8 → i ≠ 19 → S.1 i j = S0.1 i j) ∧ (∀ j, j ≠ 2 → j ≠ 3 → S.1 8 j = S0.1 8 j) ∧ (∀ i j, i ≠ 53 → ¬ (i = 64 + k ∧ base ≤ j ∧ j < base + nsN k) → T.1 i j = T0.1 i j) ∧ ∀ j, j ≠ 3 → j ≠ 4 → T.1 53 j = T0.1 53 j
theorem NiF.B {k base : Nat} (h : NiF k base T0 S0 T S) (hk : k < 4) (g : LxB n b T0 S0) : LxB n b T S := by
  obtain ⟨h1, h2, h3, h4⟩ := h
  obtain ⟨g1, g2, g3, g4, g5, g6⟩ := g
  exact ⟨g1, g2, (h2 1 (by omega) (by omega)).trans g3, fun i hi => (h1 9 i (by omega) (by omega)).trans (g4 i hi), (h4 2 (by omega) (by omega)).trans g5, fun i hi => (h3 54 i (by omega) (fun e => by omega)).trans (g6 i hi)⟩
theorem ni_us {k base z : Nat} (h : LxB n b T S) (hk : k < 4) (hz : base + nsN k ≤ z) (hz2 : z ≤ 100) : ∃ S' T', Nr_setUsual (nI k) S = some S' ∧ lpN (niL3 (64 + k) z (nI (kcN k)) (nI base) (nI (nsN k))) FU (0, T) = some T' ∧ NiV k base T' S' ∧ NiF k base T S T' S' ∧ S'.1 8 = S.1 8 ∧ T'.1 53 = T.1 53 := by
  obtain ⟨ns4, -⟩ := ns_le k
  have rng := t_rng k hk
  suffices hS : ∃ S', lpN (Nr_setUsual_L2 (nI k)) FU (0, S) = some S' ∧ (∀ s, s < nsN k → gi S' 19 s = nI (usN k s)) ∧ ∀ i j, i ≠ 19 → S'.1 i j = S.1 i j by
    suffices hT : ∃ T', lpN (niL3 (64 + k) z (nI (kcN k)) (nI base) (nI (nsN k))) FU (0, T) = some T' ∧ (∀ s, s < nsN k → gi T' (64 + k) (base + s) = nI (usN k s)) ∧ ∀ i j, ¬ (i = 64 + k ∧ base ≤ j ∧ j < base + nsN k) → T'.1 i j = T.1 i j by
      obtain ⟨S', e1, s1, s2⟩ := hS
      obtain ⟨T', e2, t1, t2⟩ := hT
      refine ⟨S', T', ?_, e2, fun s hs => ⟨usN k s, (rng s hs).2.2.2.2.2.2.1, (rng s hs).2.2.2.2.2.2.2.1, s1 s hs, t1 s hs⟩, ⟨fun i j _ h => s2 i j h, fun j _ _ => s2 8 j (by omega), fun i j _ h => t2 i j h, fun j _ _ => t2 53 j (fun e => by omega)⟩, funext fun j => s2 8 j (by omega), funext fun j => t2 53 j (fun e => by omega)⟩
      unfold Nr_setUsual
      rw [e1]; rfl
    refine lp_inv (fun i (q : Int32 × Sm) => q.1 = nI i ∧ (∀ s, s < i → gi q.2 (64 + k) (base + s) = nI (usN k s)) ∧ ∀ i' j, ¬ (i' = 64 + k ∧ base ≤ j ∧ j < base + nsN k) → q.2.1 i' j = T.1 i' j) (nsN k) (by omega) ⟨rfl, fun s z => absurd z (by omega), fun _ _ _ => rfl⟩ (fun i q hi hq => ?_) (fun q hq => ?_)
    · obtain ⟨k', T1⟩ := q
      obtain ⟨(e : k' = nI i), g1, g2⟩ := hq
      subst e
      refine Or.inl ⟨(nI (i + 1), si T1 (64 + k) (base + i) (nI (usN k i))), ?_, rfl, fun s hs => ?_, fun i' j hn => ?_⟩
      · unfold niL3
        dsimp only
        rw [if_neg (show ¬ nI (nsN k) ≤ nI i from fun z => by have := (q_le (by omega) (by omega)).mp z; omega), q_add, if_pos (nI_in (by omega) (by omega)), q_ix (by omega), (rng i hi).2.2.2.2.2.1, show nI i + 1 = nI (i + 1) from q_add i 1]
      · by_cases y : s = i
        · rw [y]; exact tb_h
        · exact (tb_n (fun e => y (by omega))).trans (g1 s (by omega))
      · exact (tb_n (fun e => hn ⟨e.1, by omega, by omega⟩)).trans (g2 i' j hn)
    · obtain ⟨k', T1⟩ := q
      obtain ⟨(e : k' = nI (nsN k)), g1, g2⟩ := hq
      subst e
      refine ⟨T1, ?_, g1, g2⟩
      unfold niL3
      exact if_pos (nI_le (Nat.le_refl _) (by omega))
  refine lp_inv (fun i (q : Int32 × Sm) => q.1 = nI i ∧ (∀ s, s < nsN k → s < i → gi q.2 19 s = nI (usN k s)) ∧ ∀ i' j, i' ≠ 19 → q.2.1 i' j = S.1 i' j) 4 (by omega) ⟨rfl, fun s _ z => absurd z (by omega), fun _ _ _ => rfl⟩ (fun i q hi hq => ?_) (fun q hq => ?_)
  · obtain ⟨k', S1⟩ := q
    obtain ⟨(e : k' = nI i), g1, g2⟩ := hq
    subst e
    refine Or.inl ⟨(nI (i + 1), si S1 19 i (atF (cst 2) 16 (nI k * 4 + nI i))), ?_, rfl, fun s hs hs2 => ?_, fun i' j hn => ?_⟩
    · unfold Nr_setUsual_L2
      dsimp only
      rw [if_neg (show ¬ (4 : Int32) ≤ nI i from fun z => by have := (q_le (a := 4) (by omega) (by omega)).mp z; omega), q_pu (by omega) (by omega), q_app, show nI i + 1 = nI (i + 1) from q_add i 1]
    · by_cases y : s = i
      · rw [y] at hs ⊢
        exact tb_h.trans (rng i hs).2.2.2.2.1
      · exact (tb_n (fun e => y e.2)).trans (g1 s hs (by omega))
    · exact (tb_n (fun e => hn e.1)).trans (g2 i' j hn)
  · obtain ⟨k', S1⟩ := q
    obtain ⟨(e : k' = nI 4), g1, g2⟩ := hq
    subst e
    exact ⟨S1, rfl, fun s hs => g1 s hs (by omega), g2⟩
/-- what the items of a clause come to -/
def NiQ (n : Nat) (b : Nat → Nat) (k base i : Nat) (T0 S0 T S : Sm) : Prop := NiF k base T0 S0 T S ∧ ((∃ i', i ≤ i' ∧ LxN n b i' ∧ LxO n b i' T S ∧ NiV k base T S) ∨ ∃ p, p ≤ n ∧ gi S 8 3 = nI p ∧ (gi T 53 4 = nI p ∨ (gi T 53 4 = mI ∧ gi T 53 3 = nI p ∧ LxN n b p ∧ p < n ∧ b p ≠ 59)))
theorem NiF.tr {k base : Nat} {T1 S1 : Sm} (h : NiF k base T0 S0 T S) (g : NiF k base T S T1 S1) : NiF k base T0 S0 T1 S1 := ⟨fun i j a c => (g.1 i j a c).trans (h.1 i j a c), fun j a c => (g.2.1 j a c).trans (h.2.1 j a c), fun i j a c => (g.2.2.1 i j a c).trans (h.2.2.1 i j a c), fun j a c => (g.2.2.2 j a c).trans (h.2.2.2 j a c)⟩
theorem ni_mv {k base i : Nat} (hk : k < 4) : NiF k base T S (si T 53 3 (nI i)) (si S 8 2 (nI i)) := ⟨fun i j a c => tb_n fun e => a e.1, fun j a c => tb_n fun e => a e.2, fun i j a c => tb_n fun e => a e.1, fun j a c => tb_n fun e => a e.2⟩
theorem NmF.ni {k base : Nat} {T1 S1 : Sm} (h : NmF T T1 S S1) : NiF k base T S T1 S1 := ⟨fun i j a _ => h.1 i j a, h.2.1, fun i j a _ => h.2.2.1 i j a, h.2.2.2⟩
theorem ni_loop {k base z i : Nat} (h : LxO n b i T S) (hk : k < 4) (hz : base + nsN k ≤ z) (hz2 : z ≤ 100) (hv : NiV k base T S) : ∃ S' T' q4, (Nr_readItems (nI k) S = some S') ∧ Md_look T = some q4 ∧ lpN (niL41 (64 + k) z (nI (kcN k)) (nI base)) FU (0, slN k q4.1, q4.2) = some T' ∧ NiQ n b k base i T S T' S' := by
  obtain ⟨ns4, -⟩ := ns_le k
  have n240 := h.1.1
  have hb := h.1.2.1
  have rng := t_rng k hk
  obtain ⟨k0, a1, a2, a3, a4, a5⟩ := lx_look h
  suffices hl : ∃ r T', lpN (Nr_readItems_L4 (nI k)) FU (0, 0, S) = some r ∧ lpN (niL41 (64 + k) z (nI (kcN k)) (nI base)) FU (0, slN k (lxs n b k0), si T 53 3 (nI k0)) = some T' ∧ ((∃ S', (r = .inl S' ∨ r = .inr (.inr S')) ∧ NiQ n b k base i T S T' S') ∨ ∃ S', r = .inr (.inl S') ∧ NiQ n b k base i T S T' (Tp_fail S')) by
    obtain ⟨r, T', e1, e2, ⟨S', rfl | rfl, h3⟩ | ⟨S', rfl, h3⟩⟩ := hl
    · refine ⟨S', T', _, ?_, a5, e2, h3⟩
      unfold Nr_readItems
      rw [e1]; rfl
    · refine ⟨S', T', _, ?_, a5, e2, h3⟩
      unfold Nr_readItems
      rw [e1]; rfl
    · refine ⟨Tp_fail S', T', _, ?_, a5, e2, h3⟩
      unfold Nr_readItems
      rw [e1]; rfl
  refine lp_rel (Q := fun (r : Sm ⊕ (Sm ⊕ Sm)) (T' : Sm) => (∃ S', (r = .inl S' ∨ r = .inr (.inr S')) ∧ NiQ n b k base i T S T' S') ∨ ∃ S', r = .inr (.inl S') ∧ NiQ n b k base i T S T' (Tp_fail S')) (fun it (s t : Int32 × Int32 × Sm) => s.2.1 = nI it ∧ NiF k base T S t.2.2 s.2.2 ∧ ((∃ B j T1 v, B < 16 ∧ (∀ x, B.testBit x = true → x < nsN k) ∧ cntN (fun x => B.testBit x) 4 = it ∧ s.1 = nI B ∧ t.1 = nI B ∧ i ≤ j ∧ LxO n b j T1 s.2.2 ∧ NiV k base T1 s.2.2 ∧ NiF k base T S T1 s.2.2 ∧ Md_look T1 = some (v, t.2.2) ∧ t.2.1 = slN k v) ∨ ∃ p, p ≤ n ∧ gi s.2.2 8 3 = nI p ∧ gi t.2.2 53 4 = nI p)) 5 (by omega) ⟨rfl, ⟨fun _ _ _ _ => rfl, fun _ _ _ => rfl, fun i j a c => tb_n fun e => a e.1, fun j a c => tb_n fun e => a e.2⟩, Or.inl ⟨0, i, T, lxs n b k0, by omega, fun x hx => absurd hx (by rw [Nat.zero_testBit]; exact Bool.false_ne_true), by decide, rfl, rfl, Nat.le_refl _, h, hv, ⟨fun _ _ _ _ => rfl, fun _ _ _ => rfl, fun _ _ _ _ => rfl, fun _ _ _ => rfl⟩, a5, rfl⟩⟩ (fun it s t hi hq => ?_) (fun s t hq => ?_)
  · obtain ⟨s1, s2, S1⟩ := s
    obtain ⟨t1, t2, T2⟩ := t
    obtain ⟨(e2 : s2 = nI it), (hF : NiF k base T S T2 S1), hq⟩ := hq
    subst e2
    have c4 : ¬ (4 : Int32) < nI it := nI_nlt (a := 4) (b := it) (by omega) (by omega)
    rcases hq with ⟨B, j, T1, v, hB, hBs, hBc, (f1 : s1 = nI B), (f2 : t1 = nI B), hij, (hO : LxO n b j T1 S1), (hV : NiV k base T1 S1), (hF1 : NiF k base T S T1 S1), (hL : Md_look T1 = some (v, T2)), (f3 : t2 = slN k v)⟩ | ⟨p, hp, (p1 : gi S1 8 3 = nI p), (p2 : gi T2 53 4 = nI p)⟩
    · subst f1 f2 f3
      obtain ⟨k1, c1, c2, c3, c5, c6⟩ := lx_look hO
      have ev := Option.some.inj (hL.symm.trans c6)
      have ev1 : v = lxs n b k1 := congrArg Prod.fst ev
      have ev2 : T2 = si T1 53 3 (nI k1) := congrArg Prod.snd ev
      subst ev1 ev2
      have hO1 := hO.move c2
      obtain ⟨sl1, sl2⟩ := lx_slot hb hk k1 (si S1 8 2 (nI k1))
      have w1 : gi (si T1 53 3 (nI k1)) 53 4 = mI := hO1.2.2.1
      unfold Nr_readItems_L4 niL41
      dsimp only
      rw [if_neg c4, c5, q_bind, w1, if_pos (show mI = -1 from rfl)]
      dsimp only
      rw [sl1, q_bind]
      have F1 : NiF k base T S (si T1 53 3 (nI k1)) (si S1 8 2 (nI k1)) := hF1.tr (ni_mv hk)
      rcases sl2 with e | ⟨kn, s, hs, e⟩
      · rw [e, if_pos (show mI = -1 from rfl), if_pos (show mI = -1 from rfl)]
        exact Or.inr ⟨_, _, rfl, rfl, Or.inl ⟨_, Or.inl rfl, F1, Or.inl ⟨k1, by omega, c3, hO1, fun s hs => (hV s hs).elim fun x hx => ⟨x, hx.1, hx.2.1, (tb_n (fun e => absurd e.1 (by decide))).trans hx.2.2.1, (tb_n (fun e => by omega)).trans hx.2.2.2⟩⟩⟩⟩
      · have ns : ¬ nI s = -1 := fun z => (q_eqm (by omega)).mp z
        rw [e, if_neg ns, if_neg ns, q_holds (by omega) (by omega), q_has (by omega) (by omega)]
        by_cases d : B.testBit s = true
        · rw [d, bI_t, if_neg (show ¬ nI 1 = 0 by decide), if_neg (show ¬ nI 1 = 0 by decide)]
          refine Or.inr ⟨_, _, rfl, rfl, Or.inr ⟨_, rfl, ?_⟩⟩
          rw [(lx_fail hO1).1]
          refine ⟨⟨fun i j a c => (tb_n (fun e => a e.1)).trans (F1.1 i j a c), fun j a c => (tb_n (fun e => c e.2)).trans (F1.2.1 j a c), F1.2.2.1, F1.2.2.2⟩, Or.inr ⟨k1, c2, tb_h, Or.inr ⟨w1, tb_h, c3, kn, fun z => ?_⟩⟩⟩
          rw [lxs_in kn, z, sl_59 k hk] at e
          exact (q_meq (a := s) (by omega)).mp e
        · have d0 : B.testBit s = false := Bool.eq_false_iff.mpr d
          rw [d0, bI_f, if_pos (show nI 0 = 0 from rfl), if_pos (show nI 0 = 0 from rfl)]
          have tk := lx_take hO1 c3 (lxs n b k1)
          rw [if_pos rfl, lx_ss] at tk
          obtain ⟨r1, r2, r3, r4, -, -, r7, r8, r9⟩ := rng s hs
          have kn' : k1 + 1 ≤ n := kn
          have h2 := hO.move kn'
          rw [tk, q_bind, show nI k * 4 = nI k * 4 from rfl, r1, r2, r3, r4, show gi (si T1 53 3 (nI k1)) 53 3 = nI k1 from tb_h, lx_ss, show nI k1 + 1 = nI (k1 + 1) from q_add k1 1]
          dsimp only
          have mk : nI B ||| iShl 1 (nI s) = nI (B ||| 2 ^ s) := by
            rw [show (1 : Int32) = nI 1 from rfl, q_shl (by omega), q_or]
          have mk16 : B ||| 2 ^ s < 16 := mask_lt (n := 4) hB (bit_lt (n := 4) (by omega))
          have ibx : inb (nI base + nI s) z := by rw [q_add]; exact nI_in (by omega) (by omega)
          have iix : ix (nI base + nI s) = base + s := by rw [q_add, q_ix (by omega)]
          have mkt : ∀ x, (B ||| 2 ^ s).testBit x = true ↔ (B.testBit x = true ∨ s = x) := fun x => by
            rw [Nat.testBit_or, tb_pow, Bool.or_eq_true, decide_eq_true_eq]
          have mkc : cntN (fun x => (B ||| 2 ^ s).testBit x) 4 = it + 1 := by
            have key : ∀ m, cntN (fun x => (B ||| 2 ^ s).testBit x) m = cntN (fun x => B.testBit x) m + (if s < m then 1 else 0) := fun m => by
              induction m with
              | zero => rfl
              | succ m ih =>
                rw [cnt_s, cnt_s, ih]
                by_cases y : s = m
                · subst y
                  rw [if_pos ((mkt s).mpr (Or.inr rfl)), if_neg d, if_neg (Nat.lt_irrefl s), if_pos (Nat.lt_succ_self s)]
                · by_cases x : B.testBit m = true
                  · rw [if_pos ((mkt m).mpr (Or.inl x)), if_pos x]
                    by_cases u : s < m
                    · rw [if_pos u, if_pos (by omega)]
                    · rw [if_neg u, if_neg (by omega)]
                  · rw [if_neg (fun z => ((mkt m).mp z).elim x y), if_neg x]
                    by_cases u : s < m
                    · rw [if_pos u, if_pos (by omega)]
                    · rw [if_neg u, if_neg (by omega)]
            rw [key, hBc, if_pos (by omega)]
          rcases num_2 h2 (lo := loN k s) (hi := hiN k s) (by omega) r9 with ⟨x, k', x1, x2, x3, x4, x5, x6⟩ | ⟨p, y, zz, S3, T3, hp, x5, x6, x7, x8, x9⟩
          · rw [lx_ss] at x5 x6
            have h3 := hO.move (show k' ≤ n from x4)
            have g1 : NiF k base T1 S1 (si (si T1 53 3 (nI k')) (64 + k) (base + s) (nI x)) (si (si S1 8 2 (nI k')) 19 s (nI x)) := ⟨fun i j a c => (tb_n (fun e => c e.1)).trans (tb_n fun e => a e.1), fun j a c => (tb_n (fun e => absurd e.1 (by decide))).trans (tb_n fun e => a e.2), fun i j a c => (tb_n (fun e => c ⟨e.1, by omega, by omega⟩)).trans (tb_n fun e => a e.1), fun j a c => (tb_n (fun e => by omega)).trans (tb_n fun e => a e.2)⟩
            have O3 : LxO n b k' (si (si T1 53 3 (nI k')) (64 + k) (base + s) (nI x)) (si (si S1 8 2 (nI k')) 19 s (nI x)) := ⟨g1.B hk hO.1, (tb_n (fun e => absurd e.1 (by decide))).trans h3.2.1, (tb_n (fun e => by omega)).trans h3.2.2.1, (tb_n (fun e => absurd e.1 (by decide))).trans h3.2.2.2.1, (tb_n (fun e => by omega)).trans h3.2.2.2.2.1, x4⟩
            obtain ⟨k2, y1, y2, y3, -, y5⟩ := lx_look O3
            rw [x5, x6, q_bind, q_bind, q_pu (by omega) (by omega), q_app, if_pos ibx, iix]
            dsimp only
            rw [show gi (si (si T1 53 3 (nI k')) (64 + k) (base + s) (nI x)) 53 4 = mI from O3.2.2.1, if_pos (show mI = -1 from rfl), y5, q_bind, mk, show nI it + 1 = nI (it + 1) from q_add it 1]
            refine Or.inl ⟨_, _, rfl, rfl, rfl, hF1.tr (g1.tr ⟨fun _ _ _ _ => rfl, fun _ _ _ => rfl, fun i j a c => tb_n fun e => a e.1, fun j a c => tb_n fun e => a e.2⟩), Or.inl ⟨B ||| 2 ^ s, k', _, _, mk16, fun x hx => ((mkt x).mp hx).elim (hBs x) (fun e => by omega), mkc, rfl, rfl, by omega, O3, fun s' hs' => ?_, hF1.tr g1, y5, rfl⟩⟩
            by_cases u : s' = s
            · subst u
              exact ⟨x, x1, x2, tb_h, tb_h⟩
            · obtain ⟨x', v1, v2, v3, v4⟩ := hV s' hs'
              exact ⟨x', v1, v2, (tb_n (fun e => u e.2)).trans ((tb_n (fun e => absurd e.1 (by decide))).trans v3), (tb_n (fun e => by omega)).trans ((tb_n (fun e => by omega)).trans v4)⟩
          · have g1 : NiF k base T1 S1 T3 S3 := (NiF.tr (T0 := T1) (S0 := S1) (ni_mv (i := k1 + 1) hk) x9.ni)
            have g2 : NiF k base T1 S1 (si T3 (64 + k) (base + s) zz) (si S3 19 s y) := g1.tr ⟨fun i j a c => tb_n fun e => c e.1, fun j a c => tb_n fun e => absurd e.1 (by decide), fun i j a c => tb_n fun e => c ⟨e.1, by omega, by omega⟩, fun j a c => tb_n fun e => by omega⟩
            have w4 : gi (si T3 (64 + k) (base + s) zz) 53 4 = nI p := (tb_n (fun e => by omega)).trans x8
            rw [x5, x6, q_bind, q_bind, q_pu (by omega) (by omega), q_app, if_pos ibx, iix]
            dsimp only
            rw [w4, if_neg (show ¬ nI p = -1 from fun z => (q_eqm (by omega)).mp z), show nI it + 1 = nI (it + 1) from q_add it 1]
            exact Or.inl ⟨_, _, rfl, rfl, rfl, hF1.tr g2, Or.inr ⟨p, hp, (tb_n (fun e => absurd e.1 (by decide))).trans x7, w4⟩⟩
    · have ss : Tp_sign S1 = some (mI, S1) := by
        unfold Tp_sign
        rw [p1, if_neg (show ¬ nI p = -1 from fun z => (q_eqm (by omega)).mp z)]; rfl
      unfold Nr_readItems_L4 niL41
      dsimp only
      rw [if_neg c4, ss, q_bind, p2, if_neg (show ¬ nI p = -1 from fun z => (q_eqm (by omega)).mp z)]
      dsimp only
      rw [show Nr_slotOf (nI k) mI S1 = some mI from (t_slotm k hk).1, q_bind, if_pos (show mI = -1 from rfl)]
      exact Or.inr ⟨_, _, rfl, rfl, Or.inl ⟨_, Or.inl rfl, hF, Or.inr ⟨p, hp, p1, Or.inl p2⟩⟩⟩
  · obtain ⟨s1, s2, S1⟩ := s
    obtain ⟨t1, t2, T2⟩ := t
    obtain ⟨(e2 : s2 = nI 5), (hF : NiF k base T S T2 S1), hq⟩ := hq
    rcases hq with ⟨B, j, T1, v, hB, hBs, hBc, -⟩ | ⟨p, hp, p1, p2⟩
    · have := cnt_le (fun x => B.testBit x) 4
      omega
    · have p2 : gi T2 53 4 = nI p := p2
      subst e2
      refine ⟨.inr (.inr S1), T2, ?_, ?_, Or.inl ⟨S1, Or.inr rfl, hF, Or.inr ⟨p, hp, p1, Or.inl p2⟩⟩⟩
      · unfold Nr_readItems_L4
        exact if_pos (show (4 : Int32) < nI 5 by decide)
      · unfold niL41
        exact if_neg (show ¬ gi T2 53 4 = -1 from by rw [p2]; exact fun z => (q_eqm (by omega)).mp z)
end NI
