/-! ===== a net begins: the class ===== -/
section BG
variable {T S : Sm}
/-- the darks, lengths and ends of the tunnels of a draft -/
def dkN (S : Sm) (e : Nat) : Nat := 5 * xN S 1 e 0 + xN S 1 e 1
theorem dk_lt {m : Nat → Nat} (h : NdO m T S) {e : Nat} (he : e < m 1) : xN S 1 e 0 ≤ 7 ∧ xN S 1 e 1 ≤ 4 ∧ xN S 1 e 2 ≤ 8 ∧ 1 ≤ xN S 1 e 3 ∧ xN S 1 e 3 ≤ 9 ∧ dkN S e < 40 := by
  obtain ⟨-, a, -⟩ := nd_x h (k := 1) (e := e) (s := 0) (by omega) he (by decide)
  obtain ⟨-, b, -⟩ := nd_x h (k := 1) (e := e) (s := 1) (by omega) he (by decide)
  obtain ⟨-, c, -⟩ := nd_x h (k := 1) (e := e) (s := 2) (by omega) he (by decide)
  obtain ⟨d1, d2, -⟩ := nd_x h (k := 1) (e := e) (s := 3) (by omega) he (by decide)
  have a : xN S 1 e 0 ≤ 7 := a
  have b : xN S 1 e 1 ≤ 4 := b
  have c : xN S 1 e 2 ≤ 8 := c
  have d1 : 1 ≤ xN S 1 e 3 := d1
  have d2 : xN S 1 e 3 ≤ 9 := d2
  exact ⟨a, b, c, d1, d2, by show 5 * xN S 1 e 0 + xN S 1 e 1 < 40; omega⟩
theorem dk_ne {m : Nat → Nat} (h : NdO m T S) (hs : SndN m S) {e e' : Nat} (he : e < m 1) (he' : e' < e) : dkN S e' ≠ dkN S e := fun z => by
  have a := dk_lt h he
  have b := dk_lt h (show e' < m 1 by omega)
  have z : 5 * xN S 1 e' 0 + xN S 1 e' 1 = 5 * xN S 1 e 0 + xN S 1 e 1 := z
  exact (hs.1 e he).2.2.2 e' he' ⟨by omega, by omega⟩
/-- numbers by dark: of the first i tunnels, and else what was there -/
def ByD (S : Sm) (i : Nat) (v : Nat → Int32) (d0 f : Nat → Int32) : Prop := (∀ e, e < i → f (dkN S e) = v e) ∧ ∀ d, (∀ e, e < i → dkN S e ≠ d) → f d = d0 d
theorem ByD.step {m : Nat → Nat} (h : NdO m T S) (hs : SndN m S) {i : Nat} {v : Nat → Int32} {d0 f f' : Nat → Int32} (g : ByD S i v d0 f) (hi : i < m 1) (h1 : f' (dkN S i) = v i) (h2 : ∀ d, d ≠ dkN S i → f' d = f d) : ByD S (i + 1) v d0 f' := by
  refine ⟨fun e he => ?_, fun d hd => ?_⟩
  · by_cases y : e = i
    · rw [y]; exact h1
    · rw [h2 _ (dk_ne h hs hi (show e < i by omega))]; exact g.1 e (by omega)
  · rw [h2 d fun z => hd i (by omega) z.symm]
    exact g.2 d fun e he => hd e (by omega)
/-- what the class's net is then -/
theorem nt_begin {m : Nat → Nat} (h : NdO m T S) (hs : SndN m S) : ∃ S', Nt_become_14 S = some S' ∧ (∀ i j, i ≠ 11 → i ≠ 12 → i ≠ 13 → S'.1 i j = S.1 i j) ∧ (∀ j, j < 116 → gi S' 11 j = gi S 15 j) ∧ (∀ j, j < 4 → gi S' 12 j = gi S 16 j) ∧ (∀ d, d < 40 → (∀ e, e < m 1 → dkN S e ≠ d) → gi S' 13 d = nI 1) ∧ ∀ e, e < m 1 → gi S' 13 (dkN S e) = nI (xN S 1 e 3) := by
  have m18 : m 1 ≤ 18 := (h.1 1 (by omega)).1
  generalize hSb : sc (sc S 15 11 116) 16 12 4 = Sb
  have b11 : ∀ j, j < 116 → gi Sb 11 j = gi S 15 j := fun j hj => by
    subst hSb
    show (sc (sc S 15 11 116) 16 12 4).1 11 j = _
    rw [sc_o (by omega), sc_i hj]; rfl
  have b12 : ∀ j, j < 4 → gi Sb 12 j = gi S 16 j := fun j hj => by
    subst hSb
    show (sc (sc S 15 11 116) 16 12 4).1 12 j = _
    rw [sc_i hj, sc_o (by omega)]; rfl
  have bo : ∀ i j, i ≠ 11 → i ≠ 12 → Sb.1 i j = S.1 i j := fun i j a c => by
    subst hSb
    rw [sc_o c, sc_o a]
  obtain ⟨S1, e1, f1, f2⟩ : ∃ S1, lpN Nt_become_14_L24 FU (0, Sb) = some S1 ∧ (∀ i j, i ≠ 13 → S1.1 i j = Sb.1 i j) ∧ ∀ d, d < 40 → gi S1 13 d = nI 1 := by
    refine lp_inv (fun i (q : Int32 × Sm) => q.1 = nI i ∧ (∀ i j, i ≠ 13 → q.2.1 i j = Sb.1 i j) ∧ ∀ d, d < i → gi q.2 13 d = nI 1) 40 (by omega) ⟨rfl, fun _ _ _ => rfl, fun k z => absurd z (by omega)⟩ (fun i q hi hq => ?_) (fun q hq => ?_)
    · obtain ⟨k', S2⟩ := q
      obtain ⟨(e : k' = nI i), g1, g2⟩ := hq
      subst e
      refine Or.inl ⟨(nI (i + 1), si S2 13 i (nI 1)), ?_, rfl, fun i' j hn => (tb_n fun e => hn e.1).trans (g1 i' j hn), fun k hk => ?_⟩
      · unfold Nt_become_14_L24
        dsimp only
        rw [if_neg (show ¬ (40 : Int32) ≤ nI i from fun z => by have := (q_le (a := 40) (by omega) (by omega)).mp z; omega), q_pu hi (by omega), q_app, show nI i + 1 = nI (i + 1) from q_add i 1]; rfl
      · by_cases y : k = i
        · rw [y]; exact tb_h
        · exact (tb_n fun e => y e.2).trans (g2 k (by omega))
    · obtain ⟨k', S2⟩ := q
      obtain ⟨(e : k' = nI 40), g1, g2⟩ := hq
      subst e
      exact ⟨S2, rfl, g1, g2⟩
  have it : ∀ S2 : Sm, (∀ i j, i ≠ 13 → S2.1 i j = Sb.1 i j) → ∀ e, e < m 1 → Nt_darkOfTunnel (nI e) S2 = nI (dkN S e) ∧ Nt_item 1 (nI e) 3 S2 = nI (xN S 1 e 3) := fun S2 g e he => by
    have r : ∀ s, s < 4 → gi S2 11 (4 + 4 * e + s) = nI (xN S 1 e s) := fun s hs => by
      have x := (nd_x h (k := 1) (e := e) (s := s) (by omega) he hs).2.2.1
      rw [dr_it (k := 1) (by omega) (show e < 18 by omega) hs] at x
      have e5 : 4 * (fiN 1 + e) + s = 4 + 4 * e + s := by show 4 * (1 + e) + s = _; omega
      rw [e5] at x
      exact (g 11 _ (by omega)).trans ((b11 _ (by omega)).trans x)
    have a := dk_lt h he
    refine ⟨nt_dk (by omega) (by omega) (by omega) (r 0 (by omega)) (r 1 (by omega)), (it_1 (s := 3) (by omega) (by omega)).trans (r 3 (by omega))⟩
  obtain ⟨S2, e2, k1, k2⟩ : ∃ S2, lpN Nt_become_14_L47 FU (0, S1) = some S2 ∧ (∀ i j, i ≠ 13 → S2.1 i j = Sb.1 i j) ∧ ByD S (m 1) (fun e => nI (xN S 1 e 3)) (S1.1 13) (S2.1 13) := by
    refine lp_inv (fun i (q : Int32 × Sm) => q.1 = nI i ∧ (∀ i j, i ≠ 13 → q.2.1 i j = Sb.1 i j) ∧ ByD S i (fun e => nI (xN S 1 e 3)) (S1.1 13) (q.2.1 13)) (m 1) (by omega) ⟨rfl, f1, fun e z => absurd z (by omega), fun _ _ => rfl⟩ (fun i q hi hq => ?_) (fun q hq => ?_)
    · obtain ⟨k', S2⟩ := q
      obtain ⟨(e : k' = nI i), g1, g2⟩ := hq
      subst e
      obtain ⟨i1, i2⟩ := it S2 g1 i hi
      have a := dk_lt h hi
      have many : Nt_many 1 S2 = nI (m 1) := (q_at (a := 1) (by omega) (by omega)).trans ((g1 12 1 (by omega)).trans ((b12 1 (by omega)).trans (h.1 1 (by omega)).2))
      refine Or.inl ⟨(nI (i + 1), si S2 13 (dkN S i) (nI (xN S 1 i 3))), ?_, rfl, fun i' j hn => (tb_n fun e => hn e.1).trans (g1 i' j hn), g2.step h hs hi tb_h fun d hd => tb_n fun e => hd e.2⟩
      unfold Nt_become_14_L47
      dsimp only
      rw [many, if_neg (nI_ge hi (by omega)), i1, i2, q_pu a.2.2.2.2.2 (by omega), q_app, show nI i + 1 = nI (i + 1) from q_add i 1]
    · obtain ⟨k', S2⟩ := q
      obtain ⟨(e : k' = nI (m 1)), g1, g2⟩ := hq
      subst e
      have many : Nt_many 1 S2 = nI (m 1) := (q_at (a := 1) (by omega) (by omega)).trans ((g1 12 1 (by omega)).trans ((b12 1 (by omega)).trans (h.1 1 (by omega)).2))
      refine ⟨S2, ?_, g1, g2⟩
      unfold Nt_become_14_L47
      exact if_pos (by rw [many]; exact nI_le (Nat.le_refl _) (by omega))
  refine ⟨S2, ?_, fun i j a c d => (k1 i j d).trans (bo i j a c), fun j hj => (k1 11 j (by omega)).trans (b11 j hj), fun j hj => (k1 12 j (by omega)).trans (b12 j hj), fun d hd hn => (k2.2 d hn).trans (f2 d hd), k2.1⟩
  unfold Nt_become_14
  rw [q_app, q_app, hSb, e1, q_bind, e2]; rfl
/-- the moment that begins, with the class -/
theorem mo_begin {m : Nat → Nat} (h : NdO m T S) (h0 : m 0 = 1) (hs : SndN m S) {S1 : Sm} (h11 : ∀ j, j < 116 → gi S1 11 j = gi S 15 j) (h12 : ∀ j, j < 4 → gi S1 12 j = gi S 16 j) : ∃ S', Mo_begin_10 S1 = some S' ∧ (∀ i j, i ≠ 25 → i ≠ 26 → i ≠ 27 → i ≠ 28 → S'.1 i j = S1.1 i j) ∧ (gi S' 25 4 = nI (m 2) ∧ gi S' 25 5 = nI (xN S 0 0 2) ∧ gi S' 25 6 = nI 0 ∧ gi S' 25 7 = nI 0) ∧ (∀ mm c, mm < 8 → c < 5 → (∀ e, e < m 1 → dkN S e ≠ 5 * mm + c) → gi S' 27 (5 * mm + c) = nI mm) ∧ (∀ e, e < m 1 → gi S' 27 (dkN S e) = if xN S 1 e 2 = 8 then mI else nI (xN S 1 e 2)) ∧ (∀ r, r < m 2 → gi S' 26 (7 * r) = nI (xN S 2 r 0) ∧ gi S' 26 (7 * r + 1) = nI (xN S 2 r 1) ∧ gi S' 26 (7 * r + 2) = nI (xN S 0 0 2 + xN S 2 r 2) ∧ gi S' 26 (7 * r + 3) = nI (xN S 0 0 2 + xN S 2 r 2) ∧ gi S' 26 (7 * r + 4) = nI (xN S 2 r 3) ∧ gi S' 26 (7 * r + 5) = nI 0) ∧ ∀ g, g < 8 → gi S' 28 g = nI (cntN (fun e => decide (xN S 3 e 0 = g)) (m 3)) := by
  have m18 : m 1 ≤ 18 := (h.1 1 (by omega)).1
  have m26 : m 2 ≤ 6 := (h.1 2 (by omega)).1
  have m34 : m 3 ≤ 4 := (h.1 3 (by omega)).1
  have e8 : ∀ a, a < 1000 → (nI a = (8 : Int32) ↔ a = 8) := fun a ha => q_eq (b := 8) (by omega) (by omega)
  have many : ∀ k, k < 4 → ∀ S2 : Sm, (∀ j, S2.1 12 j = S1.1 12 j) → Nt_many (nI k) S2 = nI (m k) := fun k hk S2 g => (q_at hk (by omega)).trans ((g k).trans ((h12 k hk).trans (h.1 k hk).2))
  have r1 : ∀ S2 : Sm, (∀ j, S2.1 11 j = S1.1 11 j) → ∀ e, e < m 1 → ∀ s, s < 4 → gi S2 11 (4 + 4 * e + s) = nI (xN S 1 e s) := fun S2 g e he s hs => by
    have x := (nd_x h (k := 1) (e := e) (s := s) (by omega) he hs).2.2.1
    rw [dr_it (k := 1) (by omega) (show e < 18 by omega) hs] at x
    have e5 : 4 * (fiN 1 + e) + s = 4 + 4 * e + s := by show 4 * (1 + e) + s = _; omega
    rw [e5] at x
    exact (g _).trans ((h11 _ (by omega)).trans x)
  have r2 : ∀ S2 : Sm, (∀ j, S2.1 11 j = S1.1 11 j) → ∀ e, e < m 2 → ∀ s, s < 4 → Nt_item 2 (nI e) (nI s) S2 = nI (xN S 2 e s) := fun S2 g e he s hs => by
    have x := (nd_x h (k := 2) (e := e) (s := s) (by omega) he hs).2.2.1
    rw [dr_it (k := 2) (by omega) (show e < 6 by omega) hs] at x
    have e5 : 4 * (fiN 2 + e) + s = 76 + 4 * e + s := by show 4 * (19 + e) + s = _; omega
    rw [e5] at x
    exact (it_2 (by omega) hs).trans ((g _).trans ((h11 _ (by omega)).trans x))
  have r3 : ∀ S2 : Sm, (∀ j, S2.1 11 j = S1.1 11 j) → ∀ e, e < m 3 → Nt_item 3 (nI e) 0 S2 = nI (xN S 3 e 0) := fun S2 g e he => by
    have x := (nd_x h (k := 3) (e := e) (s := 0) (by omega) he (by decide)).2.2.1
    rw [dr_it (k := 3) (by omega) (show e < 4 by omega) (by omega)] at x
    have e5 : 4 * (fiN 3 + e) + 0 = 100 + 4 * e + 0 := by show 4 * (25 + e) + 0 = _; omega
    rw [e5] at x
    exact (it_3 (s := 0) (by omega) (by omega)).trans ((g _).trans ((h11 _ (by omega)).trans x))
  have hour : ∀ S2 : Sm, (∀ j, S2.1 11 j = S1.1 11 j) → Nt_hour S2 = nI (xN S 0 0 2) := fun S2 g => by
    have x := (nd_x h (k := 0) (e := 0) (s := 2) (by omega) (by omega) (by decide)).2.2.1
    rw [dr_it (k := 0) (by omega) (by decide) (by omega)] at x
    have e5 : 4 * (fiN 0 + 0) + 2 = 2 := rfl
    rw [e5] at x
    exact (nim_0 (S := S2) (s := 2) (by omega)).trans ((g _).trans ((h11 _ (by omega)).trans x))
  have h23 : xN S 0 0 2 ≤ 23 := (nd_x h (k := 0) (e := 0) (s := 2) (by omega) (by omega) (by decide)).2.1
  generalize hSa : si (si (si (si S1 25 4 0) 25 5 (Nt_hour (si S1 25 4 0))) 25 6 0) 25 7 0 = Sa
  have ao : ∀ i j, i ≠ 25 → Sa.1 i j = S1.1 i j := fun i j a => by
    subst hSa
    show gi _ i j = gi S1 i j
    rw [tb_n fun x => a x.1, tb_n fun x => a x.1, tb_n fun x => a x.1, tb_n fun x => a x.1]
  have a25 : gi Sa 25 4 = nI 0 ∧ gi Sa 25 5 = nI (xN S 0 0 2) ∧ gi Sa 25 6 = nI 0 ∧ gi Sa 25 7 = nI 0 := by
    subst hSa
    refine ⟨?_, ?_, ?_, ?_⟩
    · rw [tb_n fun x => absurd x.2 (by decide), tb_n fun x => absurd x.2 (by decide), tb_n fun x => absurd x.2 (by decide), tb_h]; rfl
    · rw [tb_n fun x => absurd x.2 (by decide), tb_n fun x => absurd x.2 (by decide), tb_h]
      exact hour _ fun j => tb_n fun x => absurd x.1 (by decide)
    · rw [tb_n fun x => absurd x.2 (by decide), tb_h]; rfl
    · exact tb_h
  have lead : ∀ (a c : Nat) (v : Int32) (S2 : Sm), a < 8 → c < 5 → Mo_lead (nI a) (nI c) v S2 = si S2 27 (5 * a + c) v := fun a c v S2 ha hc => by
    unfold Mo_lead Dk_darkOf
    rw [show (5 : Int32) = nI 5 from rfl, q_mul, q_add, q_pu (by omega) (by omega), q_app, Nat.mul_comm]
  /- darks -/
  obtain ⟨Sb, eb, b1, b2⟩ : ∃ Sb, lpN Mo_beginDarks_10_L2 FU (0, Sa) = some Sb ∧ (∀ i j, i ≠ 27 → Sb.1 i j = Sa.1 i j) ∧ ∀ a c, a < 8 → c < 5 → gi Sb 27 (5 * a + c) = nI a := by
    refine lp_inv (fun i (q : Int32 × Sm) => q.1 = nI i ∧ (∀ i j, i ≠ 27 → q.2.1 i j = Sa.1 i j) ∧ ∀ a c, a < i → c < 5 → gi q.2 27 (5 * a + c) = nI a) 8 (by omega) ⟨rfl, fun _ _ _ => rfl, fun k _ z => absurd z (by omega)⟩ (fun i q hi hq => ?_) (fun q hq => ?_)
    · obtain ⟨k', S2⟩ := q
      obtain ⟨(e : k' = nI i), g1, g2⟩ := hq
      subst e
      have g1 : ∀ i j, i ≠ 27 → S2.1 i j = Sa.1 i j := g1
      have g2 : ∀ a c, a < i → c < 5 → gi S2 27 (5 * a + c) = nI a := g2
      obtain ⟨S3, e3, k1, k2, k3⟩ : ∃ S3, lpN (Mo_beginDarks_10_L10 (nI i)) FU (0, S2) = some S3 ∧ (∀ i j, i ≠ 27 → S3.1 i j = S2.1 i j) ∧ (∀ j, j < 5 * i → gi S3 27 j = gi S2 27 j) ∧ ∀ c, c < 5 → gi S3 27 (5 * i + c) = nI i := by
        refine lp_inv (fun c (q : Int32 × Sm) => q.1 = nI c ∧ (∀ i j, i ≠ 27 → q.2.1 i j = S2.1 i j) ∧ (∀ j, j < 5 * i → gi q.2 27 j = gi S2 27 j) ∧ ∀ c', c' < c → gi q.2 27 (5 * i + c') = nI i) 5 (by omega) ⟨rfl, fun _ _ _ => rfl, fun _ _ => rfl, fun k z => absurd z (by omega)⟩ (fun c q hc hq => ?_) (fun q hq => ?_)
        · obtain ⟨k', S3⟩ := q
          obtain ⟨(e : k' = nI c), w1, w2, w3⟩ := hq
          subst e
          refine Or.inl ⟨(nI (c + 1), si S3 27 (5 * i + c) (nI i)), ?_, rfl, fun i' j hn => (tb_n fun e => hn e.1).trans (w1 i' j hn), fun j hj => (tb_n fun e => by omega).trans (w2 j hj), fun c' hc' => ?_⟩
          · unfold Mo_beginDarks_10_L10
            dsimp only
            rw [if_neg (show ¬ (5 : Int32) ≤ nI c from fun z => by have := (q_le (a := 5) (by omega) (by omega)).mp z; omega), lead i c _ _ hi hc, q_app, show nI c + 1 = nI (c + 1) from q_add c 1]
          · by_cases y : c' = c
            · rw [y]; exact tb_h
            · exact (tb_n fun e => y (by omega)).trans (w3 c' (by omega))
        · obtain ⟨k', S3⟩ := q
          obtain ⟨(e : k' = nI 5), w⟩ := hq
          subst e
          exact ⟨S3, rfl, w⟩
      refine Or.inl ⟨(nI (i + 1), S3), ?_, rfl, fun i' j hn => (k1 i' j hn).trans (g1 i' j hn), fun a c ha hc => ?_⟩
      · unfold Mo_beginDarks_10_L2
        dsimp only
        rw [if_neg (show ¬ (8 : Int32) ≤ nI i from fun z => by have := (q_le (a := 8) (by omega) (by omega)).mp z; omega), e3, q_bind, show nI i + 1 = nI (i + 1) from q_add i 1]
      · by_cases y : a = i
        · rw [y]; exact k3 c hc
        · exact (k2 _ (by omega)).trans (g2 a c (by omega) hc)
    · obtain ⟨k', S2⟩ := q
      obtain ⟨(e : k' = nI 8), g⟩ := hq
      subst e
      exact ⟨S2, rfl, g⟩
  have so1 : ∀ i j, i ≠ 25 → i ≠ 27 → Sb.1 i j = S1.1 i j := fun i j a c => (b1 i j c).trans (ao i j a)
  /- tunnels -/
  obtain ⟨Sc, ec, c1, c2⟩ : ∃ Sc, lpN Mo_beginDarks_10_L36 FU (0, Sb) = some Sc ∧ (∀ i j, i ≠ 27 → Sc.1 i j = Sb.1 i j) ∧ ByD S (m 1) (fun e => if xN S 1 e 2 = 8 then mI else nI (xN S 1 e 2)) (Sb.1 27) (Sc.1 27) := by
    refine lp_inv (fun i (q : Int32 × Sm) => q.1 = nI i ∧ (∀ i j, i ≠ 27 → q.2.1 i j = Sb.1 i j) ∧ ByD S i (fun e => if xN S 1 e 2 = 8 then mI else nI (xN S 1 e 2)) (Sb.1 27) (q.2.1 27)) (m 1) (by omega) ⟨rfl, fun _ _ _ => rfl, fun e z => absurd z (by omega), fun _ _ => rfl⟩ (fun i q hi hq => ?_) (fun q hq => ?_)
    · obtain ⟨k', S2⟩ := q
      obtain ⟨(e : k' = nI i), g1, g2⟩ := hq
      subst e
      have g1 : ∀ i j, i ≠ 27 → S2.1 i j = Sb.1 i j := g1
      have w11 : ∀ j, S2.1 11 j = S1.1 11 j := fun j => (g1 11 j (by omega)).trans (so1 11 j (by omega) (by omega))
      have a := dk_lt h hi
      have i1 : Nt_darkOfTunnel (nI i) S2 = nI (dkN S i) := nt_dk (by omega) (by omega) (by omega) (r1 S2 w11 i hi 0 (by omega)) (r1 S2 w11 i hi 1 (by omega))
      have i2 : Nt_item 1 (nI i) 2 S2 = nI (xN S 1 i 2) := (it_1 (s := 2) (by omega) (by omega)).trans (r1 S2 w11 i hi 2 (by omega))
      have mn : Nt_many 1 S2 = nI (m 1) := many 1 (by omega) S2 fun j => (g1 12 j (by omega)).trans (so1 12 j (by omega) (by omega))
      refine Or.inl ⟨(nI (i + 1), si S2 27 (dkN S i) (if xN S 1 i 2 = 8 then mI else nI (xN S 1 i 2))), ?_, rfl, fun i' j hn => (tb_n fun e => hn e.1).trans (g1 i' j hn), g2.step h hs hi tb_h fun d hd => tb_n fun e => hd e.2⟩
      unfold Mo_beginDarks_10_L36 Mo_beginDarks_10_73_L36
      dsimp only
      rw [mn, if_neg (nI_ge hi (by omega)), i1, i2]
      by_cases y : xN S 1 i 2 = 8
      · rw [if_pos y, if_pos ((e8 _ (by omega)).mpr y), q_pu a.2.2.2.2.2 (by omega), q_app, show nI i + 1 = nI (i + 1) from q_add i 1]; rfl
      · rw [if_neg y, if_neg fun z => y ((e8 _ (by omega)).mp z), q_pu a.2.2.2.2.2 (by omega), q_app, show nI i + 1 = nI (i + 1) from q_add i 1]
    · obtain ⟨k', S2⟩ := q
      obtain ⟨(e : k' = nI (m 1)), g1, g2⟩ := hq
      subst e
      have g1 : ∀ i j, i ≠ 27 → S2.1 i j = Sb.1 i j := g1
      have mn : Nt_many 1 S2 = nI (m 1) := many 1 (by omega) S2 fun j => (g1 12 j (by omega)).trans (so1 12 j (by omega) (by omega))
      refine ⟨S2, ?_, g1, g2⟩
      unfold Mo_beginDarks_10_L36
      exact if_pos (by show Nt_many 1 S2 ≤ nI (m 1); rw [mn]; exact nI_le (Nat.le_refl _) (by omega))
  have so2 : ∀ i j, i ≠ 25 → i ≠ 27 → Sc.1 i j = S1.1 i j := fun i j a c => (c1 i j c).trans (so1 i j a c)
  have c25 : ∀ j, gi Sc 25 j = gi Sa 25 j := fun j => (c1 25 j (by omega)).trans (b1 25 j (by omega))
  /- trains -/
  obtain ⟨Sd, ed, d1, d2, d3, d4⟩ : ∃ Sd, lpN Mo_begin_10_L30 FU (0, Sc) = some Sd ∧ (∀ i j, i ≠ 25 → i ≠ 26 → Sd.1 i j = Sc.1 i j) ∧ gi Sd 25 4 = nI (m 2) ∧ (∀ j, j ≠ 4 → gi Sd 25 j = gi Sc 25 j) ∧ ∀ r, r < m 2 → gi Sd 26 (7 * r + 0) = nI (xN S 2 r 0) ∧ gi Sd 26 (7 * r + 1) = nI (xN S 2 r 1) ∧ gi Sd 26 (7 * r + 2) = nI (xN S 0 0 2 + xN S 2 r 2) ∧ gi Sd 26 (7 * r + 3) = nI (xN S 0 0 2 + xN S 2 r 2) ∧ gi Sd 26 (7 * r + 4) = nI (xN S 2 r 3) ∧ gi Sd 26 (7 * r + 5) = nI 0 := by
    refine lp_inv (fun i (q : Int32 × Sm) => q.1 = nI i ∧ (∀ i j, i ≠ 25 → i ≠ 26 → q.2.1 i j = Sc.1 i j) ∧ gi q.2 25 4 = nI i ∧ (∀ j, j ≠ 4 → gi q.2 25 j = gi Sc 25 j) ∧ ∀ r, r < i → gi q.2 26 (7 * r + 0) = nI (xN S 2 r 0) ∧ gi q.2 26 (7 * r + 1) = nI (xN S 2 r 1) ∧ gi q.2 26 (7 * r + 2) = nI (xN S 0 0 2 + xN S 2 r 2) ∧ gi q.2 26 (7 * r + 3) = nI (xN S 0 0 2 + xN S 2 r 2) ∧ gi q.2 26 (7 * r + 4) = nI (xN S 2 r 3) ∧ gi q.2 26 (7 * r + 5) = nI 0) (m 2) (by omega) ⟨rfl, fun _ _ _ _ => rfl, (c25 4).trans a25.1, fun _ _ => rfl, fun r z => absurd z (by omega)⟩ (fun i q hi hq => ?_) (fun q hq => ?_)
    · obtain ⟨k', S2⟩ := q
      obtain ⟨(e : k' = nI i), g1, (g2 : gi S2 25 4 = nI i), g3, g4⟩ := hq
      subst e
      have g1 : ∀ i j, i ≠ 25 → i ≠ 26 → S2.1 i j = Sc.1 i j := g1
      have g4 : ∀ r, r < i → gi S2 26 (7 * r + 0) = nI (xN S 2 r 0) ∧ gi S2 26 (7 * r + 1) = nI (xN S 2 r 1) ∧ gi S2 26 (7 * r + 2) = nI (xN S 0 0 2 + xN S 2 r 2) ∧ gi S2 26 (7 * r + 3) = nI (xN S 0 0 2 + xN S 2 r 2) ∧ gi S2 26 (7 * r + 4) = nI (xN S 2 r 3) ∧ gi S2 26 (7 * r + 5) = nI 0 := g4
      have w11 : ∀ j, S2.1 11 j = S1.1 11 j := fun j => (g1 11 j (by omega) (by omega)).trans (so2 11 j (by omega) (by omega))
      have mn : Nt_many 2 S2 = nI (m 2) := many 2 (by omega) S2 fun j => (g1 12 j (by omega) (by omega)).trans (so2 12 j (by omega) (by omega))
      have g5 : gi S2 25 5 = nI (xN S 0 0 2) := (g3 5 (by omega)).trans ((c25 5).trans a25.2.1)
      have x0 : Nt_item 2 (nI i) 0 S2 = nI (xN S 2 i 0) := r2 S2 w11 i hi 0 (by omega)
      have x1 : Nt_item 2 (nI i) 1 S2 = nI (xN S 2 i 1) := r2 S2 w11 i hi 1 (by omega)
      have x2 : Nt_item 2 (nI i) 2 S2 = nI (xN S 2 i 2) := r2 S2 w11 i hi 2 (by omega)
      have x3 : Nt_item 2 (nI i) 3 S2 = nI (xN S 2 i 3) := r2 S2 w11 i hi 3 (by omega)
      have aS : Mo_addTrain (nI (xN S 2 i 0)) (nI (xN S 2 i 1)) (nI (xN S 2 i 2)) (nI (xN S 2 i 3)) S2 = (nI i, si (si (si (si (si (si (si (si S2 25 4 (nI (i + 1))) 26 (7 * i + 0) (nI (xN S 2 i 0))) 26 (7 * i + 1) (nI (xN S 2 i 1))) 26 (7 * i + 2) (nI (xN S 0 0 2 + xN S 2 i 2))) 26 (7 * i + 3) (nI (xN S 0 0 2 + xN S 2 i 2))) 26 (7 * i + 4) (nI (xN S 2 i 3))) 26 (7 * i + 5) (nI 0)) 26 (7 * i + 6) (nI 0)) := by
        unfold Mo_addTrain
        simp (disch := omega) only [q_lit, q_m1, q_m2, q_hid, q_add, q_mul, q_sub, q_le, q_lt, q_eq, q_mlt, q_mle, q_ltm, q_lem, q_meq, q_eqm, q_m2lt, q_m2le, q_ltm2, q_lem2, q_eqm2, q_mm2, q_m2m, q_mm, q_mnm, q_ix, q_inb, q_a0, q_a1, q_app, q_bind, if_true, if_false, if_pos, if_neg, g2, tr_set, gi_si, g5, true_and, false_and, and_true, and_false]
      generalize hS7 : si (si (si (si (si (si (si (si S2 25 4 (nI (i + 1))) 26 (7 * i + 0) (nI (xN S 2 i 0))) 26 (7 * i + 1) (nI (xN S 2 i 1))) 26 (7 * i + 2) (nI (xN S 0 0 2 + xN S 2 i 2))) 26 (7 * i + 3) (nI (xN S 0 0 2 + xN S 2 i 2))) 26 (7 * i + 4) (nI (xN S 2 i 3))) 26 (7 * i + 5) (nI 0)) 26 (7 * i + 6) (nI 0) = S7 at aS
      have sO : ∀ b j, b ≠ 25 → b ≠ 26 → S7.1 b j = S2.1 b j := fun b j h1 h2 => by subst hS7; rw [si_row h2, si_row h2, si_row h2, si_row h2, si_row h2, si_row h2, si_row h2, si_row h1]
      have s25 : ∀ j, j ≠ 4 → gi S7 25 j = gi S2 25 j := fun j hj => by subst hS7; (show gi _ _ _ = _; repeat (first | rw [tb_h] | rw [tb_n (by omega)] | rw [tb_e (by omega)])); try rfl
      have s254 : gi S7 25 4 = nI (i + 1) := by subst hS7; (show gi _ _ _ = _; repeat (first | rw [tb_h] | rw [tb_n (by omega)] | rw [tb_e (by omega)])); try rfl
      have s26 : ∀ j, j < 7 * i → gi S7 26 j = gi S2 26 j := fun j hj => by subst hS7; (show gi _ _ _ = _; repeat (first | rw [tb_h] | rw [tb_n (by omega)] | rw [tb_e (by omega)])); try rfl
      have v0 : gi S7 26 (7 * i + 0) = nI (xN S 2 i 0) := by subst hS7; (show gi _ _ _ = _; repeat (first | rw [tb_h] | rw [tb_n (by omega)] | rw [tb_e (by omega)])); try rfl
      have v1 : gi S7 26 (7 * i + 1) = nI (xN S 2 i 1) := by subst hS7; (show gi _ _ _ = _; repeat (first | rw [tb_h] | rw [tb_n (by omega)] | rw [tb_e (by omega)])); try rfl
      have v2 : gi S7 26 (7 * i + 2) = nI (xN S 0 0 2 + xN S 2 i 2) := by subst hS7; (show gi _ _ _ = _; repeat (first | rw [tb_h] | rw [tb_n (by omega)] | rw [tb_e (by omega)])); try rfl
      have v3 : gi S7 26 (7 * i + 3) = nI (xN S 0 0 2 + xN S 2 i 2) := by subst hS7; (show gi _ _ _ = _; repeat (first | rw [tb_h] | rw [tb_n (by omega)] | rw [tb_e (by omega)])); try rfl
      have v4 : gi S7 26 (7 * i + 4) = nI (xN S 2 i 3) := by subst hS7; (show gi _ _ _ = _; repeat (first | rw [tb_h] | rw [tb_n (by omega)] | rw [tb_e (by omega)])); try rfl
      have v5 : gi S7 26 (7 * i + 5) = nI 0 := by subst hS7; (show gi _ _ _ = _; repeat (first | rw [tb_h] | rw [tb_n (by omega)] | rw [tb_e (by omega)])); try rfl
      refine Or.inl ⟨(nI (i + 1), S7), ?_, rfl, fun i' j a c => (sO i' j a c).trans (g1 i' j a c), s254, fun j hj => (s25 j hj).trans (g3 j hj), fun r hr => ?_⟩
      · unfold Mo_begin_10_L30
        dsimp only
        rw [mn, if_neg (nI_ge hi (by omega)), x0, x1, x2, x3, aS, q_app, show nI i + 1 = nI (i + 1) from q_add i 1]
      · by_cases y : r = i
        · subst y; exact ⟨v0, v1, v2, v3, v4, v5⟩
        · obtain ⟨y0, y1, y2, y3, y4, y5⟩ := g4 r (by omega)
          exact ⟨(s26 _ (by omega)).trans y0, (s26 _ (by omega)).trans y1, (s26 _ (by omega)).trans y2, (s26 _ (by omega)).trans y3, (s26 _ (by omega)).trans y4, (s26 _ (by omega)).trans y5⟩
    · obtain ⟨k', S2⟩ := q
      obtain ⟨(e : k' = nI (m 2)), g1, g2, g3, g4⟩ := hq
      subst e
      have g1 : ∀ i j, i ≠ 25 → i ≠ 26 → S2.1 i j = Sc.1 i j := g1
      have mn : Nt_many 2 S2 = nI (m 2) := many 2 (by omega) S2 fun j => (g1 12 j (by omega) (by omega)).trans (so2 12 j (by omega) (by omega))
      refine ⟨S2, ?_, g1, g2, g3, g4⟩
      unfold Mo_begin_10_L30
      exact if_pos (by show Nt_many 2 S2 ≤ nI (m 2); rw [mn]; exact nI_le (Nat.le_refl _) (by omega))
  have so3 : ∀ i j, i ≠ 25 → i ≠ 26 → i ≠ 27 → Sd.1 i j = S1.1 i j := fun i j a c e => (d1 i j a c).trans (so2 i j a e)
  /- guards -/
  obtain ⟨Se, ee, f1, f2⟩ : ∃ Se, lpN Mo_begin_10_L80 FU (0, Sd) = some Se ∧ (∀ i j, i ≠ 28 → Se.1 i j = Sd.1 i j) ∧ ∀ g, g < 8 → gi Se 28 g = nI 0 := by
    refine lp_inv (fun i (q : Int32 × Sm) => q.1 = nI i ∧ (∀ i j, i ≠ 28 → q.2.1 i j = Sd.1 i j) ∧ ∀ g, g < i → gi q.2 28 g = nI 0) 8 (by omega) ⟨rfl, fun _ _ _ => rfl, fun k z => absurd z (by omega)⟩ (fun i q hi hq => ?_) (fun q hq => ?_)
    · obtain ⟨k', S2⟩ := q
      obtain ⟨(e : k' = nI i), g1, g2⟩ := hq
      subst e
      refine Or.inl ⟨(nI (i + 1), si S2 28 i (nI 0)), ?_, rfl, fun i' j hn => (tb_n fun e => hn e.1).trans (g1 i' j hn), fun k hk => ?_⟩
      · unfold Mo_begin_10_L80
        dsimp only
        rw [if_neg (show ¬ (8 : Int32) ≤ nI i from fun z => by have := (q_le (a := 8) (by omega) (by omega)).mp z; omega), q_pu hi (by omega), q_app, show nI i + 1 = nI (i + 1) from q_add i 1]; rfl
      · by_cases y : k = i
        · rw [y]; exact tb_h
        · exact (tb_n fun e => y e.2).trans (g2 k (by omega))
    · obtain ⟨k', S2⟩ := q
      obtain ⟨(e : k' = nI 8), g⟩ := hq
      subst e
      exact ⟨S2, rfl, g⟩
  obtain ⟨Sf, ef, k1, k2⟩ : ∃ Sf, lpN Mo_begin_10_L103 FU (0, Se) = some Sf ∧ (∀ i j, i ≠ 28 → Sf.1 i j = Sd.1 i j) ∧ ∀ g, g < 8 → gi Sf 28 g = nI (cntN (fun e => decide (xN S 3 e 0 = g)) (m 3)) := by
    refine lp_inv (fun i (q : Int32 × Sm) => q.1 = nI i ∧ (∀ i j, i ≠ 28 → q.2.1 i j = Sd.1 i j) ∧ ∀ g, g < 8 → gi q.2 28 g = nI (cntN (fun e => decide (xN S 3 e 0 = g)) i)) (m 3) (by omega) ⟨rfl, f1, f2⟩ (fun i q hi hq => ?_) (fun q hq => ?_)
    · obtain ⟨k', S2⟩ := q
      obtain ⟨(e : k' = nI i), g1, g2⟩ := hq
      subst e
      have g1 : ∀ i j, i ≠ 28 → S2.1 i j = Sd.1 i j := g1
      have g2 : ∀ g, g < 8 → gi S2 28 g = nI (cntN (fun e => decide (xN S 3 e 0 = g)) i) := g2
      have x7 : xN S 3 i 0 ≤ 7 := (nd_x h (k := 3) (e := i) (s := 0) (by omega) hi (by decide)).2.1
      have x0 := r3 S2 (fun j => (g1 11 j (by omega)).trans (so3 11 j (by omega) (by omega) (by omega))) i hi
      have mn : Nt_many 3 S2 = nI (m 3) := many 3 (by omega) S2 fun j => (g1 12 j (by omega)).trans (so3 12 j (by omega) (by omega) (by omega))
      refine Or.inl ⟨(nI (i + 1), si S2 28 (xN S 3 i 0) (nI (cntN (fun e => decide (xN S 3 e 0 = xN S 3 i 0)) i + 1))), ?_, rfl, fun i' j hn => (tb_n fun e => hn e.1).trans (g1 i' j hn), fun g hg => ?_⟩
      · unfold Mo_begin_10_L103
        dsimp only
        rw [mn, if_neg (nI_ge hi (by omega)), x0, mo_ga (by omega), g2 _ (by omega), show nI (cntN (fun e => decide (xN S 3 e 0 = xN S 3 i 0)) i) + 1 = nI (cntN (fun e => decide (xN S 3 e 0 = xN S 3 i 0)) i + 1) from q_add _ 1, q_pu (by omega) (by omega), q_app, show nI i + 1 = nI (i + 1) from q_add i 1]
      · by_cases y : g = xN S 3 i 0
        · subst y
          rw [cnt_t (show decide (xN S 3 i 0 = xN S 3 i 0) = true from decide_eq_true rfl)]; exact tb_h
        · rw [cnt_n (show decide (xN S 3 i 0 = g) = false from decide_eq_false fun z => y z.symm)]
          exact (tb_n fun e => y e.2).trans (g2 g hg)
    · obtain ⟨k', S2⟩ := q
      obtain ⟨(e : k' = nI (m 3)), g1, g2⟩ := hq
      subst e
      have g1 : ∀ i j, i ≠ 28 → S2.1 i j = Sd.1 i j := g1
      have mn : Nt_many 3 S2 = nI (m 3) := many 3 (by omega) S2 fun j => (g1 12 j (by omega)).trans (so3 12 j (by omega) (by omega) (by omega))
      refine ⟨S2, ?_, g1, g2⟩
      unfold Mo_begin_10_L103
      exact if_pos (by show Nt_many 3 S2 ≤ nI (m 3); rw [mn]; exact nI_le (Nat.le_refl _) (by omega))
  have f27 : ∀ j, gi Sf 27 j = gi Sc 27 j := fun j => (k1 27 j (by omega)).trans (d1 27 j (by omega) (by omega))
  have f25 : ∀ j, j ≠ 4 → gi Sf 25 j = gi Sa 25 j := fun j hj => (k1 25 j (by omega)).trans ((d3 j hj).trans (c25 j))
  refine ⟨Sf, ?_, fun i j a c d e => (k1 i j e).trans (so3 i j a c d), ⟨(k1 25 4 (by omega)).trans d2, (f25 5 (by omega)).trans a25.2.1, (f25 6 (by omega)).trans a25.2.2.1, (f25 7 (by omega)).trans a25.2.2.2⟩, fun mm c hm hc hn => (f27 _).trans ((c2.2 _ hn).trans (b2 mm c hm hc)), fun e he => (f27 _).trans (c2.1 e he), fun r hr => ?_, k2⟩
  · unfold Mo_begin_10 Mo_beginDarks_10
    rw [hSa, eb, q_bind, ec, q_bind, q_bind, ed, q_bind, ee, q_bind, ef]; rfl
  · obtain ⟨y0, y1, y2, y3, y4, y5⟩ := d4 r hr
    exact ⟨(k1 26 _ (by omega)).trans y0, (k1 26 _ (by omega)).trans y1, (k1 26 _ (by omega)).trans y2, (k1 26 _ (by omega)).trans y3, (k1 26 _ (by omega)).trans y4, (k1 26 _ (by omega)).trans y5⟩
end BG
