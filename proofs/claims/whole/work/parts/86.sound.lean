/-! ===== a net's text: is it sound ===== -/
section NS
variable {n : Nat} {b : Nat → Nat} {T S T0 S0 : Sm}
/-- an item of the draft -/
def xN (S : Sm) (k e s : Nat) : Nat := ix (gi S 15 (4 * (fiN k + e) + s))
def TuG (S : Sm) (e : Nat) : Prop := xN S 1 e 0 < xN S 0 0 0 ∧ xN S 1 e 1 < xN S 0 0 1 ∧ (xN S 1 e 2 = 8 ∨ xN S 1 e 2 < xN S 0 0 0) ∧ ∀ e', e' < e → ¬ (xN S 1 e' 0 = xN S 1 e 0 ∧ xN S 1 e' 1 = xN S 1 e 1)
def TrG (S : Sm) (e : Nat) : Prop := xN S 2 e 0 < xN S 0 0 0 ∧ (xN S 2 e 1 = 5 ∨ xN S 2 e 1 < xN S 0 0 1)
def GuG (S : Sm) (e : Nat) : Prop := xN S 3 e 0 < xN S 0 0 0
def unN (S : Sm) (m1 : Nat) : Nat := cntN (fun e => decide (xN S 1 e 2 = 8)) m1
def SndN (m : Nat → Nat) (S : Sm) : Prop := (∀ e, e < m 1 → TuG S e) ∧ unN S (m 1) ≤ 4 ∧ (∀ e, e < m 2 → TrG S e) ∧ ∀ e, e < m 3 → GuG S e
theorem dr_it {S : Sm} {k e s : Nat} (hk : k < 4) (he : e < cpN k) (hs : s < 4) : Dr_item (nI k) (nI e) (nI s) S = gi S 15 (4 * (fiN k + e) + s) := by
  have tc := t_cap k hk
  unfold Dr_item
  rw [(t_full k hk).2, q_add, show (4 : Int32) = nI 4 from rfl, q_mul, q_add, q_at (by omega) (by omega)]
  exact congrArg _ (by omega)
/-- the items of a draft that both have -/
theorem nd_x {m : Nat → Nat} (h : NdO m T S) {k e s : Nat} (hk : k < 4) (he : e < m k) (hs : s < nsN k) : loN k s ≤ xN S k e s ∧ xN S k e s ≤ hiN k s ∧ Dr_item (nI k) (nI e) (nI s) S = nI (xN S k e s) ∧ gi T (64 + k) (nsN k * e + s) = nI (xN S k e s) := by
  obtain ⟨x, x1, x2, x3, x4⟩ := h.2.2.1 k hk e he s hs
  have hx := (t_rng k hk s hs).2.2.2.2.2.2.2.2
  have e1 : xN S k e s = x := by unfold xN; rw [x3, q_ix (by omega)]
  have := (h.1 k hk).1
  have := (ns_le k).1
  rw [e1, dr_it hk (by omega) (by omega)]
  exact ⟨x1, x2, x3, x4⟩
/-- what the class finds -/
theorem dr_snd {m : Nat → Nat} (h : NdO m T S) (h0 : m 0 = 1) : ∃ v, Dr_isSound S = some v ∧ (v = nI 1 ∧ SndN m S ∨ v = nI 0 ∧ ¬ SndN m S) := by
  have z0 : (0 : Int32) &&& 1 = nI 0 := by decide
  have z1 : (1 : Int32) &&& 1 = nI 1 := by decide
  have m1 := (h.1 1 (by omega)).1
  have m2 := (h.1 2 (by omega)).1
  have m3 := (h.1 3 (by omega)).1
  have m1' : m 1 ≤ 18 := m1
  have m2' : m 2 ≤ 6 := m2
  have m3' : m 3 ≤ 4 := m3
  obtain ⟨a1, a2, a3, -⟩ := nd_x h (k := 0) (e := 0) (s := 0) (by omega) (by omega) (by decide)
  obtain ⟨c1, c2, c3, -⟩ := nd_x h (k := 0) (e := 0) (s := 1) (by omega) (by omega) (by decide)
  have a2 : xN S 0 0 0 ≤ 8 := a2
  have c2 : xN S 0 0 1 ≤ 5 := c2
  have mo : Dr_mouths S = nI (xN S 0 0 0) := by
    have x := a3
    rw [dr_it (k := 0) (by omega) (by decide) (by omega)] at x
    have e5 : 4 * (fiN 0 + 0) + 0 = 0 := rfl
    rw [e5] at x
    exact (q_at (f := gi S 15) (n := 116) (a := 0) (by omega) (by omega)).trans x
  have co : Dr_colours S = nI (xN S 0 0 1) := by
    have x := c3
    rw [dr_it (k := 0) (by omega) (by decide) (by omega)] at x
    have e5 : 4 * (fiN 0 + 0) + 1 = 1 := rfl
    rw [e5] at x
    exact (q_at (f := gi S 15) (n := 116) (a := 1) (by omega) (by omega)).trans x
  have hm : ∀ x, x ≤ 100 → Dr_hasMouth (nI x) S = if x < xN S 0 0 0 then nI 1 else nI 0 := fun x hx => by
    unfold Dr_hasMouth Dr_hasMouth_16 Dr_hasMouth_17
    rw [mo, if_neg (nI_pos (by omega))]
    by_cases y : x < xN S 0 0 0
    · rw [if_pos y, if_neg (nI_ge y (by omega))]; decide
    · rw [if_neg y, if_pos (nI_le (by omega) (by omega))]; decide
  have hc : ∀ x, x ≤ 100 → Dr_hasColour (nI x) S = if x < xN S 0 0 1 then nI 1 else nI 0 := fun x hx => by
    unfold Dr_hasColour Dr_hasColour_16 Dr_hasColour_17
    rw [co, if_neg (nI_pos (by omega))]
    by_cases y : x < xN S 0 0 1
    · rw [if_pos y, if_neg (nI_ge y (by omega))]; decide
    · rw [if_neg y, if_pos (nI_le (by omega) (by omega))]; decide
  have n10 : ¬ nI 1 = 0 := by decide
  have tun : ∃ v, Dr_areTunnelsSound S = some v ∧ (v = nI 1 ∧ (∀ e, e < m 1 → TuG S e) ∧ unN S (m 1) ≤ 4 ∨ v = nI 0 ∧ ¬ ((∀ e, e < m 1 → TuG S e) ∧ unN S (m 1) ≤ 4)) := by
    suffices hl : ∃ r, lpN (Dr_areTunnelsSound_L7 S) FU (0, 0, 0) = some r ∧ ((r = .inr (.inr (nI (unN S (m 1)))) ∧ ∀ e, e < m 1 → TuG S e) ∨ ((r = .inl () ∨ r = .inr (.inl ())) ∧ ¬ ∀ e, e < m 1 → TuG S e)) by
      obtain ⟨r, e, hr⟩ := hl
      unfold Dr_areTunnelsSound Dr_areTunnelsSound_132
      rw [e, q_bind]
      rcases hr with ⟨rfl, g⟩ | ⟨rfl | rfl, g⟩
      · show ∃ v, (if (4 : Int32) < nI (unN S (m 1)) then some ((0 : Int32) &&& 1) else some ((1 : Int32) &&& 1)) = some v ∧ _
        have cl := cnt_le (fun e => decide (xN S 1 e 2 = 8)) (m 1)
        have cl : unN S (m 1) ≤ m 1 := cl
        by_cases y : unN S (m 1) ≤ 4
        · rw [if_neg (show ¬ (4 : Int32) < nI (unN S (m 1)) from nI_nlt (a := 4) y (by omega)), z1]
          exact ⟨_, rfl, Or.inl ⟨rfl, g, y⟩⟩
        · rw [if_pos (show (4 : Int32) < nI (unN S (m 1)) from nI_lt (a := 4) (by omega) (by omega)), z0]
          exact ⟨_, rfl, Or.inr ⟨rfl, fun z => y z.2⟩⟩
      · exact ⟨_, rfl, Or.inr ⟨rfl, fun z => g z.1⟩⟩
      · exact ⟨_, rfl, Or.inr ⟨rfl, fun z => g z.1⟩⟩
    refine lp_inv (fun i (q : Int64 × Int32 × Int32) => q.2.2 = nI i ∧ q.2.1 = nI (unN S i) ∧ Mkl (fun j => ∃ e, e < i ∧ 5 * xN S 1 e 0 + xN S 1 e 1 = j) q.1 ∧ ∀ e, e < i → TuG S e) (m 1) (by omega) ⟨rfl, rfl, Mkl.none.of fun j => ⟨fun z => z.elim, fun ⟨e, z, _⟩ => absurd z (by omega)⟩, fun e z => absurd z (by omega)⟩ (fun i q hi hq => ?_) (fun q hq => ?_)
    · obtain ⟨q1, q2, q3⟩ := q
      obtain ⟨(e3 : q3 = nI i), (e2 : q2 = nI (unN S i)), (hM : Mkl _ q1), hG⟩ := hq
      subst e3 e2
      obtain ⟨x1, x2, x3, -⟩ := nd_x h (k := 1) (e := i) (s := 0) (by omega) hi (by decide)
      obtain ⟨y1, y2, y3, -⟩ := nd_x h (k := 1) (e := i) (s := 1) (by omega) hi (by decide)
      obtain ⟨w1, w2, w3, -⟩ := nd_x h (k := 1) (e := i) (s := 2) (by omega) hi (by decide)
      have x2 : xN S 1 i 0 ≤ 7 := x2
      have y2 : xN S 1 i 1 ≤ 4 := y2
      have w2 : xN S 1 i 2 ≤ 8 := w2
      have x3 : Dr_item 1 (nI i) 0 S = nI (xN S 1 i 0) := x3
      have y3 : Dr_item 1 (nI i) 1 S = nI (xN S 1 i 1) := y3
      have w3 : Dr_item 1 (nI i) 2 S = nI (xN S 1 i 2) := w3
      have many : Dr_many 1 S = nI (m 1) := (dr_m (k := 1) (by omega)).trans (h.1 1 (by omega)).2
      have dk : Dr_darkOfTunnel (nI i) S = nI (5 * xN S 1 i 0 + xN S 1 i 1) := by
        unfold Dr_darkOfTunnel Dk_darkOf
        rw [x3, y3, show (5 : Int32) = nI 5 from rfl, q_mul, q_add, Nat.mul_comm]
      have bad : ¬ TuG S i → ∃ r, (r = .inl () ∨ r = .inr (.inl ())) ∧ ((r = (.inr (.inr (nI (unN S (m 1)))) : Unit ⊕ (Unit ⊕ Int32)) ∧ ∀ e, e < m 1 → TuG S e) ∨ ((r = .inl () ∨ r = .inr (.inl ())) ∧ ¬ ∀ e, e < m 1 → TuG S e)) := fun hb => ⟨.inl (), Or.inl rfl, Or.inr ⟨Or.inl rfl, fun z => hb (z i hi)⟩⟩
      unfold Dr_areTunnelsSound_L7
      dsimp only
      rw [many, if_neg (nI_ge hi (by omega)), x3, y3, w3, dk, hm _ (by omega), hc _ (by omega), hm _ (by omega)]
      by_cases p : xN S 1 i 0 < xN S 0 0 0
      · rw [if_pos p, if_neg n10]
        by_cases q : xN S 1 i 1 < xN S 0 0 1
        · rw [if_pos q, if_neg n10]
          have one := Mkl.one (m := 5 * xN S 1 i 0 + xN S 1 i 1) (by omega)
          have an := hM.and one
          by_cases d : ∃ e, e < i ∧ 5 * xN S 1 e 0 + xN S 1 e 1 = 5 * xN S 1 i 0 + xN S 1 i 1
          · have nz : q1 &&& lShl 1 (nI (5 * xN S 1 i 0 + xN S 1 i 1)) ≠ 0 := fun z => an.zero.mp z _ ⟨d, rfl⟩
            have nb : ¬ TuG S i := fun g => by
              obtain ⟨e, e1, e2⟩ := d
              have := hG e e1
              have h1 := (nd_x h (k := 1) (e := e) (s := 1) (by omega) (by omega) (by decide)).2.1
              have h1 : xN S 1 e 1 ≤ 4 := h1
              exact g.2.2.2 e e1 ⟨by omega, by omega⟩
            rcases lc_ne nz with u | u
            · rw [u, if_neg n10]; exact Or.inr ⟨_, rfl, Or.inr ⟨Or.inl rfl, fun z => nb (z i hi)⟩⟩
            · rw [u, if_neg (show ¬ mI = 0 by decide)]; exact Or.inr ⟨_, rfl, Or.inr ⟨Or.inl rfl, fun z => nb (z i hi)⟩⟩
          · have zz : q1 &&& lShl 1 (nI (5 * xN S 1 i 0 + xN S 1 i 1)) = 0 := an.zero.mpr fun j hj => d (hj.2 ▸ hj.1)
            rw [lc_eq zz, if_pos (show nI 0 = 0 from rfl)]
            have nM : Mkl (fun j => ∃ e, e < i + 1 ∧ 5 * xN S 1 e 0 + xN S 1 e 1 = j) (q1 ||| lShl 1 (nI (5 * xN S 1 i 0 + xN S 1 i 1))) := (hM.or one).of fun j => ⟨fun z => z.elim (fun ⟨e, e1, e2⟩ => ⟨e, by omega, e2⟩) fun z => ⟨i, by omega, z⟩, fun ⟨e, e1, e2⟩ => by
              by_cases y : e = i
              · subst y; exact Or.inr e2
              · exact Or.inl ⟨e, by omega, e2⟩⟩
            have dis : ∀ e', e' < i → ¬ (xN S 1 e' 0 = xN S 1 i 0 ∧ xN S 1 e' 1 = xN S 1 i 1) := fun e' h1 h2 => d ⟨e', h1, by rw [h2.1, h2.2]⟩
            have us : unN S (i + 1) = if decide (xN S 1 i 2 = 8) = true then unN S i + 1 else unN S i := cnt_s _ i
            have i1 : nI i + 1 = nI (i + 1) := q_add i 1
            by_cases t : xN S 1 i 2 = 8
            · rw [t, if_pos (show nI 8 = 8 from rfl)]
              rw [if_pos (decide_eq_true t)] at us
              refine Or.inl ⟨(q1 ||| lShl 1 (nI (5 * xN S 1 i 0 + xN S 1 i 1)), nI (unN S i) + 1, nI (i + 1)), ?_, rfl, ?_, nM, fun e he => ?_⟩
              · unfold Dr_areTunnelsSound_96_L7 Dr_areTunnelsSound_114_L7
                rw [if_pos (show nI 8 = 8 from rfl), i1]
              · show nI (unN S i) + 1 = nI (unN S (i + 1))
                rw [us]; exact q_add _ 1
              · by_cases y : e = i
                · subst y; exact ⟨p, q, Or.inl t, dis⟩
                · exact hG e (by omega)
            · have t8 : ¬ nI (xN S 1 i 2) = 8 := fun e => t ((q_eq (b := 8) (by omega) (by omega)).mp e)
              rw [if_neg (show ¬ decide (xN S 1 i 2 = 8) = true from fun e => t (of_decide_eq_true e))] at us
              rw [if_neg t8]
              by_cases o : xN S 1 i 2 < xN S 0 0 0
              · rw [if_pos o, if_neg n10]
                refine Or.inl ⟨(q1 ||| lShl 1 (nI (5 * xN S 1 i 0 + xN S 1 i 1)), nI (unN S i) + 0, nI (i + 1)), ?_, rfl, ?_, nM, fun e he => ?_⟩
                · unfold Dr_areTunnelsSound_96_L7 Dr_areTunnelsSound_114_L7
                  rw [if_neg t8, i1]
                · show nI (unN S i) + 0 = nI (unN S (i + 1))
                  rw [us]; exact q_add _ 0
                · by_cases y : e = i
                  · subst y; exact ⟨p, q, Or.inr o, dis⟩
                  · exact hG e (by omega)
              · rw [if_neg o, if_pos (show nI 0 = 0 from rfl)]
                exact Or.inr ⟨_, rfl, Or.inr ⟨Or.inr rfl, fun z => (z i hi).2.2.1.elim t o⟩⟩
        · rw [if_neg q, if_pos (show nI 0 = 0 from rfl)]
          exact Or.inr ⟨_, rfl, Or.inr ⟨Or.inl rfl, fun z => q (z i hi).2.1⟩⟩
      · rw [if_neg p, if_pos (show nI 0 = 0 from rfl)]
        exact Or.inr ⟨_, rfl, Or.inr ⟨Or.inl rfl, fun z => p (z i hi).1⟩⟩
    · obtain ⟨q1, q2, q3⟩ := q
      obtain ⟨(e3 : q3 = nI (m 1)), (e2 : q2 = nI (unN S (m 1))), hM, hG⟩ := hq
      subst e3 e2
      refine ⟨_, ?_, Or.inl ⟨rfl, hG⟩⟩
      unfold Dr_areTunnelsSound_L7
      have many : Dr_many 1 S = nI (m 1) := (dr_m (k := 1) (by omega)).trans (h.1 1 (by omega)).2
      exact if_pos (by rw [many]; exact nI_le (Nat.le_refl _) (by omega))
  have trs : ∃ v, Dr_areTrainsSound S = some v ∧ (v = nI 1 ∧ (∀ e, e < m 2 → TrG S e) ∨ v = nI 0 ∧ ¬ ∀ e, e < m 2 → TrG S e) := by
    suffices hl : ∃ r, lpN (Dr_areTrainsSound_L2 S) FU 0 = some r ∧ ((r = .inr () ∧ ∀ e, e < m 2 → TrG S e) ∨ (r = .inl () ∧ ¬ ∀ e, e < m 2 → TrG S e)) by
      obtain ⟨r, e, hr⟩ := hl
      unfold Dr_areTrainsSound
      rw [e, q_bind]
      rcases hr with ⟨rfl, g⟩ | ⟨rfl, g⟩
      · exact ⟨_, rfl, Or.inl ⟨rfl, g⟩⟩
      · exact ⟨_, rfl, Or.inr ⟨rfl, g⟩⟩
    have many : Dr_many 2 S = nI (m 2) := (dr_m (k := 2) (by omega)).trans (h.1 2 (by omega)).2
    refine lp_inv (fun i (q : Int32) => q = nI i ∧ ∀ e, e < i → TrG S e) (m 2) (by omega) ⟨rfl, fun e z => absurd z (by omega)⟩ (fun i q hi hq => ?_) (fun q hq => ?_)
    · obtain ⟨rfl, hG⟩ := hq
      obtain ⟨x1, x2, x3, -⟩ := nd_x h (k := 2) (e := i) (s := 0) (by omega) hi (by decide)
      obtain ⟨y1, y2, y3, -⟩ := nd_x h (k := 2) (e := i) (s := 1) (by omega) hi (by decide)
      have x2 : xN S 2 i 0 ≤ 7 := x2
      have y2 : xN S 2 i 1 ≤ 5 := y2
      have x3 : Dr_item 2 (nI i) 0 S = nI (xN S 2 i 0) := x3
      have y3 : Dr_item 2 (nI i) 1 S = nI (xN S 2 i 1) := y3
      have hla : Dr_hasLamp (nI (xN S 2 i 1)) S = if xN S 2 i 1 = 5 ∨ xN S 2 i 1 < xN S 0 0 1 then nI 1 else nI 0 := by
        unfold Dr_hasLamp Dr_hasLamp_13 Dr_hasLamp_18
        rw [hc _ (by omega)]
        by_cases y : xN S 2 i 1 = 5
        · rw [if_pos (Or.inl y), y, if_pos (show nI 5 = 5 from rfl)]; decide
        · rw [if_neg (show ¬ nI (xN S 2 i 1) = 5 from fun e => y ((q_eq (b := 5) (by omega) (by omega)).mp e))]
          by_cases u : xN S 2 i 1 < xN S 0 0 1
          · rw [if_pos u, if_pos (Or.inr u), if_neg n10]; decide
          · rw [if_neg u, if_pos (show nI 0 = 0 from rfl), if_neg (show ¬ (xN S 2 i 1 = 5 ∨ xN S 2 i 1 < xN S 0 0 1) from fun z => z.elim y u)]; decide
      unfold Dr_areTrainsSound_L2
      rw [many, if_neg (nI_ge hi (by omega)), x3, y3, hm _ (by omega), hla]
      by_cases p : xN S 2 i 0 < xN S 0 0 0
      · rw [if_pos p, if_neg n10]
        by_cases q : xN S 2 i 1 = 5 ∨ xN S 2 i 1 < xN S 0 0 1
        · rw [if_pos q, if_neg n10]
          refine Or.inl ⟨nI (i + 1), by rw [show nI i + 1 = nI (i + 1) from q_add i 1], rfl, fun e he => ?_⟩
          by_cases y : e = i
          · subst y; exact ⟨p, q⟩
          · exact hG e (by omega)
        · rw [if_neg q, if_pos (show nI 0 = 0 from rfl)]
          exact Or.inr ⟨_, rfl, Or.inr ⟨rfl, fun z => q (z i hi).2⟩⟩
      · rw [if_neg p, if_pos (show nI 0 = 0 from rfl)]
        exact Or.inr ⟨_, rfl, Or.inr ⟨rfl, fun z => p (z i hi).1⟩⟩
    · obtain ⟨rfl, hG⟩ := hq
      refine ⟨_, ?_, Or.inl ⟨rfl, hG⟩⟩
      unfold Dr_areTrainsSound_L2
      exact if_pos (by rw [many]; exact nI_le (Nat.le_refl _) (by omega))
  have gus : ∃ v, Dr_areGuardsSound S = some v ∧ (v = nI 1 ∧ (∀ e, e < m 3 → GuG S e) ∨ v = nI 0 ∧ ¬ ∀ e, e < m 3 → GuG S e) := by
    suffices hl : ∃ r, lpN (Dr_areGuardsSound_L2 S) FU 0 = some r ∧ ((r = .inr () ∧ ∀ e, e < m 3 → GuG S e) ∨ (r = .inl () ∧ ¬ ∀ e, e < m 3 → GuG S e)) by
      obtain ⟨r, e, hr⟩ := hl
      unfold Dr_areGuardsSound
      rw [e, q_bind]
      rcases hr with ⟨rfl, g⟩ | ⟨rfl, g⟩
      · exact ⟨_, rfl, Or.inl ⟨rfl, g⟩⟩
      · exact ⟨_, rfl, Or.inr ⟨rfl, g⟩⟩
    have many : Dr_many 3 S = nI (m 3) := (dr_m (k := 3) (by omega)).trans (h.1 3 (by omega)).2
    refine lp_inv (fun i (q : Int32) => q = nI i ∧ ∀ e, e < i → GuG S e) (m 3) (by omega) ⟨rfl, fun e z => absurd z (by omega)⟩ (fun i q hi hq => ?_) (fun q hq => ?_)
    · obtain ⟨rfl, hG⟩ := hq
      obtain ⟨x1, x2, x3, -⟩ := nd_x h (k := 3) (e := i) (s := 0) (by omega) hi (by decide)
      have x2 : xN S 3 i 0 ≤ 7 := x2
      have x3 : Dr_item 3 (nI i) 0 S = nI (xN S 3 i 0) := x3
      unfold Dr_areGuardsSound_L2
      rw [many, if_neg (nI_ge hi (by omega)), x3, hm _ (by omega)]
      by_cases p : xN S 3 i 0 < xN S 0 0 0
      · rw [if_pos p, if_neg n10]
        refine Or.inl ⟨nI (i + 1), by rw [show nI i + 1 = nI (i + 1) from q_add i 1], rfl, fun e he => ?_⟩
        by_cases y : e = i
        · subst y; exact p
        · exact hG e (by omega)
      · rw [if_neg p, if_pos (show nI 0 = 0 from rfl)]
        exact Or.inr ⟨_, rfl, Or.inr ⟨rfl, fun z => p (z i hi)⟩⟩
    · obtain ⟨rfl, hG⟩ := hq
      refine ⟨_, ?_, Or.inl ⟨rfl, hG⟩⟩
      unfold Dr_areGuardsSound_L2
      exact if_pos (by rw [many]; exact nI_le (Nat.le_refl _) (by omega))
  obtain ⟨v1, e1, t1⟩ := tun
  obtain ⟨v2, e2, t2⟩ := trs
  obtain ⟨v3, e3, t3⟩ := gus
  unfold Dr_isSound Dr_isSound_25 Dr_isSound_26
  rw [e1, q_bind, e2, e3, z0, z1]
  rcases t1 with ⟨rfl, p1, p1'⟩ | ⟨rfl, p1⟩
  · rw [if_neg n10, q_bind]
    rcases t2 with ⟨rfl, p2⟩ | ⟨rfl, p2⟩
    · rw [if_neg n10, q_bind]
      rcases t3 with ⟨rfl, p3⟩ | ⟨rfl, p3⟩
      · rw [if_neg n10]; exact ⟨_, rfl, Or.inl ⟨rfl, p1, p1', p2, p3⟩⟩
      · rw [if_pos (show nI 0 = 0 from rfl)]; exact ⟨_, rfl, Or.inr ⟨rfl, fun z => p3 z.2.2.2⟩⟩
    · rw [if_pos (show nI 0 = 0 from rfl)]; exact ⟨_, rfl, Or.inr ⟨rfl, fun z => p2 z.2.2.1⟩⟩
  · rw [if_pos (show nI 0 = 0 from rfl)]; exact ⟨_, rfl, Or.inr ⟨rfl, fun z => p1 ⟨z.1, z.2.1⟩⟩⟩
/-- whatever the draft holds, the class's look at it ends -/
theorem dr_some (h : NdC S) : ∃ v, Dr_isSound S = some v := by
  obtain ⟨m1, c1, f1⟩ := h 1 (by omega)
  obtain ⟨m2, c2, f2⟩ := h 2 (by omega)
  obtain ⟨m3, c3, f3⟩ := h 3 (by omega)
  have c1 : m1 ≤ 18 := c1
  have c2 : m2 ≤ 6 := c2
  have c3 : m3 ≤ 4 := c3
  have d1 : Dr_many 1 S = nI m1 := (dr_m (k := 1) (by omega)).trans f1
  have d2 : Dr_many 2 S = nI m2 := (dr_m (k := 2) (by omega)).trans f2
  have d3 : Dr_many 3 S = nI m3 := (dr_m (k := 3) (by omega)).trans f3
  obtain ⟨r1, e1, -⟩ : ∃ r, lpN (Dr_areTunnelsSound_L7 S) FU (0, 0, 0) = some r ∧ True := by
    refine lp_inv (fun i (q : Int64 × Int32 × Int32) => q.2.2 = nI i) m1 (by omega) rfl (fun i q hi hq => ?_) (fun q hq => ?_)
    · have i1 : nI i + 1 = nI (i + 1) := q_add i 1
      unfold Dr_areTunnelsSound_L7 Dr_areTunnelsSound_96_L7 Dr_areTunnelsSound_114_L7
      rw [hq, d1, if_neg (nI_ge hi (by omega)), i1]
      repeat' split
      all_goals first
        | exact Or.inl ⟨_, rfl, rfl⟩
        | exact Or.inr ⟨_, rfl, trivial⟩
    · refine ⟨_, if_pos (by rw [hq, d1]; exact nI_le (Nat.le_refl _) (by omega)), trivial⟩
  obtain ⟨r2, e2, -⟩ : ∃ r, lpN (Dr_areTrainsSound_L2 S) FU 0 = some r ∧ True := by
    refine lp_inv (fun i (q : Int32) => q = nI i) m2 (by omega) rfl (fun i q hi hq => ?_) (fun q hq => ?_)
    · have i1 : nI i + 1 = nI (i + 1) := q_add i 1
      unfold Dr_areTrainsSound_L2
      rw [hq, d2, if_neg (nI_ge hi (by omega)), i1]
      repeat' split
      all_goals first
        | exact Or.inl ⟨_, rfl, rfl⟩
        | exact Or.inr ⟨_, rfl, trivial⟩
    · refine ⟨_, if_pos (by rw [hq, d2]; exact nI_le (Nat.le_refl _) (by omega)), trivial⟩
  obtain ⟨r3, e3, -⟩ : ∃ r, lpN (Dr_areGuardsSound_L2 S) FU 0 = some r ∧ True := by
    refine lp_inv (fun i (q : Int32) => q = nI i) m3 (by omega) rfl (fun i q hi hq => ?_) (fun q hq => ?_)
    · have i1 : nI i + 1 = nI (i + 1) := q_add i 1
      unfold Dr_areGuardsSound_L2
      rw [hq, d3, if_neg (nI_ge hi (by omega)), i1]
      repeat' split
      all_goals first
        | exact Or.inl ⟨_, rfl, rfl⟩
        | exact Or.inr ⟨_, rfl, trivial⟩
    · refine ⟨_, if_pos (by rw [hq, d3]; exact nI_le (Nat.le_refl _) (by omega)), trivial⟩
  unfold Dr_isSound Dr_isSound_25 Dr_isSound_26 Dr_areTunnelsSound Dr_areTunnelsSound_132 Dr_areTrainsSound Dr_areGuardsSound
  rw [e1, e2, e3, q_bind, q_bind, q_bind]
  rcases r1 with u1 | u1 | u1 <;> rcases r2 with u2 | u2 <;> rcases r3 with u3 | u3 <;> dsimp only [Sum.elim] <;> (repeat' split) <;> first | exact ⟨_, rfl⟩ | (dsimp only [Option.bind]; (repeat' split) <;> exact ⟨_, rfl⟩)
end NS
