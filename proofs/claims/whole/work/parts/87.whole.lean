/-! ===== a net's text: the whole ===== -/
section NW
variable {n : Nat} {b : Nat → Nat} {T S T0 S0 : Sm}
/-- what the reference finds -/
theorem md_snd {m : Nat → Nat} (h : NdO m T S) (h0 : m 0 = 1) : ∃ v, Md_isWhole T = some v ∧ (v = nI 1 ∧ SndN m S ∨ v = nI 0 ∧ ¬ SndN m S) := by
  have z0 : (0 : Int32) &&& 1 = nI 0 := by decide
  have z1 : (1 : Int32) &&& 1 = nI 1 := by decide
  have n10 : ¬ nI 1 = 0 := by decide
  have m1' : m 1 ≤ 18 := (h.1 1 (by omega)).1
  have m2' : m 2 ≤ 6 := (h.1 2 (by omega)).1
  have m3' : m 3 ≤ 4 := (h.1 3 (by omega)).1
  obtain ⟨c1, c2, c3⟩ := h.2.1
  obtain ⟨-, a2, -, a4⟩ := nd_x h (k := 0) (e := 0) (s := 0) (by omega) (by omega) (by decide)
  obtain ⟨-, b2, -, b4⟩ := nd_x h (k := 0) (e := 0) (s := 1) (by omega) (by omega) (by decide)
  have a2 : xN S 0 0 0 ≤ 8 := a2
  have b2 : xN S 0 0 1 ≤ 5 := b2
  have a4 : gi T 64 0 = nI (xN S 0 0 0) := a4
  have b4 : gi T 64 1 = nI (xN S 0 0 1) := b4
  have t1 : ∀ e, e < m 1 → xN S 1 e 0 ≤ 7 ∧ xN S 1 e 1 ≤ 4 ∧ xN S 1 e 2 ≤ 8 ∧ gi T 65 (4 * e) = nI (xN S 1 e 0) ∧ gi T 65 (4 * e + 1) = nI (xN S 1 e 1) ∧ gi T 65 (4 * e + 2) = nI (xN S 1 e 2) := fun e he => by
    obtain ⟨-, x2, -, x4⟩ := nd_x h (k := 1) (e := e) (s := 0) (by omega) he (by decide)
    obtain ⟨-, y2, -, y4⟩ := nd_x h (k := 1) (e := e) (s := 1) (by omega) he (by decide)
    obtain ⟨-, w2, -, w4⟩ := nd_x h (k := 1) (e := e) (s := 2) (by omega) he (by decide)
    exact ⟨x2, y2, w2, x4, y4, w4⟩
  have inner : ∀ (i : Nat) (u : Int32) (f : Int32), i < m 1 → (f = nI 1 ∨ f = nI 0) → ∃ r, lpN (Md_isWhole_L110 (nI (xN S 0 0 0)) u (nI i) T) FU (f, 0) = some r ∧ (r = nI 1 ∧ f = nI 1 ∧ (∀ j, j < i → ¬ (xN S 1 j 0 = xN S 1 i 0 ∧ xN S 1 j 1 = xN S 1 i 1)) ∨ r = nI 0 ∧ ¬ (f = nI 1 ∧ ∀ j, j < i → ¬ (xN S 1 j 0 = xN S 1 i 0 ∧ xN S 1 j 1 = xN S 1 i 1))) := fun i u f hi hf => by
    obtain ⟨-, -, -, xi, yi, -⟩ := t1 i hi
    refine lp_inv (fun j (q : Int32 × Int32) => q.2 = nI j ∧ (q.1 = nI 1 ∧ f = nI 1 ∧ (∀ j', j' < j → ¬ (xN S 1 j' 0 = xN S 1 i 0 ∧ xN S 1 j' 1 = xN S 1 i 1)) ∨ q.1 = nI 0 ∧ ¬ (f = nI 1 ∧ ∀ j', j' < i → ¬ (xN S 1 j' 0 = xN S 1 i 0 ∧ xN S 1 j' 1 = xN S 1 i 1)))) i (by omega) ⟨rfl, ?_⟩ (fun j q hj hq => ?_) (fun q hq => ?_)
    · rcases hf with rfl | rfl
      · exact Or.inl ⟨rfl, rfl, fun j z => absurd z (by omega)⟩
      · exact Or.inr ⟨rfl, fun z => absurd z.1 (by decide)⟩
    · obtain ⟨q1, q2⟩ := q
      obtain ⟨(e2 : q2 = nI j), hq⟩ := hq
      subst e2
      obtain ⟨x2, y2, -, xj, yj, -⟩ := t1 j (by omega)
      obtain ⟨x2', y2', -⟩ := t1 i hi
      have j1 : nI j + 1 = nI (j + 1) := q_add j 1
      unfold Md_isWhole_L110 Md_isWhole_171_L110 Md_isWhole_167_L110 Md_isWhole_172_L110
      dsimp only
      rw [if_neg (nI_ge hj (by omega)), j1]
      rcases hq with ⟨(rfl : q1 = nI 1), g1, g2⟩ | ⟨(rfl : q1 = nI 0), g⟩
      · have sx : (nI (xN S 1 j 0) = nI (xN S 1 i 0)) ↔ xN S 1 j 0 = xN S 1 i 0 := q_eq (by omega) (by omega)
        have sy : (nI (xN S 1 j 1) = nI (xN S 1 i 1)) ↔ xN S 1 j 1 = xN S 1 i 1 := q_eq (by omega) (by omega)
        rw [if_neg n10, show (4 : Int32) = nI 4 from rfl, q_mul, q_mul, show (1 : Int32) = nI 1 from rfl, q_add, q_add, if_pos (nI_in (by omega) (by omega)), if_pos (nI_in (by omega) (by omega)), if_pos (nI_in (by omega) (by omega)), if_pos (nI_in (by omega) (by omega)), q_ix (by omega), q_ix (by omega), q_ix (by omega), q_ix (by omega), xi, yi, xj, yj]
        by_cases p : xN S 1 j 0 = xN S 1 i 0
        · rw [if_pos (sx.mpr p)]
          by_cases q : xN S 1 j 1 = xN S 1 i 1
          · rw [if_pos (sy.mpr q)]
            exact Or.inl ⟨_, rfl, rfl, Or.inr ⟨rfl, fun z => z.2 j hj ⟨p, q⟩⟩⟩
          · rw [if_neg fun e => q (sy.mp e)]
            refine Or.inl ⟨_, rfl, rfl, Or.inl ⟨rfl, g1, fun j' hj' => ?_⟩⟩
            by_cases y : j' = j
            · subst y; exact fun z => q z.2
            · exact g2 j' (by omega)
        · rw [if_neg fun e => p (sx.mp e)]
          refine Or.inl ⟨_, rfl, rfl, Or.inl ⟨rfl, g1, fun j' hj' => ?_⟩⟩
          by_cases y : j' = j
          · subst y; exact fun z => p z.1
          · exact g2 j' (by omega)
      · rw [if_pos (show nI 0 = 0 from rfl)]
        exact Or.inl ⟨_, rfl, rfl, Or.inr ⟨rfl, g⟩⟩
    · obtain ⟨q1, q2⟩ := q
      obtain ⟨(e2 : q2 = nI i), hq⟩ := hq
      subst e2
      refine ⟨q1, ?_, hq⟩
      unfold Md_isWhole_L110
      exact if_pos (nI_le (Nat.le_refl _) (by omega))
  obtain ⟨q20, e1, g1, g2⟩ : ∃ r : Int32 × Int32, lpN (Md_isWhole_L14 (nI (xN S 0 0 0)) T) FU (0, 1, 0) = some r ∧ r.1 = nI (unN S (m 1)) ∧ (r.2 = nI 1 ∧ (∀ e, e < m 1 → TuG S e) ∨ r.2 = nI 0 ∧ ¬ ∀ e, e < m 1 → TuG S e) := by
    refine lp_inv (fun i (q : Int32 × Int32 × Int32) => q.2.2 = nI i ∧ q.1 = nI (unN S i) ∧ (q.2.1 = nI 1 ∧ (∀ e, e < i → TuG S e) ∨ q.2.1 = nI 0 ∧ ¬ ∀ e, e < m 1 → TuG S e)) (m 1) (by omega) ⟨rfl, rfl, Or.inl ⟨rfl, fun e z => absurd z (by omega)⟩⟩ (fun i q hi hq => ?_) (fun q hq => ?_)
    · obtain ⟨q1, q2, q3⟩ := q
      obtain ⟨(e3 : q3 = nI i), (e2 : q1 = nI (unN S i)), hq⟩ := hq
      subst e3 e2
      obtain ⟨x2, y2, w2, xi, yi, wi⟩ := t1 i hi
      have us : unN S (i + 1) = if decide (xN S 1 i 2 = 8) = true then unN S i + 1 else unN S i := cnt_s _ i
      have i1 : nI i + 1 = nI (i + 1) := q_add i 1
      have m4 : (4 : Int32) * nI i = nI (4 * i) := q_mul 4 i
      have fin : ∀ f : Int32, (f = nI 1 ∨ f = nI 0) → (f = nI 1 → (∀ e, e < i → TuG S e) ∧ xN S 1 i 0 < xN S 0 0 0 ∧ xN S 1 i 1 < xN S 0 0 1 ∧ (xN S 1 i 2 = 8 ∨ xN S 1 i 2 < xN S 0 0 0)) → (f = nI 0 → ¬ ∀ e, e < m 1 → TuG S e) → (∃ s', Md_isWhole_91_L14 (nI (xN S 0 0 0)) (nI (unN S i)) (nI i) (nI (xN S 1 i 2)) f T = some (Sum.inl s') ∧ s'.2.2 = nI (i + 1) ∧ s'.1 = nI (unN S (i + 1)) ∧ (s'.2.1 = nI 1 ∧ (∀ e, e < i + 1 → TuG S e) ∨ s'.2.1 = nI 0 ∧ ¬ ∀ e, e < m 1 → TuG S e)) := fun f hf f1 f0 => by
        have goal : ∀ r : Int32, (r = nI 1 ∧ f = nI 1 ∧ (∀ j, j < i → ¬ (xN S 1 j 0 = xN S 1 i 0 ∧ xN S 1 j 1 = xN S 1 i 1)) ∨ r = nI 0 ∧ ¬ (f = nI 1 ∧ ∀ j, j < i → ¬ (xN S 1 j 0 = xN S 1 i 0 ∧ xN S 1 j 1 = xN S 1 i 1))) → (r = nI 1 ∧ (∀ e, e < i + 1 → TuG S e) ∨ r = nI 0 ∧ ¬ ∀ e, e < m 1 → TuG S e) := fun r hr => by
          rcases hr with ⟨r1, r2, r3⟩ | ⟨r1, r2⟩
          · obtain ⟨w1, w3, w4, w5⟩ := f1 r2
            refine Or.inl ⟨r1, fun e he => ?_⟩
            by_cases y : e = i
            · subst y; exact ⟨w3, w4, w5, r3⟩
            · exact w1 e (by omega)
          · refine Or.inr ⟨r1, fun z => ?_⟩
            rcases hf with hf | hf
            · exact r2 ⟨hf, (z i hi).2.2.2⟩
            · exact f0 hf z
        unfold Md_isWhole_91_L14 Md_isWhole_105_L14
        by_cases t : xN S 1 i 2 = 8
        · rw [if_pos (decide_eq_true t)] at us
          obtain ⟨r, er, hr⟩ := inner i (nI (unN S i) + 1) f hi hf
          rw [t, if_pos (show nI 8 = 8 from rfl), er, q_bind, i1]
          exact ⟨_, rfl, rfl, by rw [us]; exact q_add _ 1, goal r hr⟩
        · rw [if_neg (show ¬ decide (xN S 1 i 2 = 8) = true from fun e => t (of_decide_eq_true e))] at us
          obtain ⟨r, er, hr⟩ := inner i (nI (unN S i) + 0) f hi hf
          rw [if_neg (show ¬ nI (xN S 1 i 2) = 8 from fun e => t ((q_eq (b := 8) (by omega) (by omega)).mp e)), er, q_bind, i1]
          exact ⟨_, rfl, rfl, by rw [us]; exact q_add _ 0, goal r hr⟩
      have bad : (¬ ∀ e, e < m 1 → TuG S e) → (∃ s', Md_isWhole_90_L14 (nI (xN S 0 0 0)) (nI (unN S i)) (nI i) (nI (xN S 1 i 2)) T = some (Sum.inl s') ∧ s'.2.2 = nI (i + 1) ∧ s'.1 = nI (unN S (i + 1)) ∧ (s'.2.1 = nI 1 ∧ (∀ e, e < i + 1 → TuG S e) ∨ s'.2.1 = nI 0 ∧ ¬ ∀ e, e < m 1 → TuG S e)) := fun hb => fin 0 (Or.inr rfl) (fun e => absurd e (by decide)) fun _ => hb
      unfold Md_isWhole_L14
      dsimp only
      rw [c1, if_neg (nI_ge hi (by omega)), m4, show (2 : Int32) = nI 2 from rfl, show (1 : Int32) = nI 1 from rfl, q_add, q_add, if_pos (nI_in (by omega) (by omega)), if_pos (nI_in (by omega) (by omega)), if_pos (nI_in (by omega) (by omega)), q_ix (by omega), q_ix (by omega), q_ix (by omega), xi, yi, wi, b4]
      rcases hq with ⟨(rfl : q2 = nI 1), hG⟩ | ⟨(rfl : q2 = nI 0), hG⟩
      · rw [if_neg n10]
        by_cases p : xN S 1 i 0 < xN S 0 0 0
        · rw [if_neg (nI_ge p (by omega))]
          by_cases q : xN S 1 i 1 < xN S 0 0 1
          · rw [if_neg (nI_ge q (by omega))]
            by_cases t : xN S 1 i 2 = 8
            · rw [if_pos (show nI (xN S 1 i 2) = 8 by rw [t]; rfl)]
              exact Or.inl (fin 1 (Or.inl rfl) (fun _ => ⟨hG, p, q, Or.inl t⟩) fun e => absurd e (by decide))
            · rw [if_neg (show ¬ nI (xN S 1 i 2) = 8 from fun e => t ((q_eq (b := 8) (by omega) (by omega)).mp e))]
              by_cases o : xN S 1 i 2 < xN S 0 0 0
              · rw [if_neg (nI_ge o (by omega))]
                exact Or.inl (fin 1 (Or.inl rfl) (fun _ => ⟨hG, p, q, Or.inr o⟩) fun e => absurd e (by decide))
              · rw [if_pos (nI_le (by omega) (by omega))]
                exact Or.inl (bad fun z => (z i hi).2.2.1.elim t o)
          · rw [if_pos (nI_le (by omega) (by omega))]
            exact Or.inl (bad fun z => q (z i hi).2.1)
        · rw [if_pos (nI_le (by omega) (by omega))]
          exact Or.inl (bad fun z => p (z i hi).1)
      · rw [if_pos (show nI 0 = 0 from rfl)]
        exact Or.inl (bad hG)
    · obtain ⟨q1, q2, q3⟩ := q
      obtain ⟨(e3 : q3 = nI (m 1)), (e2 : q1 = nI (unN S (m 1))), hq⟩ := hq
      subst e3 e2
      refine ⟨(nI (unN S (m 1)), q2), ?_, rfl, hq⟩
      unfold Md_isWhole_L14
      exact if_pos (by rw [c1]; exact nI_le (Nat.le_refl _) (by omega))
  obtain ⟨u20, f20⟩ := q20
  have g1 : u20 = nI (unN S (m 1)) := g1
  subst g1
  have g2 : f20 = nI 1 ∧ (∀ e, e < m 1 → TuG S e) ∨ f20 = nI 0 ∧ ¬ ∀ e, e < m 1 → TuG S e := g2
  have cl : unN S (m 1) ≤ m 1 := cnt_le (fun e => decide (xN S 1 e 2 = 8)) (m 1)
  obtain ⟨f28, e2, g3⟩ : ∃ r : Int32, lpN (Md_isWhole_L188 (nI (xN S 0 0 0)) (nI (unN S (m 1))) T) FU (f20, 0) = some r ∧ (r = nI 1 ∧ f20 = nI 1 ∧ (∀ e, e < m 2 → TrG S e) ∨ r = nI 0 ∧ ¬ (f20 = nI 1 ∧ ∀ e, e < m 2 → TrG S e)) := by
    refine lp_inv (fun i (q : Int32 × Int32) => q.2 = nI i ∧ (q.1 = nI 1 ∧ f20 = nI 1 ∧ (∀ e, e < i → TrG S e) ∨ q.1 = nI 0 ∧ ¬ (f20 = nI 1 ∧ ∀ e, e < m 2 → TrG S e))) (m 2) (by omega) ⟨rfl, ?_⟩ (fun i q hi hq => ?_) (fun q hq => ?_)
    · rcases g2 with ⟨rfl, -⟩ | ⟨rfl, -⟩
      · exact Or.inl ⟨rfl, rfl, fun e z => absurd z (by omega)⟩
      · exact Or.inr ⟨rfl, fun z => absurd z.1 (by decide)⟩
    · obtain ⟨q1, q2⟩ := q
      obtain ⟨(e3 : q2 = nI i), hq⟩ := hq
      subst e3
      obtain ⟨-, x2, -, xi⟩ := nd_x h (k := 2) (e := i) (s := 0) (by omega) hi (by decide)
      obtain ⟨-, y2, -, yi⟩ := nd_x h (k := 2) (e := i) (s := 1) (by omega) hi (by decide)
      have x2 : xN S 2 i 0 ≤ 7 := x2
      have y2 : xN S 2 i 1 ≤ 5 := y2
      have xi : gi T 66 (4 * i) = nI (xN S 2 i 0) := xi
      have yi : gi T 66 (4 * i + 1) = nI (xN S 2 i 1) := yi
      have i1 : nI i + 1 = nI (i + 1) := q_add i 1
      have m4 : (4 : Int32) * nI i = nI (4 * i) := q_mul 4 i
      unfold Md_isWhole_L188 Md_isWhole_248_L188 Md_isWhole_244_L188 Md_isWhole_249_L188
      dsimp only
      rw [c2, if_neg (nI_ge hi (by omega)), i1, m4, show nI (4 * i) + 1 = nI (4 * i + 1) from q_add _ 1, if_pos (nI_in (by omega) (by omega)), if_pos (nI_in (by omega) (by omega)), q_ix (by omega), q_ix (by omega), xi, yi, b4]
      rcases hq with ⟨(rfl : q1 = nI 1), f1, hG⟩ | ⟨(rfl : q1 = nI 0), hG⟩
      · rw [if_neg n10]
        have add : TrG S i → ∀ e, e < i + 1 → TrG S e := fun g e he => by
          by_cases y : e = i
          · subst y; exact g
          · exact hG e (by omega)
        by_cases p : xN S 2 i 0 < xN S 0 0 0
        · rw [if_neg (nI_ge p (by omega))]
          by_cases t : xN S 2 i 1 = 5
          · rw [if_pos (show nI (xN S 2 i 1) = 5 by rw [t]; rfl)]
            exact Or.inl ⟨_, rfl, rfl, Or.inl ⟨rfl, f1, add ⟨p, Or.inl t⟩⟩⟩
          · rw [if_neg (show ¬ nI (xN S 2 i 1) = 5 from fun e => t ((q_eq (b := 5) (by omega) (by omega)).mp e))]
            by_cases o : xN S 2 i 1 < xN S 0 0 1
            · rw [if_neg (nI_ge o (by omega))]
              exact Or.inl ⟨_, rfl, rfl, Or.inl ⟨rfl, f1, add ⟨p, Or.inr o⟩⟩⟩
            · rw [if_pos (nI_le (by omega) (by omega))]
              exact Or.inl ⟨_, rfl, rfl, Or.inr ⟨rfl, fun z => (z.2 i hi).2.elim t o⟩⟩
        · rw [if_pos (nI_le (by omega) (by omega))]
          exact Or.inl ⟨_, rfl, rfl, Or.inr ⟨rfl, fun z => p (z.2 i hi).1⟩⟩
      · rw [if_pos (show nI 0 = 0 from rfl)]
        exact Or.inl ⟨_, rfl, rfl, Or.inr ⟨rfl, hG⟩⟩
    · obtain ⟨q1, q2⟩ := q
      obtain ⟨(e3 : q2 = nI (m 2)), hq⟩ := hq
      subst e3
      refine ⟨q1, ?_, hq⟩
      unfold Md_isWhole_L188
      exact if_pos (by rw [c2]; exact nI_le (Nat.le_refl _) (by omega))
  obtain ⟨f33, e3, g4⟩ : ∃ r : Int32, lpN (Md_isWhole_L259 (nI (xN S 0 0 0)) (nI (unN S (m 1))) T) FU (f28, 0) = some r ∧ (r = nI 1 ∧ f28 = nI 1 ∧ (∀ e, e < m 3 → GuG S e) ∨ r = nI 0 ∧ ¬ (f28 = nI 1 ∧ ∀ e, e < m 3 → GuG S e)) := by
    refine lp_inv (fun i (q : Int32 × Int32) => q.2 = nI i ∧ (q.1 = nI 1 ∧ f28 = nI 1 ∧ (∀ e, e < i → GuG S e) ∨ q.1 = nI 0 ∧ ¬ (f28 = nI 1 ∧ ∀ e, e < m 3 → GuG S e))) (m 3) (by omega) ⟨rfl, ?_⟩ (fun i q hi hq => ?_) (fun q hq => ?_)
    · rcases g3 with ⟨rfl, -⟩ | ⟨rfl, -⟩
      · exact Or.inl ⟨rfl, rfl, fun e z => absurd z (by omega)⟩
      · exact Or.inr ⟨rfl, fun z => absurd z.1 (by decide)⟩
    · obtain ⟨q1, q2⟩ := q
      obtain ⟨(e3 : q2 = nI i), hq⟩ := hq
      subst e3
      obtain ⟨-, x2, -, xi⟩ := nd_x h (k := 3) (e := i) (s := 0) (by omega) hi (by decide)
      have x2 : xN S 3 i 0 ≤ 7 := x2
      have xi : gi T 67 i = nI (xN S 3 i 0) := by
        have : gi T 67 (1 * i + 0) = nI (xN S 3 i 0) := xi
        rwa [Nat.one_mul, Nat.add_zero] at this
      have i1 : nI i + 1 = nI (i + 1) := q_add i 1
      unfold Md_isWhole_L259 Md_isWhole_287_L259 Md_isWhole_288_L259
      dsimp only
      rw [c3, if_neg (nI_ge hi (by omega)), i1, if_pos (nI_in (by omega) (by omega)), q_ix (by omega), xi]
      rcases hq with ⟨(rfl : q1 = nI 1), f1, hG⟩ | ⟨(rfl : q1 = nI 0), hG⟩
      · rw [if_neg n10]
        by_cases p : xN S 3 i 0 < xN S 0 0 0
        · rw [if_neg (nI_ge p (by omega))]
          refine Or.inl ⟨_, rfl, rfl, Or.inl ⟨rfl, f1, fun e he => ?_⟩⟩
          by_cases y : e = i
          · subst y; exact p
          · exact hG e (by omega)
        · rw [if_pos (nI_le (by omega) (by omega))]
          exact Or.inl ⟨_, rfl, rfl, Or.inr ⟨rfl, fun z => p (z.2 i hi)⟩⟩
      · rw [if_pos (show nI 0 = 0 from rfl)]
        exact Or.inl ⟨_, rfl, rfl, Or.inr ⟨rfl, hG⟩⟩
    · obtain ⟨q1, q2⟩ := q
      obtain ⟨(e3 : q2 = nI (m 3)), hq⟩ := hq
      subst e3
      refine ⟨q1, ?_, hq⟩
      unfold Md_isWhole_L259
      exact if_pos (by rw [c3]; exact nI_le (Nat.le_refl _) (by omega))
  unfold Md_isWhole Md_isWhole_308 Md_isWhole_309
  rw [a4, e1, q_bind]
  dsimp only
  rw [e2, q_bind, e3, q_bind, z0, z1]
  rcases g4 with ⟨rfl, g5, g6⟩ | ⟨rfl, g5⟩
  · rw [if_neg n10]
    rcases g3 with ⟨-, g7, g8⟩ | ⟨g7, -⟩
    · rcases g2 with ⟨-, g9⟩ | ⟨g9, -⟩
      · by_cases y : unN S (m 1) ≤ 4
        · rw [if_neg (show ¬ (4 : Int32) < nI (unN S (m 1)) from nI_nlt (a := 4) y (by omega))]
          exact ⟨_, rfl, Or.inl ⟨rfl, g9, y, g8, g6⟩⟩
        · rw [if_pos (show (4 : Int32) < nI (unN S (m 1)) from nI_lt (a := 4) (by omega) (by omega))]
          exact ⟨_, rfl, Or.inr ⟨rfl, fun z => y z.2.1⟩⟩
      · rw [g9] at g7; exact absurd g7 (by decide)
    · rw [g7] at g5; exact absurd g5 (by decide)
  · rw [if_pos (show nI 0 = 0 from rfl)]
    refine ⟨_, rfl, Or.inr ⟨rfl, fun z => ?_⟩⟩
    refine g5 ⟨?_, z.2.2.2⟩
    rcases g3 with ⟨g7, -⟩ | ⟨-, g7⟩
    · exact g7
    · exfalso
      refine g7 ⟨?_, z.2.2.1⟩
      rcases g2 with ⟨g9, -⟩ | ⟨-, g9⟩
      · exact g9
      · exact absurd z.1 g9
end NW
