/-! ===== prices, dark, cheapest ===== -/
theorem clamp_ok (v : Int32) : ∃ k, k ≤ 99 ∧ iMax 0 (iMin 99 v) = nI k := by
  unfold iMin iMax
  by_cases h : v < 99
  · rw [if_pos h]
    by_cases g : (0 : Int32) < v
    · rw [if_pos g]
      obtain ⟨j, hj, rfl⟩ := nI_of2 (M := 99) (n := 99) rfl (fun q => Int32.lt_asymm q g) (Int32.le_of_lt h)
      exact ⟨j, hj, rfl⟩
    · rw [if_neg g]; exact ⟨0, by omega, rfl⟩
  · rw [if_neg h]; exact ⟨99, by omega, by decide⟩
def prV (X : List (List Cl)) (M : Nat → Int32) (h m c : Nat) : Int32 := iMax 0 (iMin 99 (wo (ltr (nI c) (nI (Ln M m c)) (nI m) (nI (Ld M m c)) (M (80 + Ld M m c))) ((X[h]?).getD [])))
def prC (hd : Int32) (X : List (List Cl)) (M : Nat → Int32) (m c : Nat) : Nat := if hd = -1 then Ln M m c else ix (prV X M (ix hd) m c)
section DA
variable {N K F R w : Nat} {U : List Nat} {X : List (List Cl)} {T S : Sm}
theorem guard_eq (h : RelP N K F R U X w T S) {m : Nat} (hm : m < 8) : gi S 28 m = gi T 70 (80 + m) := by
  obtain ⟨-, -, -, ⟨-, n, hh, q, hg, -⟩, -⟩ := h
  obtain ⟨g, g1, g2, g3⟩ := hg m hm
  exact (show gi S 28 m = nI g from g3).trans g2.symm
theorem price_S (h : RelP N K F R U X w T S) {m c : Nat} (hm : m < N) (hc : c < K ∨ c = 5) : ∃ S2, Wy_priceOf (nI m) (nI c) S = some (nI (prC (gi S 20 5) X (T.1 70) m c), S2) ∧ LwS S S2 := by
  obtain ⟨hP, hS, hT⟩ := way_of h (pos_of hm)
  obtain ⟨l1, l2, l3⟩ := hP.2.2.2.2 m c hm hc
  have h8 := hP.1
  have hs := hS.2.2 m c hm hc
  have ge := guard_eq h (m := Ld (T.1 70) m c) (by omega)
  obtain ⟨-, -, -, -, -, -, -, -, -, -, x1, x2, x3, x4, x5, x6⟩ := h
  unfold Wy_priceOf La_holding prC
  rcases x5 with x5 | ⟨j, hj, x5⟩
  · rw [x5, if_pos (show mI = -1 from rfl), if_pos (show mI = -1 from rfl), hs.2]
    exact ⟨S, rfl, LwS.rfl S⟩
  · have n1 : ¬ nI j = -1 := fun e => (q_eqm (by omega)).mp e
    rw [x5, if_neg n1, if_neg n1, q_ix (by omega), hs.1, hs.2, mo_ga (by omega), ge]
    have hl : X[j]? = some X[j] := List.getElem?_eq_getElem hj
    obtain ⟨y1, y2, y3⟩ := x6 j _ hl
    obtain ⟨S2, e1, e2⟩ := la_worth (v1 := nI c) (v2 := nI (Ln (T.1 70) m c)) (v3 := nI m) (v4 := nI (Ld (T.1 70) m c)) (v5 := gi T 70 (80 + Ld (T.1 70) m c)) (by omega) x5 y1 y3
    refine ⟨S2, ?_, e2⟩
    have ev : prV X (T.1 70) j m c = iMax 0 (iMin 99 (wo (ltr (nI c) (nI (Ln (T.1 70) m c)) (nI m) (nI (Ld (T.1 70) m c)) (gi T 70 (80 + Ld (T.1 70) m c))) X[j])) := by
      unfold prV
      rw [hl]; rfl
    obtain ⟨k, hk, e3⟩ := clamp_ok (wo (ltr (nI c) (nI (Ln (T.1 70) m c)) (nI m) (nI (Ld (T.1 70) m c)) (gi T 70 (80 + Ld (T.1 70) m c))) X[j])
    rw [ev, e3, q_ix (by omega), e1]
    show some (iMax 0 (iMin 99 _), S2) = _
    rw [e3]
theorem price_T (h : RelP N K F R U X w T S) {m c : Nat} (hm : m < N) (hc : c < K ∨ c = 5) : ∃ T2, Md_price (nI m) (nI c) T = some (nI (prC (gi S 20 5) X (T.1 70) m c), T2) ∧ LwT T T2 := by
  have hh := h
  obtain ⟨hP, hS, hT⟩ := way_of h (pos_of hm)
  obtain ⟨l1, l2, l3⟩ := hP.2.2.2.2 m c hm hc
  have h8 := hP.1
  have ht := hT.2.2 m c hm hc
  obtain ⟨-, -, -, -, -, -, -, -, -, -, x1, x2, x3, x4, x5, x6⟩ := h
  unfold Md_price Md_price_77 prC
  rw [ht.2]
  show ∃ T2, (if gi T 53 31 = -1 then _ else _) = _ ∧ _
  rw [x4]
  rcases x5 with x5 | ⟨j, hj, x5⟩
  · rw [x5, if_pos (show mI = -1 from rfl), if_pos (show mI = -1 from rfl)]
    refine ⟨T, ?_, LwT.rfl T⟩
    have e : iMax 0 (iMin 99 (nI (Ln (T.1 70) m c))) = nI (Ln (T.1 70) m c) := by
      rw [show (0 : Int32) = nI 0 from rfl, show (99 : Int32) = nI 99 from rfl, q_min (by omega) (by omega), q_max (by omega) (by omega)]
      exact congrArg nI (by omega)
    rw [e]
  · have n1 : ¬ nI j = -1 := fun e => (q_eqm (by omega)).mp e
    rw [x5, if_neg n1, if_neg n1, q_ix (by omega)]
    have hl : X[j]? = some X[j] := List.getElem?_eq_getElem hj
    obtain ⟨y1, y2, y3⟩ := x6 j _ hl
    obtain ⟨T1, hT1⟩ : ∃ T1, T1 = si (si (si T 62 0 (nI c)) 62 1 (nI (Ln (T.1 70) m c))) 62 2 (nI m) := ⟨_, rfl⟩
    rw [← hT1]
    have w1 : LwT T T1 := by rw [hT1]; exact (((LwT.rfl T).le).le).le
    have r1 := (way_of (hh.same (SamS.rfl S) w1.sam) (pos_of hm)).2.2.2.2 m c hm hc
    rw [w1.row 70 (by omega) (by omega)] at r1
    rw [r1.1]
    show ∃ T2, ((Md_leads (nI m) (nI c) (si T1 62 3 (nI (Ld (T.1 70) m c)))).bind _) = _ ∧ _
    obtain ⟨T3, hT3⟩ : ∃ T3, T3 = si T1 62 3 (nI (Ld (T.1 70) m c)) := ⟨_, rfl⟩
    rw [← hT3]
    have w3 : LwT T T3 := by rw [hT3]; exact w1.le
    have r3 := (way_of (hh.same (SamS.rfl S) w3.sam) (pos_of hm)).2.2.2.2 m c hm hc
    rw [w3.row 70 (by omega) (by omega)] at r3
    rw [r3.1]
    show ∃ T2, (if inb (80 + nI (Ld (T.1 70) m c)) 320 then _ else none) = _ ∧ _
    have i1 : inb (80 + nI (Ld (T.1 70) m c)) 320 := by simp (disch := omega) only [q_lit, q_m1, q_m2, q_hid, q_add, q_mul, q_sub, q_le, q_lt, q_eq, q_mlt, q_mle, q_ltm, q_lem, q_meq, q_eqm, q_m2lt, q_m2le, q_ltm2, q_lem2, q_eqm2, q_mm2, q_m2m, q_mm, q_mnm, q_ix, q_inb, q_a0, q_a1, q_app, q_bind, if_true, if_false, if_pos, if_neg]; omega
    have i2 : ix (80 + nI (Ld (T.1 70) m c)) = 80 + Ld (T.1 70) m c := by simp (disch := omega) only [q_lit, q_m1, q_m2, q_hid, q_add, q_mul, q_sub, q_le, q_lt, q_eq, q_mlt, q_mle, q_ltm, q_lem, q_meq, q_eqm, q_m2lt, q_m2le, q_ltm2, q_lem2, q_eqm2, q_mm2, q_m2m, q_mm, q_mnm, q_ix, q_inb, q_a0, q_a1, q_app, q_bind, if_true, if_false, if_pos, if_neg]
    rw [if_pos i1, i2]
    obtain ⟨T4, hT4⟩ : ∃ T4, T4 = si T3 62 4 (gi T3 70 (80 + Ld (T.1 70) m c)) := ⟨_, rfl⟩
    rw [← hT4]
    have w4 : LwT T T4 := by rw [hT4]; exact w3.le
    have g70 : gi T3 70 (80 + Ld (T.1 70) m c) = gi T 70 (80 + Ld (T.1 70) m c) := w3 70 _ (by omega) (by omega)
    have hold : gi T4 53 31 = nI j := (w4 53 31 (by omega) (by omega)).trans (x4.trans x5)
    rw [hold]
    have lets : ∀ i, i < 5 → gi T4 62 i = ltr (nI c) (nI (Ln (T.1 70) m c)) (nI m) (nI (Ld (T.1 70) m c)) (gi T 70 (80 + Ld (T.1 70) m c)) i := fun i hi => by
      rw [hT4, g70, hT3, hT1]
      match i, hi with
      | 0, _ => rfl
      | 1, _ => rfl
      | 2, _ => rfl
      | 3, _ => rfl
      | 4, _ => rfl
      | i + 5, hi => omega
    have y2' : LawT X[j] j T := y2
    obtain ⟨T5, e1, e2⟩ := md_worth (le := ltr (nI c) (nI (Ln (T.1 70) m c)) (nI m) (nI (Ld (T.1 70) m c)) (gi T 70 (80 + Ld (T.1 70) m c))) (by omega) y2' y3 ⟨w4, lets⟩
    refine ⟨T5, ?_, e2⟩
    have ev : prV X (T.1 70) j m c = iMax 0 (iMin 99 (wo (ltr (nI c) (nI (Ln (T.1 70) m c)) (nI m) (nI (Ld (T.1 70) m c)) (gi T 70 (80 + Ld (T.1 70) m c))) X[j])) := by
      unfold prV
      rw [hl]; rfl
    obtain ⟨k, hk, e3⟩ := clamp_ok (wo (ltr (nI c) (nI (Ln (T.1 70) m c)) (nI m) (nI (Ld (T.1 70) m c)) (gi T 70 (80 + Ld (T.1 70) m c))) X[j])
    rw [ev, e3, q_ix (by omega), e1]
    show some (iMax 0 (iMin 99 _), T5) = _
    rw [e3]
theorem prC_le (h : RelP N K F R U X w T S) {m c : Nat} (hm : m < N) (hc : c < K) : prC (gi S 20 5) X (T.1 70) m c ≤ 99 := by
  obtain ⟨hP, -, -⟩ := way_of h (pos_of hm)
  obtain ⟨l1, l2, l3⟩ := hP.2.2.2.2 m c hm (Or.inl hc)
  unfold prC
  split
  · omega
  · unfold prV
    obtain ⟨k, hk, e⟩ := clamp_ok (wo (ltr (nI c) (nI (Ln (T.1 70) m c)) (nI m) (nI (Ld (T.1 70) m c)) (T.1 70 (80 + Ld (T.1 70) m c))) ((X[ix (gi S 20 5)]?).getD []))
    rw [e, q_ix (by omega)]; exact hk
theorem price_C (h : RelP N K F R U X w T S) : CosS N K (prC (gi S 20 5) X (T.1 70)) 1 S ∧ CosT N K (prC (gi S 20 5) X (T.1 70)) 1 T := by
  constructor
  · intro m c S1 hm hc g
    obtain ⟨S2, e1, e2⟩ := price_S (h.same g (SamT.rfl T)) hm (Or.inl hc)
    have e20 : gi S1 20 5 = gi S 20 5 := g 20 5 rfl
    rw [e20] at e1
    exact ⟨S2, by rw [if_pos rfl]; exact e1, e2.sam, e2.row 38 (by omega) (by omega)⟩
  · intro m c T1 hm hc g
    obtain ⟨T2, e1, e2⟩ := price_T (h.same (SamS.rfl S) g) hm (Or.inl hc)
    rw [g.row 70 fun _ => rfl] at e1
    refine ⟨T2, ?_, e2.sam, e2.row 76 (by omega) (by omega)⟩
    unfold Md_costOf Md_costOf_19
    rw [if_neg (by decide), e1]; rfl
theorem op_cheapest (h : RelP N K F R U X w T S) (v1 v2 v3 : Int32) : ∃ q p, Dk_cheapest v1 v2 v3 S = some q ∧ Md_cheapest v1 v2 v3 T = some p ∧ q.1 = p.1 ∧ SamS S q.2 ∧ SamT T p.2 := by
  unfold Dk_cheapest Md_cheapest Dk_cheapest_24 Md_cheapest_17 Md_cheapest_49
  rcases areC h.1 v1 v2 v3 with ⟨a, b⟩ | ⟨m, g, s, hm, hg, hs0, hs, rfl, rfl, rfl, a, b, c⟩
  · rw [a]
    refine ⟨(mI, S), (mI, T), rfl, ?_, rfl, SamS.rfl S, SamT.rfl T⟩
    rcases b with b | ⟨b, b'⟩
    · rw [b]; rfl
    · rw [b, b']; rfl
  · have t1 : ¬ nI 1 = 0 := by decide
    rw [a, b, c, if_neg t1, if_neg t1, if_neg t1]
    have hN := pos_of hm
    obtain ⟨hP, -, -⟩ := way_of h hN
    obtain ⟨hW, hV, -, -, -⟩ := hours_S h hN
    obtain ⟨hcS, hcT⟩ := price_C h
    have hC : ∀ m o, m < N → o < K → prC (gi S 20 5) X (T.1 70) m o ≤ 99 := fun m o h1 h2 => prC_le h h1 h2
    have h8 := hP.1
    have h5 := hP.2.1
    have hs32 := set_lt h5 hs
    obtain ⟨S2, e1, k1, f, k2, k3⟩ := wy_meas hP hW hC hcS (z := nI 0) Msk.none hs32 hg
    obtain ⟨T2, e2, l1, f', l2, l3⟩ := md_away hP hV hC hcT (z := nI 0) Msk.none hs32 hg
    have e1 : Wy_measure (nI g) (nI s) 1 0 S = some S2 := e1
    have e2 : Md_layAway (nI g) (nI s) 1 0 T = some T2 := e2
    obtain ⟨k2m, k2l⟩ := k2 m (by omega)
    have l2m := (l2 m (by omega)).1
    rw [(l3 m hm).uniq (k3 m hm)] at l2m
    have ib : inb (nI m) 8 := nI_in (by omega) (by omega)
    have im : ix (nI m) = m := q_ix (by omega)
    unfold Wy_leastPrices
    rw [e1, e2]
    refine ⟨(if f m = 1000000 then mI else nI (f m), S2), (if f m = 1000000 then mI else nI (f m), T2), ?_, ?_, rfl, k1, l1⟩
    · show some (Wy_farFrom (nI m) S2, S2) = _
      rw [far_fr (by omega) k2m k2l]
    · show (if inb (nI m) 8 then _ else _) = _
      rw [if_pos ib, if_pos ib, im, l2m]
      by_cases y : f m = 1000000
      · simp (disch := omega) only [q_lit, q_m1, q_m2, q_hid, q_add, q_mul, q_sub, q_le, q_lt, q_eq, q_mlt, q_mle, q_ltm, q_lem, q_meq, q_eqm, q_m2lt, q_m2le, q_ltm2, q_lem2, q_eqm2, q_mm2, q_m2m, q_mm, q_mnm, q_ix, q_inb, q_a0, q_a1, q_app, q_bind, if_true, if_false, if_pos, if_neg, y]
      · simp (disch := omega) only [q_lit, q_m1, q_m2, q_hid, q_add, q_mul, q_sub, q_le, q_lt, q_eq, q_mlt, q_mle, q_ltm, q_lem, q_meq, q_eqm, q_m2lt, q_m2le, q_ltm2, q_lem2, q_eqm2, q_mm2, q_m2m, q_mm, q_mnm, q_ix, q_inb, q_a0, q_a1, q_app, q_bind, if_true, if_false, if_pos, if_neg, y]
theorem op_dark (h : RelP N K F R U X w T S) (v1 v2 v3 : Int32) : ∃ q p, Dk_dark v1 v2 v3 S = some q ∧ Md_dark v1 v2 v3 T = some p ∧ q.1 = p.1 ∧ SamS S q.2 ∧ SamT T p.2 := by
  unfold Dk_dark Md_dark Dk_dark_22 Dk_dark_78 Md_dark_25 Md_dark_57 Md_dark_58 Md_dark_104
  rcases mouthC h.1 v1 with ⟨a, b⟩ | ⟨m, hm, rfl, a, b⟩
  · rw [a, b]; exact ⟨(mI, S), (mI, T), rfl, rfl, rfl, SamS.rfl S, SamT.rfl T⟩
  · obtain ⟨hP, hS, hT⟩ := way_of h (pos_of hm)
    have h8 := hP.1
    have h5 := hP.2.1
    have t1 : ¬ nI 1 = 0 := by decide
    have t0 : nI 0 = 0 := rfl
    rcases lampC h.1 (pos_of hm) v2 with ⟨c, d⟩ | ⟨c, hc, hc6, rfl, c', d⟩
    · rw [a, b, c, d]; exact ⟨(mI, S), (mI, T), rfl, rfl, rfl, SamS.rfl S, SamT.rfl T⟩
    · rw [a, b, c', d, if_neg t1, if_neg t1, if_neg t1, if_neg t1]
      rcases rngG v3 0 2 (by omega) (by omega) with ⟨q, e⟩ | ⟨n, -, hn, rfl, e⟩
      · rw [show Md_in v3 0 2 = nI 0 from e]
        have z0 : ¬ v3 = 0 := by rintro rfl; rcases q with q | q <;> exact absurd q (by decide)
        have z1 : ¬ v3 = 1 := by rintro rfl; rcases q with q | q <;> exact absurd q (by decide)
        have z2 : ¬ v3 = 2 := by rintro rfl; rcases q with q | q <;> exact absurd q (by decide)
        rw [if_neg z0, if_neg z1, if_neg z2]
        exact ⟨(mI, S), (mI, T), rfl, rfl, rfl, SamS.rfl S, SamT.rfl T⟩
      · rw [show Md_in (nI n) 0 2 = nI 1 from e, if_neg t1]
        have hs := hS.2.2 m c hm hc
        have ht := hT.2.2 m c hm hc
        have n3 : n = 0 ∨ n = 1 ∨ n = 2 := by omega
        rcases n3 with rfl | rfl | rfl
        · rw [if_pos (show nI 0 = 0 from rfl), if_pos (show nI 0 = 0 from rfl), if_pos (show nI 0 = 0 from rfl), hs.1, ht.1]
          by_cases c5 : c = 5
          · subst c5
            have eu : Wy_isUnknown (nI m) (nI 5) S = nI 0 := by
              unfold Wy_isUnknown Wy_isUnknown_22 Wy_isUnknown_23
              rw [if_pos (show nI 5 = 5 from rfl)]; rfl
            rw [eu, if_pos (show nI 5 = 5 from rfl), if_pos (show nI 0 = 0 from rfl), if_pos (show (0 : Int32) = 0 from rfl)]
            exact ⟨(_, S), (_, T), rfl, rfl, rfl, SamS.rfl S, SamT.rfl T⟩
          · have hcK : c < K := hc.resolve_right c5
            have hd := h.2.2.2.1.1 (pos_of hm) m c (by omega) (by omega)
            have el := mo_leads (S := S) (m := m) (c := c) (by omega) (by omega)
            have i1 : ix (0 + 5 * nI m + nI c) = 5 * m + c := by simp (disch := omega) only [q_lit, q_m1, q_m2, q_hid, q_add, q_mul, q_sub, q_le, q_lt, q_eq, q_mlt, q_mle, q_ltm, q_lem, q_meq, q_eqm, q_m2lt, q_m2le, q_ltm2, q_lem2, q_eqm2, q_mm2, q_m2m, q_mm, q_mnm, q_ix, q_inb, q_a0, q_a1, q_app, q_bind, if_true, if_false, if_pos, if_neg]; omega
            have b1 : inb (0 + 5 * nI m + nI c) 320 := by simp (disch := omega) only [q_lit, q_m1, q_m2, q_hid, q_add, q_mul, q_sub, q_le, q_lt, q_eq, q_mlt, q_mle, q_ltm, q_lem, q_meq, q_eqm, q_m2lt, q_m2le, q_ltm2, q_lem2, q_eqm2, q_mm2, q_m2m, q_mm, q_mnm, q_ix, q_inb, q_a0, q_a1, q_app, q_bind, if_true, if_false, if_pos, if_neg]; omega
            have eu : Wy_isUnknown (nI m) (nI c) S = if gi S 27 (5 * m + c) = -1 then nI 1 else nI 0 := by
              unfold Wy_isUnknown Wy_isUnknown_22 Wy_isUnknown_23
              rw [if_neg (ne5 (by omega)), el]
              split <;> rfl
            rw [eu, if_neg (ne5 (by omega)), if_pos b1, i1]
            have e27 : gi S 27 (5 * m + c) = S.1 27 (5 * m + c) := rfl
            have e70 : gi T 70 (5 * m + c) = T.1 70 (5 * m + c) := rfl
            rw [e27, e70]
            rcases hd.1 with ⟨p, q, -⟩ | ⟨p, q, -⟩ | ⟨x, hx, p, q⟩
            · rw [p, q, if_pos (show mI = -1 from rfl), if_neg t1, if_pos (show mI2 = -2 from rfl), if_neg (show ¬ (1 : Int32) = 0 by decide)]
              exact ⟨(hI, S), (hI, T), rfl, rfl, rfl, SamS.rfl S, SamT.rfl T⟩
            · have n1 : ¬ nI m = -1 := fun e => (q_eqm (by omega)).mp e
              rw [p, q, if_neg n1, if_neg (show ¬ mI = -2 by decide), if_pos (show nI 0 = 0 from rfl), if_pos (show (0 : Int32) = 0 from rfl)]
              exact ⟨(_, S), (_, T), rfl, rfl, rfl, SamS.rfl S, SamT.rfl T⟩
            · have n1 : ¬ nI x = -1 := fun e => (q_eqm (by omega)).mp e
              have n2 : ¬ nI x = -2 := fun e => (q_eqm2 (by omega)).mp e
              rw [p, q, if_neg n1, if_neg n2, if_pos (show nI 0 = 0 from rfl), if_pos (show (0 : Int32) = 0 from rfl)]
              exact ⟨(_, S), (_, T), rfl, rfl, rfl, SamS.rfl S, SamT.rfl T⟩
        · rw [hs.2, ht.2]
          exact ⟨(_, S), (_, T), rfl, rfl, rfl, SamS.rfl S, SamT.rfl T⟩
        · obtain ⟨S2, e1, e2⟩ := price_S h hm hc
          obtain ⟨T2, e3, e4⟩ := price_T h hm hc
          rw [e1, e3]
          exact ⟨(_, S2), (_, T2), rfl, rfl, rfl, e2.sam, e4.sam⟩
end DA
