/-! ===== small writes ===== -/
section WR
variable {N K F R w : Nat} {U : List Nat} {X : List (List Cl)} {T S T' S' : Sm}
theorem KepR.of (h : KepR N K U T S) (hr : RngR S w) (hb : ∀ b, 91 ≤ b → S'.1 b = S.1 b) (h30 : S'.1 30 = S.1 30) (h31 : ∀ k, k < 40 → gi S' 31 k = gi S 31 k) (h13 : S'.1 13 = S.1 13) (t73 : T'.1 73 = T.1 73) (t34 : T'.1 53 34 = T.1 53 34) : KepR N K U T' S' := by
  obtain ⟨a, x, b1, b2, b3, b4, b5, b6⟩ := h
  refine ⟨a, x, b1, b2, t34.trans b3, (congrFun h30 4).trans b4, (congrFun h30 5).trans b5, fun j hj => ?_⟩
  obtain ⟨c1, c2⟩ := b6 j hj
  have hsl : slot x a j < 40 := Nat.mod_lt _ (by omega)
  have hb9 := (hr.1.2.2 _ hsl c1).1
  rw [h31 _ hsl]
  refine ⟨c1, ?_⟩
  clear c1 b6
  generalize ix (gi S 31 (slot x a j)) = b at c2 hb9 ⊢
  unfold MoK at c2 ⊢
  rw [hb (b + 1) (by omega), hb (b + 2) (by omega), hb (b + 3) (by omega), hb (b + 4) (by omega), hb b hb9, h13]
  simp only [gi, t73] at c2 ⊢
  exact c2
theorem RngR.of (h : RngR S w) (h31 : S'.1 31 = S.1 31) : RngR S' w := by
  simp only [RngR, RingOK, gNs, gi, h31] at h ⊢; exact h
theorem RngR.up {w' : Nat} (h : RngR S w) (hw : w ≤ w') : RngR S w' := ⟨h.1, h.2.1, by have := h.2.2; omega⟩
theorem RelP.up {w' : Nat} (h : RelP N K F R U X w T S) (hw : w ≤ w') : RelP N K F R U X w' T S := by
  obtain ⟨h1, h2, h3, h4, h5, h6, h7, h8, h9, h10, h11⟩ := h
  exact ⟨h1, h2, h3, h4, h5.up hw, h6, h7, h8, h9, h10, h11⟩
theorem f31_id {S S1 : Sm} (h : S1.1 31 = S.1 31) : f31 (S.1 31) S1 = S1 := by rw [← h]; exact f31_self S1
theorem si_big {i j : Nat} {v : Int32} (hi : i < 91) : ∀ b, 91 ≤ b → (si S i j v).1 b = S.1 b := fun b hb => funext fun k => if_neg fun e => by omega
theorem si_row {i j b : Nat} {v : Int32} (h : b ≠ i) : (si S i j v).1 b = S.1 b := funext fun k => if_neg fun e => h e.1
theorem op_end (h : RelP N K F R U X w T S) (v : Int32) : (Dk_end v S).1 = (Md_end v T).1 ∧ (Dk_end v S).2.1 31 = S.1 31 ∧ RelP N K F R U X w (Md_end v T).2 (Dk_end v S).2 := by
  have hh := h
  obtain ⟨h1, h2, h3, h4, h5, h6, h7, h8, ⟨n, n1, n2, n3, n4⟩, h10, h11⟩ := h
  unfold Dk_end Tp_cut Tp_cut_12 Md_end Md_end_12 app
  rw [n2, n3]
  by_cases c : v < 0
  · rw [if_pos c, if_pos c]; exact ⟨(by show (0 : Int32) &&& 1 = 0; decide), rfl, hh⟩
  · rw [if_neg c, if_neg c]
    by_cases d : v ≤ nI n
    · rw [if_pos d, if_pos d]
      obtain ⟨k, hk, rfl⟩ := nI_of c
      rw [q_le hk (by omega)] at d
      refine ⟨(by show (1 : Int32) &&& 1 = 1; decide), si_row (by omega), h1, h2, h3, h4, h5.of (si_row (by omega)), h6.of h5 (si_big (by omega)) (si_row (by omega)) (fun _ _ => rfl) (si_row (by omega)) (si_row (by omega)) rfl, h7, h8, ⟨k, by omega, rfl, rfl, fun i hi => n4 i (by omega)⟩, h10, h11⟩
    · rw [if_neg d, if_neg d]; exact ⟨(by show (0 : Int32) &&& 1 = 0; decide), rfl, hh⟩
theorem op_fogs (h : RelP N K F R U X w T S) (v : Int32) : (Dk_fogs v S).1 = (Md_fogs v T).1 ∧ (Dk_fogs v S).2.1 31 = S.1 31 ∧ RelP N K F R U X w (Md_fogs v T).2 (Dk_fogs v S).2 := by
  have hh := h
  obtain ⟨h1, h2, h3, h4, h5, h6, h7, h8, h9, ⟨f, f1, f2, f3⟩, h11⟩ := h
  unfold Dk_fogs Hr_setFogs Hr_setFogs_18 Md_fogs Md_fogs_18 app
  rw [f2, f3]
  rcases rngG v 0 99 (by omega) (by omega) with ⟨q, e⟩ | ⟨k, -, hk, rfl, e⟩
  · rw [show Md_in v 0 99 = nI 0 from e, rng_lt (a := 0) (n := 99) q]
    exact ⟨(by show (0 : Int32) &&& 1 = 0; decide), rfl, hh⟩
  · rw [show Md_in (nI k) 0 99 = nI 1 from e, if_neg (show ¬ nI k < 0 from nI_pos (by omega)), if_neg (show ¬ (99 : Int32) < nI k from nI_nlt (a := 99) (b := k) hk (by omega)), if_neg (show ¬ nI 1 = 0 by decide)]
    by_cases c : nI k = nI f
    · rw [if_pos c, if_pos c]; exact ⟨(by show (0 : Int32) &&& 1 = 0; decide), rfl, hh⟩
    · rw [if_neg c, if_neg c]
      refine ⟨(by show (1 : Int32) &&& 1 = 1; decide), si_row (by omega), h1, h2, h3, h4, h5.of (si_row (by omega)), h6.of h5 (si_big (by omega)) (si_row (by omega)) (fun _ _ => rfl) (si_row (by omega)) (si_row (by omega)) rfl, h7, h8, h9, ⟨k, hk, rfl, rfl⟩, h11⟩
theorem op_law (h : RelP N K F R U X w T S) (v : Int32) : (Dk_law v S).1 = (Md_law v T).1 ∧ (Dk_law v S).2.1 31 = S.1 31 ∧ RelP N K F R U X w (Md_law v T).2 (Dk_law v S).2 := by
  have hh := h
  obtain ⟨h1, h2, h3, h4, h5, h6, h7, h8, h9, h10, x1, x2, x3, x4, x5, x6⟩ := h
  unfold Dk_law La_choose La_choose_13 Md_law app
  rw [x2, x3]
  have new : ∀ u : Int32, (u = mI ∨ ∃ k, k < X.length ∧ u = nI k) → RelP N K F R U X w (si T 53 31 u) (si S 20 5 u) := fun u hu =>
    ⟨h1, h2, h3, h4, h5.of (si_row (by omega)), h6.of h5 (si_big (by omega)) (si_row (by omega)) (fun _ _ => rfl) (si_row (by omega)) (si_row (by omega)) rfl, h7, h8, h9, h10, x1, x2, x3, rfl, hu, x6⟩
  by_cases c : v < -1
  · rw [in_f (Or.inl c), if_pos c]
    exact ⟨(by show (0 : Int32) &&& 1 = 0; decide), rfl, hh⟩
  · by_cases m : v = -1
    · subst m
      have d : ¬ nI X.length - 1 < -1 := by
        by_cases z : X.length = 0
        · rw [z]; decide
        · rw [nI_predS (by omega)]
          exact fun q => Int32.lt_irrefl (Int32.lt_trans q (q_neg (x := -1) (by decide) (by omega)))
      rw [in_t c d, if_neg c, if_pos (show (-1 : Int32) < nI X.length from q_neg (by decide) (by omega)), if_neg (show ¬ nI 1 = 0 by decide)]
      exact ⟨(by show (1 : Int32) &&& 1 = 1; decide), si_row (by omega), new _ (Or.inl rfl)⟩
    · have v0 : ¬ v < 0 := fun q => m (by
        have a1 := Int32.lt_iff_toInt_lt.mp q
        have a2 : ¬ v.toInt < (-1 : Int32).toInt := fun z => c (Int32.lt_iff_toInt_lt.mpr z)
        rw [show (-1 : Int32).toInt = -1 from by decide] at a2
        rw [show (0 : Int32).toInt = 0 from by decide] at a1
        apply Int32.toInt_inj.mp
        rw [show (-1 : Int32).toInt = -1 from by decide]
        omega)
      rcases inC v (n := X.length) (by omega) with ⟨q, e⟩ | ⟨k, hk, rfl, e⟩
      · have q' := q.resolve_left v0
        have g : nI X.length - 1 < v := by
          obtain ⟨j, hj, rfl⟩ := nI_of v0
          rw [q_le (by omega) hj] at q'
          by_cases z : X.length = 0
          · rw [z]; exact q_neg (x := nI 0 - 1) (by decide) hj
          · rw [nI_predS (by omega), q_lt (by omega) hj]; omega
        rw [in_f (Or.inr g), if_neg c, if_neg (Int32.not_lt.mpr q')]
        exact ⟨(by show (0 : Int32) &&& 1 = 0; decide), rfl, hh⟩
      · have d : ¬ nI X.length - 1 < nI k := by rw [nI_predS (by omega), q_lt (by omega) (by omega)]; omega
        rw [in_t c d, if_neg c, if_pos (nI_lt hk (by omega)), if_neg (show ¬ nI 1 = 0 by decide)]
        exact ⟨(by show (1 : Int32) &&& 1 = 1; decide), si_row (by omega), new _ (Or.inr ⟨k, hk, rfl⟩)⟩
theorem op_lay (h : RelP N K F R U X w T S) (v1 v2 v3 v4 : Int32) : ∃ p, Md_lay v1 v2 v3 v4 T = some p ∧ (Dk_lay v1 v2 v3 v4 S).1 = p.1 ∧ (Dk_lay v1 v2 v3 v4 S).2.1 31 = S.1 31 ∧ RelP N K F R U X w p.2 (Dk_lay v1 v2 v3 v4 S).2 := by
  have hh := h
  obtain ⟨h1, h2, h3, h4, h5, h6, h7, ⟨l, l1, l2, l3, l4⟩, h9, h10, h11⟩ := h
  have t1 : ¬ nI 1 = 0 := by decide
  have t0 : nI 0 = 0 := rfl
  unfold Dk_lay Dk_lay_34 Dk_lay_61 Dk_lay_62 Md_lay Md_lay_36 app
  have no : ∀ {A : Int32 × Sm} {B : Option (Int32 × Sm)}, A = (-1, S) → B = some (-1, T) → ∃ p, B = some p ∧ A.1 = p.1 ∧ A.2.1 31 = S.1 31 ∧ RelP N K F R U X w p.2 A.2 := by
    rintro A B rfl rfl
    exact ⟨_, rfl, rfl, rfl, hh⟩
  rcases mouthsC h1 v1 v4 with ⟨a, b⟩ | ⟨m, g, hm, hg, rfl, rfl, a, b, c⟩
  · refine no ?_ ?_
    · rcases a with a | ⟨a, a'⟩
      · rw [a]; rfl
      · rw [a, a', if_neg t1]
        rcases colourC h1 v2 with ⟨d, e⟩ | ⟨k, hk, rfl, d, e⟩ <;> rw [d] <;> rfl
    · rw [b]; rfl
  · rw [a, b, c, if_neg t1, if_neg t1, if_neg t1]
    rcases colourC h1 v2 with ⟨d, e⟩ | ⟨k, hk, rfl, d, e⟩
    · rw [d, e]; exact no rfl rfl
    · rw [d, e, if_neg t1, if_neg t1]
      rcases rngG v3 1 4 (by omega) (by omega) with ⟨q, f⟩ | ⟨n, n1, hn, rfl, f⟩
      · rw [show Md_in v3 1 4 = nI 0 from f, rng_lt (a := 1) (n := 4) q]; exact no rfl rfl
      · have h8 := h1.2.2.2.2.2.2.1
        have h5' := h1.2.2.2.2.2.2.2.1
        rw [show Md_in (nI n) 1 4 = nI 1 from f, if_neg t1, if_neg (show ¬ nI n < 1 from nI_nlt (b := 1) n1 (by omega)), if_neg (show ¬ (4 : Int32) < nI n from nI_nlt (a := 4) (b := n) hn (by omega)), l2]
        unfold Sg_add
        rw [l3]
        by_cases full : l = 10
        · rw [full, if_neg (show ¬ nI 10 < 10 by decide), if_pos (show nI 10 = 10 from rfl)]
          exact no rfl rfl
        · rw [if_pos (show nI l < 10 from nI_lt (b := 10) (by omega) (by omega)), if_neg (show ¬ nI l = 10 from fun q => full ((q_eq (b := 10) (by omega) (by omega)).mp q)), if_pos (nI_in (by omega) (by omega)), q_ix (by omega)]
          have e1 : gi (si T 81 l (nI m)) 53 49 = nI l := l2
          rw [e1, if_pos (nI_in (by omega) (by omega)), q_ix (by omega)]
          have e2 : gi (si (si T 81 l (nI m)) 82 l (nI k)) 53 49 = nI l := l2
          rw [e2, if_pos (nI_in (by omega) (by omega)), q_ix (by omega)]
          have e3 : gi (si (si (si T 81 l (nI m)) 82 l (nI k)) 83 l (nI n)) 53 49 = nI l := l2
          rw [e3, if_pos (nI_in (by omega) (by omega)), q_ix (by omega)]
          have e4 : gi (si (si (si (si T 81 l (nI m)) 82 l (nI k)) 83 l (nI n)) 84 l (nI g)) 53 49 = nI l := l2
          rw [e4]
          have p0 : nI l * 4 = nI (4 * l) := by simp (disch := omega) only [q_lit, q_m1, q_m2, q_hid, q_add, q_mul, q_sub, q_le, q_lt, q_eq, q_mlt, q_mle, q_ltm, q_lem, q_meq, q_eqm, q_m2lt, q_m2le, q_ltm2, q_lem2, q_eqm2, q_mm2, q_m2m, q_mm, q_mnm, q_ix, q_inb, q_a0, q_a1, q_app, q_bind, if_true, if_false, if_pos, if_neg]; rw [Nat.mul_comm]
          have p1 : nI (4 * l) + 1 = nI (4 * l + 1) := nI_1 _
          have p2 : nI (4 * l) + 2 = nI (4 * l + 2) := nI_add _ 2
          have p3 : nI (4 * l) + 3 = nI (4 * l + 3) := nI_add _ 3
          rw [p0, p1, p2, p3]
          unfold app
          simp (disch := omega) only [q_pu]
          have e5 : gi (si (si (si (si S 43 (4 * l) (nI m)) 43 (4 * l + 1) (nI k)) 43 (4 * l + 2) (nI n)) 43 (4 * l + 3) (nI g)) 42 6 = nI l := l3
          rw [e5, nI_1]
          refine ⟨_, rfl, rfl, ?_, ?_⟩
          · rfl
          · refine ⟨h1, h2, h3, h4, h5.of rfl, h6.of h5 (fun b hb => ?_) rfl (fun _ _ => rfl) rfl rfl rfl, h7, ⟨l + 1, by omega, rfl, rfl, fun i hi => ?_⟩, h9, h10, h11⟩
            · funext j
              show (if b = 42 ∧ j = 6 then _ else if b = 43 ∧ j = 4 * l + 3 then _ else if b = 43 ∧ j = 4 * l + 2 then _ else if b = 43 ∧ j = 4 * l + 1 then _ else if b = 43 ∧ j = 4 * l then _ else S.1 b j) = S.1 b j
              rw [if_neg (by omega), if_neg (by omega), if_neg (by omega), if_neg (by omega), if_neg (by omega)]
            · have gS : ∀ z, gi (si (si (si (si (si S 43 (4 * l) (nI m)) 43 (4 * l + 1) (nI k)) 43 (4 * l + 2) (nI n)) 43 (4 * l + 3) (nI g)) 42 6 (nI (l + 1))) 43 z = if z = 4 * l + 3 then nI g else if z = 4 * l + 2 then nI n else if z = 4 * l + 1 then nI k else if z = 4 * l then nI m else gi S 43 z := fun z => by
                show (if 43 = 42 ∧ z = 6 then nI (l + 1) else if 43 = 43 ∧ z = 4 * l + 3 then nI g else if 43 = 43 ∧ z = 4 * l + 2 then nI n else if 43 = 43 ∧ z = 4 * l + 1 then nI k else if 43 = 43 ∧ z = 4 * l then nI m else S.1 43 z) = _
                rw [if_neg (by omega)]
                simp only [true_and, gi]
              by_cases x : i = l
              · subst x
                refine ⟨m, k, n, g, hm, hk, n1, hn, hg, ⟨?_, if_pos ⟨rfl, rfl⟩⟩, ⟨?_, if_pos ⟨rfl, rfl⟩⟩, ⟨?_, if_pos ⟨rfl, rfl⟩⟩, ?_, if_pos ⟨rfl, rfl⟩⟩
                · rw [gS, if_neg (by omega), if_neg (by omega), if_neg (by omega), if_pos rfl]
                · rw [gS, if_neg (by omega), if_neg (by omega), if_pos rfl]
                · rw [gS, if_neg (by omega), if_pos rfl]
                · rw [gS, if_pos rfl]
              · obtain ⟨m', c', k', t', a1, a2, a3, a4, a5, ⟨b1, b2⟩, ⟨b3, b4⟩, ⟨b5, b6⟩, b7, b8⟩ := l4 i (by omega)
                refine ⟨m', c', k', t', a1, a2, a3, a4, a5, ⟨?_, (if_neg fun q => x q.2).trans b2⟩, ⟨?_, (if_neg fun q => x q.2).trans b4⟩, ⟨?_, (if_neg fun q => x q.2).trans b6⟩, ?_, (if_neg fun q => x q.2).trans b8⟩
                · rw [gS, if_neg (by omega), if_neg (by omega), if_neg (by omega), if_neg (by omega)]; exact b1
                · rw [gS, if_neg (by omega), if_neg (by omega), if_neg (by omega), if_neg (by omega)]; exact b3
                · rw [gS, if_neg (by omega), if_neg (by omega), if_neg (by omega), if_neg (by omega)]; exact b5
                · rw [gS, if_neg (by omega), if_neg (by omega), if_neg (by omega), if_neg (by omega)]; exact b7
end WR
