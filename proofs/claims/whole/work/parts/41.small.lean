/-! ===== small readers ===== -/
/-- how many of the first n are so -/
def cntN (p : Nat → Bool) (n : Nat) : Nat := fld (fun i t => if p i then t + 1 else t) n 0
theorem cnt_s (p : Nat → Bool) (n : Nat) : cntN p (n + 1) = (if p n then cntN p n + 1 else cntN p n) := rfl
theorem cnt_le (p : Nat → Bool) : ∀ n, cntN p n ≤ n
  | 0 => Nat.le_refl _
  | n + 1 => by
    have := cnt_le p n
    rw [cnt_s]
    split <;> omega
theorem cnt_f (p : Nat → Bool) : ∀ n, cntN p (n + 1) = (if p 0 then 1 else 0) + cntN (fun i => p (i + 1)) n
  | 0 => by rw [cnt_s]; show (if p 0 = true then 0 + 1 else 0) = (if p 0 = true then 1 else 0) + 0; split <;> rfl
  | n + 1 => by
    rw [cnt_s, cnt_f p n, cnt_s (fun i => p (i + 1)) n]
    split <;> split <;> omega
theorem cnt_ext {p q : Nat → Bool} : ∀ n, (∀ i, i < n → p i = q i) → cntN p n = cntN q n
  | 0, _ => rfl
  | n + 1, h => by rw [cnt_s, cnt_s, cnt_ext n fun i hi => h i (by omega), h n (by omega)]
theorem cnt_rev (p : Nat → Bool) : ∀ n, cntN (fun i => p (n - 1 - i)) n = cntN p n
  | 0 => rfl
  | n + 1 => by
    rw [cnt_f, cnt_s]
    have e : cntN (fun i => p (n + 1 - 1 - (i + 1))) n = cntN p n := by
      rw [← cnt_rev p n]
      exact cnt_ext n fun i hi => by rw [show n + 1 - 1 - (i + 1) = n - 1 - i by omega]
    rw [e]
    show (if p (n + 1 - 1 - 0) = true then 1 else 0) + _ = _
    rw [show n + 1 - 1 - 0 = n by omega]
    split <;> omega
theorem mo_of {S : Sm} {r k : Nat} (hr : r < 8) (hk : k < 7) : Mo_ofTrain (nI r) (nI k) S = gi S 26 (7 * r + k) := by
  unfold Mo_ofTrain
  simp (disch := omega) only [q_lit, q_m1, q_m2, q_hid, q_add, q_mul, q_sub, q_le, q_lt, q_eq, q_mlt, q_mle, q_ltm, q_lem, q_meq, q_eqm, q_m2lt, q_m2le, q_ltm2, q_lem2, q_eqm2, q_mm2, q_m2m, q_mm, q_mnm, q_ix, q_inb, q_a0, q_a1, q_app, q_bind, if_true, if_false, if_pos, if_neg, q_at]
  exact congrArg _ (by omega)
theorem md_of {T : Sm} {r k : Nat} (hr : r < 8) (hk : k < 6) : Md_of (nI r) (nI k) T = some (gi T 70 (88 + 6 * r + k)) := by
  unfold Md_of
  simp (disch := omega) only [q_lit, q_m1, q_m2, q_hid, q_add, q_mul, q_sub, q_le, q_lt, q_eq, q_mlt, q_mle, q_ltm, q_lem, q_meq, q_eqm, q_m2lt, q_m2le, q_ltm2, q_lem2, q_eqm2, q_mm2, q_m2m, q_mm, q_mnm, q_ix, q_inb, q_a0, q_a1, q_app, q_bind, if_true, if_false, if_pos, if_neg]
theorem mo_ga {S : Sm} {m : Nat} (hm : m < 8) : Mo_guardsAt (nI m) S = gi S 28 m := by
  unfold Mo_guardsAt
  simp (disch := omega) only [q_at]
/-- fading -/
def fd (c a F : Nat) : Nat := if c = 5 ∨ F = 0 then c else if a / F ≤ c then c - a / F else 5
theorem fd_lamp {c a F K : Nat} (h : c < K ∨ c = 5) : fd c a F < K ∨ fd c a F = 5 := by
  unfold fd
  split
  · exact h
  · split
    · rcases h with h | h
      · exact Or.inl (Nat.lt_of_le_of_lt (Nat.sub_le _ _) h)
      · rename_i g _
        exact absurd (Or.inl h) g
    · exact Or.inr rfl
theorem fd_0 (c F : Nat) : fd c 0 F = c := by
  unfold fd
  split
  · rfl
  · rw [Nat.zero_div, if_pos (Nat.zero_le _)]; rfl
theorem dk_fd {c a F : Nat} (hc : c < 6) (ha : a < 1000000) (hF : F ≤ 9) : Dk_faded (nI c) (nI a) (nI F) = some (nI (fd c a F)) := by
  unfold Dk_faded Dk_faded_13 Dk_faded_30 fd
  by_cases c5 : c = 5
  · subst c5
    rw [if_pos (show nI 5 = 5 from rfl), if_pos (Or.inl rfl)]
  · by_cases f0 : F = 0
    · subst f0
      rw [if_neg (ne5 (by omega)), if_pos (show nI 0 ≤ 0 from Int32.le_refl _), if_pos (Or.inr rfl)]
    · rw [if_neg (show ¬ (c = 5 ∨ F = 0) by omega)]
      have e := Nat.div_le_self a F
      obtain ⟨x, hx⟩ : ∃ x, a / F = x := ⟨_, rfl⟩
      rw [hx] at e ⊢
      by_cases z : x ≤ c
      · rw [if_pos z]
        simp (disch := omega) only [q_lit, q_m1, q_m2, q_hid, q_add, q_mul, q_sub, q_le, q_lt, q_eq, q_mlt, q_mle, q_ltm, q_lem, q_meq, q_eqm, q_m2lt, q_m2le, q_ltm2, q_lem2, q_eqm2, q_mm2, q_m2m, q_mm, q_mnm, q_ix, q_inb, q_a0, q_a1, q_app, q_bind, if_true, if_false, if_pos, if_neg, q_div, hx, Nat.zero_le]
      · rw [if_neg z]
        have n1 : ¬ nI 0 ≤ nI c - nI x := Int32.not_le.mpr (pk_sneg (by omega) (by omega))
        simp (disch := omega) only [q_lit, q_m1, q_m2, q_hid, q_add, q_mul, q_sub, q_le, q_lt, q_eq, q_mlt, q_mle, q_ltm, q_lem, q_meq, q_eqm, q_m2lt, q_m2le, q_ltm2, q_lem2, q_eqm2, q_mm2, q_m2m, q_mm, q_mnm, q_ix, q_inb, q_a0, q_a1, q_app, q_bind, if_true, if_false, if_pos, if_neg, q_div, hx, n1, Nat.zero_le]
theorem md_fd {c a F : Nat} {T : Sm} (hT : gi T 68 3 = nI F) (hc : c < 6) (ha : a < 1000000) (hF : F ≤ 9) : Md_faded (nI c) (nI a) T = some (nI (fd c a F)) := by
  unfold Md_faded Md_faded_18 Md_faded_40 fd
  by_cases c5 : c = 5
  · subst c5
    rw [if_pos (show nI 5 = 5 from rfl), if_pos (Or.inl rfl)]
  · by_cases f0 : F = 0
    · subst f0
      rw [if_neg (ne5 (by omega)), if_pos (show gi T 68 3 = 0 from hT), if_pos (Or.inr rfl)]
    · rw [if_neg (show ¬ (c = 5 ∨ F = 0) by omega), hT]
      by_cases a0 : a = 0
      · subst a0
        rw [Nat.zero_div, if_pos (Nat.zero_le _)]
        simp (disch := omega) only [q_lit, q_m1, q_m2, q_hid, q_add, q_mul, q_sub, q_le, q_lt, q_eq, q_mlt, q_mle, q_ltm, q_lem, q_meq, q_eqm, q_m2lt, q_m2le, q_ltm2, q_lem2, q_eqm2, q_mm2, q_m2m, q_mm, q_mnm, q_ix, q_inb, q_a0, q_a1, q_app, q_bind, if_true, if_false, if_pos, if_neg, Nat.sub_zero]
      · have e := Nat.div_le_self a F
        obtain ⟨x, hx⟩ : ∃ x, a / F = x := ⟨_, rfl⟩
        rw [hx] at e ⊢
        by_cases z : x ≤ c
        · rw [if_pos z]
          simp (disch := omega) only [q_lit, q_m1, q_m2, q_hid, q_add, q_mul, q_sub, q_le, q_lt, q_eq, q_mlt, q_mle, q_ltm, q_lem, q_meq, q_eqm, q_m2lt, q_m2le, q_ltm2, q_lem2, q_eqm2, q_mm2, q_m2m, q_mm, q_mnm, q_ix, q_inb, q_a0, q_a1, q_app, q_bind, if_true, if_false, if_pos, if_neg, q_div, hx, Nat.zero_le]
        · rw [if_neg z]
          have n1 : ¬ nI 0 ≤ nI c - nI x := Int32.not_le.mpr (pk_sneg (by omega) (by omega))
          simp (disch := omega) only [q_lit, q_m1, q_m2, q_hid, q_add, q_mul, q_sub, q_le, q_lt, q_eq, q_mlt, q_mle, q_ltm, q_lem, q_meq, q_eqm, q_m2lt, q_m2le, q_ltm2, q_lem2, q_eqm2, q_mm2, q_m2m, q_mm, q_mnm, q_ix, q_inb, q_a0, q_a1, q_app, q_bind, if_true, if_false, if_pos, if_neg, q_div, hx, n1]
section SO
variable {N K F R w : Nat} {U : List Nat} {X : List (List Cl)} {T S : Sm}
theorem bit0 {P : Nat → Prop} {x : Int32} (h : Msk P x) : x ||| nI 0 = x := by obtain ⟨B, _, rfl, _⟩ := h; rw [q_or, Nat.or_zero]
theorem op_guards (h : RelP N K F R U X w T S) (v1 : Int32) : ∃ v, Dk_guards v1 S = v ∧ Md_guards v1 T = some v := by
  unfold Dk_guards Md_guards Dk_guards_23 Md_guards_21
  rcases mouthC h.1 v1 with ⟨a, b⟩ | ⟨m, hm, rfl, a, b⟩
  · rw [a, b]; exact ⟨mI, rfl, rfl⟩
  · have h8 := h.1.2.2.2.2.2.2.1
    obtain ⟨-, -, -, ⟨-, n, hh, q, hg, -⟩, -⟩ := h
    obtain ⟨g, g1, g2, g3⟩ := hg m (by omega)
    have e1 : gi S 28 m = nI g := g3
    have e2 : gi T 70 (80 + m) = nI g := g2
    rw [a, b, mo_ga (by omega), e1]
    refine ⟨nI g, rfl, ?_⟩
    simp (disch := omega) only [q_lit, q_m1, q_m2, q_hid, q_add, q_mul, q_sub, q_le, q_lt, q_eq, q_mlt, q_mle, q_ltm, q_lem, q_meq, q_eqm, q_m2lt, q_m2le, q_ltm2, q_lem2, q_eqm2, q_mm2, q_m2m, q_mm, q_mnm, q_ix, q_inb, q_a0, q_a1, q_app, q_bind, if_true, if_false, if_pos, if_neg, e2]
theorem op_loops (h : RelP N K F R U X w T S) (v1 : Int32) : ∃ v, Dk_loops v1 S = some v ∧ Md_loops v1 T = some v := by
  unfold Dk_loops Md_loops Dk_loops_23 Wy_loopsAt
  rcases mouthC h.1 v1 with ⟨a, b⟩ | ⟨m, hm, rfl, a, b⟩
  · rw [a, b]; exact ⟨mI, rfl, rfl⟩
  · obtain ⟨hP, hS, hT⟩ := way_of h (pos_of hm)
    have h8 := hP.1
    have h5 := hP.2.1
    suffices hl : ∃ r u, lpN (Wy_loopsAt_L4 (nI m) S) FU (nI 0, nI 0) = some r ∧ lpN (Md_loops_L14 (nI m) T) FU (nI 0, nI 0) = some u ∧ r = u by
      obtain ⟨r, u, e1, e2, rfl⟩ := hl
      rw [a, b, show (0 : Int32) = nI 0 from rfl, e1, e2]
      exact ⟨r, rfl, rfl⟩
    refine lp_rel (fun i (s t : Int32 × Int32) => s = t ∧ s.2 = nI i) K (by omega) ⟨rfl, rfl⟩ (fun i s t hi hq => ?_) (fun s t hq => ?_)
    · obtain ⟨s1, s2⟩ := s
      obtain ⟨rfl, hq⟩ := hq
      have hq : s2 = nI i := hq
      subst hq
      have e1 := (hS.2.2 m i hm (Or.inl hi)).1
      have e2 := (hT.2.2 m i hm (Or.inl hi)).1
      have l8 := (hP.2.2.2.2 m i hm (Or.inl hi)).1
      unfold Wy_loopsAt_L4 Wy_loopsAt_33_L4 Md_loops_L14 Md_loops_42_L14
      by_cases z : Ld (T.1 70) m i = m
      · refine Or.inl ⟨(s1 ||| iShl (nI 1) (nI i), nI (i + 1)), (s1 ||| iShl (nI 1) (nI i), nI (i + 1)), ?_, ?_, rfl, rfl⟩
        · simp (disch := omega) only [q_lit, q_m1, q_m2, q_hid, q_add, q_mul, q_sub, q_le, q_lt, q_eq, q_mlt, q_mle, q_ltm, q_lem, q_meq, q_eqm, q_m2lt, q_m2le, q_ltm2, q_lem2, q_eqm2, q_mm2, q_m2m, q_mm, q_mnm, q_ix, q_inb, q_a0, q_a1, q_app, q_bind, if_true, if_false, if_pos, if_neg, hS.2.1, e1, z]
        · simp (disch := omega) only [q_lit, q_m1, q_m2, q_hid, q_add, q_mul, q_sub, q_le, q_lt, q_eq, q_mlt, q_mle, q_ltm, q_lem, q_meq, q_eqm, q_m2lt, q_m2le, q_ltm2, q_lem2, q_eqm2, q_mm2, q_m2m, q_mm, q_mnm, q_ix, q_inb, q_a0, q_a1, q_app, q_bind, if_true, if_false, if_pos, if_neg, hT.2.1, e2, z]
      · refine Or.inl ⟨(s1 ||| nI 0, nI (i + 1)), _, ?_, ?_, rfl, rfl⟩
        · simp (disch := omega) only [q_lit, q_m1, q_m2, q_hid, q_add, q_mul, q_sub, q_le, q_lt, q_eq, q_mlt, q_mle, q_ltm, q_lem, q_meq, q_eqm, q_m2lt, q_m2le, q_ltm2, q_lem2, q_eqm2, q_mm2, q_m2m, q_mm, q_mnm, q_ix, q_inb, q_a0, q_a1, q_app, q_bind, if_true, if_false, if_pos, if_neg, hS.2.1, e1, z]
        · simp (disch := omega) only [q_lit, q_m1, q_m2, q_hid, q_add, q_mul, q_sub, q_le, q_lt, q_eq, q_mlt, q_mle, q_ltm, q_lem, q_meq, q_eqm, q_m2lt, q_m2le, q_ltm2, q_lem2, q_eqm2, q_mm2, q_m2m, q_mm, q_mnm, q_ix, q_inb, q_a0, q_a1, q_app, q_bind, if_true, if_false, if_pos, if_neg, hT.2.1, e2, z]
    · obtain ⟨s1, s2⟩ := s
      obtain ⟨rfl, hq⟩ := hq
      have hq : s2 = nI K := hq
      subst hq
      refine ⟨s1, s1, ?_, ?_, rfl⟩
      · unfold Wy_loopsAt_L4
        simp (disch := omega) only [q_lit, q_m1, q_m2, q_hid, q_add, q_mul, q_sub, q_le, q_lt, q_eq, q_mlt, q_mle, q_ltm, q_lem, q_meq, q_eqm, q_m2lt, q_m2le, q_ltm2, q_lem2, q_eqm2, q_mm2, q_m2m, q_mm, q_mnm, q_ix, q_inb, q_a0, q_a1, q_app, q_bind, if_true, if_false, if_pos, if_neg, hS.2.1, Nat.le_refl]
      · unfold Md_loops_L14
        simp (disch := omega) only [q_lit, q_m1, q_m2, q_hid, q_add, q_mul, q_sub, q_le, q_lt, q_eq, q_mlt, q_mle, q_ltm, q_lem, q_meq, q_eqm, q_m2lt, q_m2le, q_ltm2, q_lem2, q_eqm2, q_mm2, q_m2m, q_mm, q_mnm, q_ix, q_inb, q_a0, q_a1, q_app, q_bind, if_true, if_false, if_pos, if_neg, hT.2.1, Nat.le_refl]
theorem trainC {K h q n : Nat} {M tr gd lg : Nat → Int32} (ho : MoN N K n h q (T.1 70) tr gd lg (S.1 25)) (v : Int32) : (Mo_hasTrain v S = nI 0 ∧ Md_isTrain v T = nI 0) ∨ ∃ r, r < n ∧ v = nI r ∧ Mo_hasTrain v S = nI 1 ∧ Md_isTrain v T = nI 1 := by
  obtain ⟨-, n8, -, -, ⟨n1, n2⟩, -⟩ := ho
  have e1 : gi T 70 136 = nI n := n1
  have e2 : gi S 25 4 = nI n := n2
  unfold Mo_hasTrain Mo_hasTrain_16 Mo_hasTrain_17 Md_isTrain
  rw [e1, e2]
  rcases inC v (n := n) (by omega) with ⟨q, e⟩ | ⟨m, q, rfl, e⟩
  · refine Or.inl ⟨?_, by rw [e]; rfl⟩
    by_cases c : v < 0
    · rw [if_pos c]; rfl
    · rw [if_neg c, if_pos (q.resolve_left c)]; rfl
  · refine Or.inr ⟨m, q, rfl, ?_, by rw [e]; rfl⟩
    rw [if_neg (nI_pos (by omega)), if_neg (nI_ge q (by omega))]; rfl
theorem op_due (h : RelP N K F R U X w T S) (v1 : Int32) : ∃ v, Dk_due v1 S = v ∧ Md_due v1 T = some v := by
  unfold Dk_due Md_due Dk_due_23 Md_due_41 Mo_hoursTillOut Mo_hoursTillOut_26
  obtain ⟨-, -, -, ⟨-, n, hh, q, ho⟩, -⟩ := h
  rcases trainC (M := T.1 70) ho v1 with ⟨a, b⟩ | ⟨r, hr, rfl, a, b⟩
  · rw [a, b]; exact ⟨mI, rfl, rfl⟩
  · obtain ⟨-, n8, h9, -, -, ⟨d1, d2⟩, -, -, ht, -⟩ := ho
    obtain ⟨m, c, s, t, d, -, -, -, -, -, -, -, -, -, -, hd⟩ := ht r hr
    have e0 : gi T 70 137 = nI hh := d1
    have e1 : gi S 25 5 = nI hh := d2
    rw [a, b, show (5 : Int32) = nI 5 from rfl, show (6 : Int32) = nI 6 from rfl, mo_of (by omega) (by omega), mo_of (by omega) (by omega), md_of (by omega) (by omega), e0, e1]
    rcases hd with ⟨p1, p2⟩ | ⟨u, u1, u2, p1, p2, p3⟩
    · have p1 : gi T 70 (88 + 6 * r + 5) = mI := p1
      have p2 : gi S 26 (7 * r + 5) = nI 0 := p2
      rw [p1, p2]
      exact ⟨nI 0, rfl, rfl⟩
    · have p1 : gi T 70 (88 + 6 * r + 5) = nI u := p1
      have p2 : gi S 26 (7 * r + 5) = nI 1 := p2
      have p3 : gi S 26 (7 * r + 6) = nI u := p3
      rw [p1, p2, p3]
      refine ⟨nI u - nI hh, rfl, ?_⟩
      have nz : ¬ nI u = -1 := fun e => (q_eqm (by omega)).mp e
      show (if nI 1 = 0 then _ else (if nI u = -1 then _ else _)) = _
      rw [if_neg (by decide), if_neg nz]; rfl
theorem op_log (h : RelP N K F R U X w T S) (v1 v2 : Int32) : ∃ v, Dk_log v1 v2 S = v ∧ Md_log v1 v2 T = some v := by
  unfold Dk_log Md_log Md_log_55 Md_log_56 Mo_logged Mo_logged_21 Mo_logged_75 Mo_logLength
  obtain ⟨-, -, -, ⟨-, n, hh, q, ho⟩, -⟩ := h
  obtain ⟨-, n8, h9, hq, -, -, -, ⟨d1, d2⟩, -, hl⟩ := ho
  have e0 : gi T 70 139 = nI (min q 60) := d1
  have e1 : gi S 25 7 = nI q := d2
  have em : iMin (nI q) 60 = nI (min q 60) := (show iMin (nI q) (nI 60) = _ from q_min (by omega) (by omega))
  rw [e0, e1, em]
  have mlt : min q 60 ≤ 60 := Nat.min_le_right _ _
  rcases inC v1 (n := min q 60) (by omega) with ⟨p, e⟩ | ⟨i, p, rfl, e⟩
  · rw [show Md_in v1 0 (nI (min q 60) - 1) = nI 0 from e]
    refine ⟨mI, ?_, rfl⟩
    by_cases c : v1 < 0
    · rw [if_pos c]; rfl
    · rw [if_neg c, if_pos (p.resolve_left c)]; rfl
  · rw [show Md_in (nI i) 0 (nI (min q 60) - 1) = nI 1 from e]
    have c1 : ¬ nI i < 0 := nI_pos (by omega)
    have c2 : ¬ nI (min q 60) ≤ nI i := nI_ge p (by omega)
    have t1 : ¬ nI 1 = 0 := by decide
    rw [if_neg c1, if_neg c2, if_neg t1]
    rcases rngG v2 0 2 (by omega) (by omega) with ⟨z, f⟩ | ⟨k, -, hk, rfl, f⟩
    · rw [show Md_in v2 0 2 = nI 0 from f, rng_le (a := 0) (n := 2) z]
      exact ⟨mI, rfl, rfl⟩
    · rw [show Md_in (nI k) 0 2 = nI 1 from f, if_neg t1]
      obtain ⟨r, m, t, h1, h2, h3, p1, p2, p3, p4⟩ := hl (min q 60 - 1 - i) (by omega)
      have x1 : q - min q 60 + (min q 60 - 1 - i) = q - 1 - i := by omega
      rw [x1] at p4
      have m60 : (q - 1 - i) % 60 < 60 := Nat.mod_lt _ (by omega)
      have p4' : gi S 29 ((q - 1 - i) % 60) = nI ((t * 8 + m) * 8 + r) := p4
      have g1 : gi T 70 (140 + 3 * (min q 60 - 1 - i)) = nI r := p1
      have g2 : gi T 70 (140 + 3 * (min q 60 - 1 - i) + 1) = nI m := p2
      have g3 : gi T 70 (140 + 3 * (min q 60 - 1 - i) + 2) = nI t := p3
      have a1 : ((t * 8 + m) * 8 + r) % 8 = r := by omega
      have a2 : ((t * 8 + m) * 8 + r) / 8 % 8 = m := by omega
      have a3 : ((t * 8 + m) * 8 + r) / 8 / 8 = t := by omega
      have ei : ∀ k, k ≤ 2 → inb (nI 140 + nI 3 * (nI (min q 60) - nI 1 - nI i) + nI k) 320 ∧ ix (nI 140 + nI 3 * (nI (min q 60) - nI 1 - nI i) + nI k) = 140 + 3 * (min q 60 - 1 - i) + k := fun k hk => by
        constructor
        · simp (disch := omega) only [q_lit, q_m1, q_m2, q_hid, q_add, q_mul, q_sub, q_le, q_lt, q_eq, q_mlt, q_mle, q_ltm, q_lem, q_meq, q_eqm, q_m2lt, q_m2le, q_ltm2, q_lem2, q_eqm2, q_mm2, q_m2m, q_mm, q_mnm, q_ix, q_inb, q_a0, q_a1, q_app, q_bind, if_true, if_false, if_pos, if_neg]; omega
        · simp (disch := omega) only [q_lit, q_m1, q_m2, q_hid, q_add, q_mul, q_sub, q_le, q_lt, q_eq, q_mlt, q_mle, q_ltm, q_lem, q_meq, q_eqm, q_m2lt, q_m2le, q_ltm2, q_lem2, q_eqm2, q_mm2, q_m2m, q_mm, q_mnm, q_ix, q_inb, q_a0, q_a1, q_app, q_bind, if_true, if_false, if_pos, if_neg]
      have k0 : k = 0 ∨ k = 1 ∨ k = 2 := by omega
      rcases k0 with rfl | rfl | rfl
      · refine ⟨nI r, ?_, ?_⟩
        · simp (disch := omega) only [q_lit, q_m1, q_m2, q_hid, q_add, q_mul, q_sub, q_le, q_lt, q_eq, q_mlt, q_mle, q_ltm, q_lem, q_meq, q_eqm, q_m2lt, q_m2le, q_ltm2, q_lem2, q_eqm2, q_mm2, q_m2m, q_mm, q_mnm, q_ix, q_inb, q_a0, q_a1, q_app, q_bind, if_true, if_false, if_pos, if_neg, q_rem, q_at, p4', a1, Nat.zero_le]
        · obtain ⟨b1, b2⟩ := ei 0 (by omega)
          simp (disch := omega) only [q_lit, if_pos, b1, b2]
          exact congrArg some g1
      · refine ⟨nI m, ?_, ?_⟩
        · simp (disch := omega) only [q_lit, q_m1, q_m2, q_hid, q_add, q_mul, q_sub, q_le, q_lt, q_eq, q_mlt, q_mle, q_ltm, q_lem, q_meq, q_eqm, q_m2lt, q_m2le, q_ltm2, q_lem2, q_eqm2, q_mm2, q_m2m, q_mm, q_mnm, q_ix, q_inb, q_a0, q_a1, q_app, q_bind, if_true, if_false, if_pos, if_neg, q_rem, q_at, q_div, p4', a2]
        · obtain ⟨b1, b2⟩ := ei 1 (by omega)
          simp (disch := omega) only [q_lit, if_pos, b1, b2]
          exact congrArg some g2
      · refine ⟨nI t, ?_, ?_⟩
        · simp (disch := omega) only [q_lit, q_m1, q_m2, q_hid, q_add, q_mul, q_sub, q_le, q_lt, q_eq, q_mlt, q_mle, q_ltm, q_lem, q_meq, q_eqm, q_m2lt, q_m2le, q_ltm2, q_lem2, q_eqm2, q_mm2, q_m2m, q_mm, q_mnm, q_ix, q_inb, q_a0, q_a1, q_app, q_bind, if_true, if_false, if_pos, if_neg, q_rem, q_at, q_div, p4', a3, Nat.le_refl]
        · obtain ⟨b1, b2⟩ := ei 2 (by omega)
          simp (disch := omega) only [q_lit, if_pos, b1, b2]
          exact congrArg some g3
end SO
