/-! ===== what is there: mouths, colours, sets ===== -/
theorem cst1_0 : cst 1 0 = nI 0 := rfl
theorem cst1_1 : cst 1 1 = nI 1 := rfl
theorem cst1_2 : cst 1 2 = nI 19 := rfl
theorem cst1_3 : cst 1 3 = nI 25 := rfl
theorem cst1_4 : cst 1 4 = nI 29 := rfl
theorem it_0 {S : Sm} {s : Nat} (hs : s < 4) : Nt_item 0 0 (nI s) S = gi S 11 s := by
  unfold Nt_item
  simp (disch := omega) only [q_lit, q_m1, q_m2, q_hid, q_add, q_mul, q_sub, q_le, q_lt, q_eq, q_mlt, q_mle, q_ltm, q_lem, q_meq, q_eqm, q_m2lt, q_m2le, q_ltm2, q_lem2, q_eqm2, q_mm2, q_m2m, q_mm, q_mnm, q_ix, q_inb, q_a0, q_a1, q_app, q_bind, if_true, if_false, if_pos, if_neg, q_at, cst1_0]
  exact congrArg _ (by omega)
theorem it_1 {S : Sm} {i s : Nat} (hi : i < 18) (hs : s < 4) : Nt_item 1 (nI i) (nI s) S = gi S 11 (4 + 4 * i + s) := by
  unfold Nt_item
  simp (disch := omega) only [q_lit, q_m1, q_m2, q_hid, q_add, q_mul, q_sub, q_le, q_lt, q_eq, q_mlt, q_mle, q_ltm, q_lem, q_meq, q_eqm, q_m2lt, q_m2le, q_ltm2, q_lem2, q_eqm2, q_mm2, q_m2m, q_mm, q_mnm, q_ix, q_inb, q_a0, q_a1, q_app, q_bind, if_true, if_false, if_pos, if_neg, q_at, cst1_1]
  exact congrArg _ (by omega)
theorem it_2 {S : Sm} {i s : Nat} (hi : i < 6) (hs : s < 4) : Nt_item 2 (nI i) (nI s) S = gi S 11 (76 + 4 * i + s) := by
  unfold Nt_item
  simp (disch := omega) only [q_lit, q_m1, q_m2, q_hid, q_add, q_mul, q_sub, q_le, q_lt, q_eq, q_mlt, q_mle, q_ltm, q_lem, q_meq, q_eqm, q_m2lt, q_m2le, q_ltm2, q_lem2, q_eqm2, q_mm2, q_m2m, q_mm, q_mnm, q_ix, q_inb, q_a0, q_a1, q_app, q_bind, if_true, if_false, if_pos, if_neg, q_at, cst1_2]
  exact congrArg _ (by omega)
theorem it_3 {S : Sm} {i s : Nat} (hi : i < 4) (hs : s < 4) : Nt_item 3 (nI i) (nI s) S = gi S 11 (100 + 4 * i + s) := by
  unfold Nt_item
  simp (disch := omega) only [q_lit, q_m1, q_m2, q_hid, q_add, q_mul, q_sub, q_le, q_lt, q_eq, q_mlt, q_mle, q_ltm, q_lem, q_meq, q_eqm, q_m2lt, q_m2le, q_ltm2, q_lem2, q_eqm2, q_mm2, q_m2m, q_mm, q_mnm, q_ix, q_inb, q_a0, q_a1, q_app, q_bind, if_true, if_false, if_pos, if_neg, q_at, cst1_3]
  exact congrArg _ (by omega)
/-- the NET itself has the first row of all -/
theorem nim_0 {S : Sm} {s : Nat} (hs : s < 4) : atF (gi S 11) 116 (nI s) = gi S 11 s := q_at (by omega) (by omega)
section NC
variable {N K F : Nat} {T S : Sm}
theorem n_m (h : NetR N K F T S) : Nt_mouths S = nI N := (nim_0 (S := S) (s := 0) (by omega)).trans h.1
theorem n_k (h : NetR N K F T S) : Nt_colours S = nI K := (nim_0 (S := S) (s := 1) (by omega)).trans h.2.1
theorem n_f (h : NetR N K F T S) : Nt_fade S = nI F := (nim_0 (S := S) (s := 3) (by omega)).trans h.2.2.1
theorem in_f {v a b : Int32} (h : v < a ∨ b < v) : Md_in v a b = nI 0 := by
  unfold Md_in Md_in_14 Md_in_15
  by_cases c : v < a
  · rw [if_pos c]; rfl
  · rw [if_neg c, if_pos (h.resolve_left c)]; rfl
theorem in_t {v a b : Int32} (h1 : ¬ v < a) (h2 : ¬ b < v) : Md_in v a b = nI 1 := by
  unfold Md_in Md_in_14 Md_in_15
  rw [if_neg h1, if_neg h2]; rfl
theorem nI_pred0 : nI 0 - 1 = mI := by decide
theorem nI_predS {n : Nat} (h : 0 < n) : nI n - 1 = nI (n - 1) := by
  obtain ⟨k, rfl⟩ : ∃ k, n = k + 1 := ⟨n - 1, by omega⟩
  exact nI_pred k
/-- a number within 0 .. n - 1, or not -/
theorem inC (v : Int32) {n : Nat} (hn : n < 2147483648) : ((v < 0 ∨ nI n ≤ v) ∧ Md_in v 0 (nI n - 1) = nI 0) ∨ ∃ m, m < n ∧ v = nI m ∧ Md_in v 0 (nI n - 1) = nI 1 := by
  by_cases c : v < 0
  · exact Or.inl ⟨Or.inl c, in_f (Or.inl c)⟩
  · obtain ⟨m, hm, rfl⟩ := nI_of c
    by_cases q : m < n
    · refine Or.inr ⟨m, q, rfl, in_t c ?_⟩
      rw [nI_predS (by omega)]
      exact nI_nlt (by omega) (by omega)
    · refine Or.inl ⟨Or.inr (nI_le (by omega) hm), in_f (Or.inr ?_)⟩
      by_cases z : n = 0
      · subst z
        rw [nI_pred0]
        exact q_neg (by decide) hm
      · rw [nI_predS (by omega)]
        exact nI_lt (by omega) hm
theorem mouthC (h : NetR N K F T S) (v : Int32) : (Nt_hasMouth v S = nI 0 ∧ Md_isMouth v T = nI 0) ∨ ∃ m, m < N ∧ v = nI m ∧ Nt_hasMouth v S = nI 1 ∧ Md_isMouth v T = nI 1 := by
  have hm := n_m h
  obtain ⟨a1, a2, a3, a4, a5, a6, a7, a8, -⟩ := h
  have hd : Md_isMouth v T = (Md_in v 0 (nI N - 1) &&& 1) := by unfold Md_isMouth; rw [a4]
  rw [hd]
  unfold Nt_hasMouth Nt_hasMouth_16 Nt_hasMouth_17
  rw [hm]
  rcases inC v (n := N) (by omega) with ⟨q, e⟩ | ⟨m, q, rfl, e⟩
  · refine Or.inl ⟨?_, by rw [e]; rfl⟩
    by_cases c : v < 0
    · rw [if_pos c]; rfl
    · rw [if_neg c, if_pos (q.resolve_left c)]; rfl
  · refine Or.inr ⟨m, q, rfl, ?_, by rw [e]; rfl⟩
    rw [if_neg (nI_pos (by omega)), if_neg (nI_ge q (by omega))]; rfl
theorem colourC (h : NetR N K F T S) (v : Int32) : (Nt_hasColour v S = nI 0 ∧ Md_isColour v T = nI 0) ∨ ∃ c, c < K ∧ v = nI c ∧ Nt_hasColour v S = nI 1 ∧ Md_isColour v T = nI 1 := by
  have hm := n_k h
  obtain ⟨a1, a2, a3, a4, a5, a6, a7, a8, -⟩ := h
  have hd : Md_isColour v T = (Md_in v 0 (nI K - 1) &&& 1) := by unfold Md_isColour; rw [a5]
  rw [hd]
  unfold Nt_hasColour Nt_hasColour_16 Nt_hasColour_17
  rw [hm]
  rcases inC v (n := K) (by omega) with ⟨q, e⟩ | ⟨m, q, rfl, e⟩
  · refine Or.inl ⟨?_, by rw [e]; rfl⟩
    by_cases c : v < 0
    · rw [if_pos c]; rfl
    · rw [if_neg c, if_pos (q.resolve_left c)]; rfl
  · refine Or.inr ⟨m, q, rfl, ?_, by rw [e]; rfl⟩
    rw [if_neg (nI_pos (by omega)), if_neg (nI_ge q (by omega))]; rfl
theorem lampC (h : NetR N K F T S) (hN : 0 < N) (v : Int32) : (Nt_hasLamp v S = nI 0 ∧ Md_isLamp v T = nI 0) ∨ ∃ c, (c < K ∨ c = 5) ∧ c < 6 ∧ v = nI c ∧ Nt_hasLamp v S = nI 1 ∧ Md_isLamp v T = nI 1 := by
  have hh := h
  obtain ⟨a1, a2, a3, a4, a5, a6, a7, a8, -⟩ := h
  have n0 : ¬ gi T 68 0 ≤ 0 := by rw [a4]; exact nI_nle hN (by omega)
  unfold Nt_hasLamp Nt_hasLamp_13 Nt_hasLamp_18 Md_isLamp Md_isLamp_26 Md_isLamp_22 Md_isLamp_27
  rw [if_neg n0]
  rcases colourC hh v with ⟨q, e⟩ | ⟨c, hc, rfl, q, e⟩
  · rw [q, e]
    by_cases c : v = 5
    · refine Or.inr ⟨5, Or.inr rfl, by omega, c, ?_, ?_⟩
      · rw [if_pos c]; rfl
      · rw [if_pos (show nI 0 = 0 from rfl), if_pos c]; rfl
    · refine Or.inl ⟨?_, ?_⟩
      · rw [if_neg c, if_pos (show nI 0 = 0 from rfl)]; rfl
      · rw [if_pos (show nI 0 = 0 from rfl), if_neg c]; rfl
  · refine Or.inr ⟨c, Or.inl hc, by omega, rfl, ?_, ?_⟩
    · rw [q]
      by_cases c5 : nI c = 5
      · rw [if_pos c5]; rfl
      · rw [if_neg c5, if_neg (by decide)]; rfl
    · rw [e, if_neg (by decide)]; rfl
theorem all_K {K : Nat} (hK : K ≤ 5) : iShl 1 (nI K) - 1 = nI (2 ^ K - 1) := by
  have : ∀ k, k ≤ 5 → iShl 1 (nI k) - 1 = nI (2 ^ k - 1) := by decide +kernel
  exact this K hK
theorem pow5 {K : Nat} (hK : K ≤ 5) : 2 ^ K ≤ 32 ∧ 1 ≤ 2 ^ K := by
  have : ∀ k, k ≤ 5 → 2 ^ k ≤ 32 ∧ 1 ≤ 2 ^ k := by decide +kernel
  exact this K hK
theorem pow8 {K : Nat} (hK : K ≤ 8) : 2 ^ K ≤ 256 ∧ 1 ≤ 2 ^ K := by
  have : ∀ k, k ≤ 8 → 2 ^ k ≤ 256 ∧ 1 ≤ 2 ^ k := by decide +kernel
  exact this K hK
theorem n_all (h : NetR N K F T S) : Nt_allColours S = nI (2 ^ K - 1) := by
  unfold Nt_allColours
  rw [n_k h]
  exact all_K h.2.2.2.2.2.2.2.1
theorem m_all (h : NetR N K F T S) : Md_everyColour T = nI (2 ^ K - 1) := by
  unfold Md_everyColour
  rw [h.2.2.2.2.1]
  exact all_K h.2.2.2.2.2.2.2.1
theorem setC (h : NetR N K F T S) (hN : 0 < N) (v : Int32) : (Nt_hasSet v S = nI 0 ∧ Md_isSet v T = nI 0) ∨ ∃ s, 0 < s ∧ s < 2 ^ K ∧ v = nI s ∧ Nt_hasSet v S = nI 1 ∧ Md_isSet v T = nI 1 := by
  have ha := n_all h
  have hb := m_all h
  obtain ⟨a1, a2, a3, a4, a5, a6, a7, a8, -⟩ := h
  have hp := pow5 a8
  have n0 : ¬ gi T 68 0 ≤ 0 := by rw [a4]; exact nI_nle hN (by omega)
  unfold Nt_hasSet Nt_hasSet_16 Nt_hasSet_17 Md_isSet Md_isSet_25 Md_isSet_26
  rw [if_neg n0, ha, hb]
  by_cases c : v ≤ 0
  · refine Or.inl ⟨by rw [if_pos c]; rfl, ?_⟩
    rw [in_f (Or.inl (Int32.lt_of_le_of_lt c (by decide))), if_pos (show nI 0 = 0 from rfl)]; rfl
  · obtain ⟨s, hs, rfl⟩ := nI_of (fun q => c (Int32.le_of_lt q))
    have h0 : 0 < s := by
      refine Nat.pos_of_ne_zero fun e => c ?_
      subst e
      exact Int32.le_refl _
    rw [if_neg c]
    by_cases q : s < 2 ^ K
    · refine Or.inr ⟨s, h0, q, rfl, ?_, ?_⟩
      · rw [if_neg (nI_nlt (by omega) (by omega))]; rfl
      · rw [in_t (show ¬ nI s < (1 : Int32) from nI_nlt h0 hs) (show ¬ nI (2 ^ K - 1) < nI s from nI_nlt (by omega) (by omega)), if_neg (by decide)]; rfl
    · refine Or.inl ⟨?_, ?_⟩
      · rw [if_pos (nI_lt (by omega) hs)]; rfl
      · rw [in_f (Or.inr (nI_lt (by omega) hs)), if_pos (show nI 0 = 0 from rfl)]; rfl
end NC
/-- a number within bounds, or not -/
theorem rngG (v : Int32) (a n : Nat) (ha : a < 2147483648) (hn : n < 2147483648) : ((v < nI a ∨ nI n < v) ∧ Md_in v (nI a) (nI n) = nI 0) ∨ ∃ m, a ≤ m ∧ m ≤ n ∧ v = nI m ∧ Md_in v (nI a) (nI n) = nI 1 := by
  by_cases c : v < nI a
  · exact Or.inl ⟨Or.inl c, in_f (Or.inl c)⟩
  · by_cases d : nI n < v
    · exact Or.inl ⟨Or.inr d, in_f (Or.inr d)⟩
    · obtain ⟨m, hm, rfl⟩ := nI_of (x := v) (fun q => c (Int32.lt_of_lt_of_le q (nI_pos' ha)))
      rw [q_lt hm ha] at c
      rw [q_lt hn hm] at d
      exact Or.inr ⟨m, by omega, by omega, rfl, in_t (nI_nlt (by omega) hm) (nI_nlt (by omega) hn)⟩
theorem rng_le {α : Type} {v a n : Int32} {A B : α} (h : v < a ∨ n < v) : (if v < a then A else if v ≤ n then B else A) = A := by
  by_cases c : v < a
  · rw [if_pos c]
  · rw [if_neg c, if_neg (Int32.not_le.mpr (h.resolve_left c))]
theorem rng_lt {α : Type} {v a n : Int32} {A B : α} (h : v < a ∨ n < v) : (if v < a then A else if n < v then A else B) = A := by
  by_cases c : v < a
  · rw [if_pos c]
  · rw [if_neg c, if_pos (h.resolve_left c)]
