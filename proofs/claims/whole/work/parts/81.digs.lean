/-! ===== numbers on the tape ===== -/
abbrev dgt (n : Nat) (b : Nat → Nat) (k : Nat) : Prop := k < n ∧ 48 ≤ b k ∧ b k ≤ 57
/-- the number of the first j digits -/
def dgv (b : Nat → Nat) (k j : Nat) : Nat := fld (fun t v => v * 10 + (b (k + t) - 48)) j 0
theorem dgv_lt {n : Nat} {b : Nat → Nat} {k : Nat} : ∀ j, (∀ t, t < j → dgt n b (k + t)) → dgv b k j < 10 ^ j
  | 0, _ => Nat.one_pos
  | j + 1, h => by
    have ih := dgv_lt j fun t ht => h t (by omega)
    obtain ⟨-, h1, h2⟩ := h j (by omega)
    show dgv b k j * 10 + (b (k + j) - 48) < 10 ^ (j + 1)
    rw [Nat.pow_succ]; omega
section LX
variable {n : Nat} {b : Nat → Nat} {T S : Sm}
theorem dg_S (h : LxB n b T S) {i : Nat} (hi : gi S 8 2 = nI i) (h5 : i < 1000) : Tp_isDigitHere S = bI (decide (dgt n b i)) := by
  obtain ⟨h1, h2, h3, h4, -, -⟩ := h
  unfold Tp_isDigitHere Tp_isDigitHere_47 Tp_isDigitHere_48
  rw [h3, hi]
  by_cases x : i < n
  · have hb := h2 i x
    rw [if_neg (show ¬ nI n ≤ nI i from fun z => by have := (q_le (by omega) (by omega)).mp z; omega), q_at (by omega) (by omega), h4 i x]
    by_cases y : b i < 48
    · rw [if_pos (show nI (b i) < 48 from nI_lt (b := 48) y (by omega)), decide_eq_false (show ¬ dgt n b i from fun z => by have := z.2.1; omega)]; decide
    · rw [if_neg (show ¬ nI (b i) < 48 from nI_nlt (b := 48) (a := b i) (by omega) (by omega))]
      by_cases z : 57 < b i
      · rw [if_pos (show (57 : Int32) < nI (b i) from nI_lt (a := 57) z (by omega)), decide_eq_false (show ¬ dgt n b i from fun w => by have := w.2.2; omega)]; decide
      · rw [if_neg (show ¬ (57 : Int32) < nI (b i) from nI_nlt (a := 57) (b := b i) (by omega) (by omega)), decide_eq_true (show dgt n b i from ⟨x, by omega, by omega⟩)]; decide
  · rw [if_pos ((q_le (by omega) (by omega)).mpr (by omega)), decide_eq_false (show ¬ dgt n b i from fun w => x w.1)]; decide
theorem dg_T (h2 : ∀ i, i < n → 1 ≤ b i ∧ b i ≤ 255) (i : Nat) : Md_isDigit (lxs n b i) = bI (decide (dgt n b i)) := by
  unfold Md_isDigit Md_isDigit_16 Md_isDigit_17
  by_cases x : i < n
  · have hb := h2 i x
    rw [lxs_in x]
    by_cases y : b i < 48
    · rw [if_pos (show nI (b i) < 48 from nI_lt (b := 48) y (by omega)), decide_eq_false (show ¬ dgt n b i from fun z => by have := z.2.1; omega)]; decide
    · rw [if_neg (show ¬ nI (b i) < 48 from nI_nlt (b := 48) (a := b i) (by omega) (by omega))]
      by_cases z : 57 < b i
      · rw [if_pos (show (57 : Int32) < nI (b i) from nI_lt (a := 57) z (by omega)), decide_eq_false (show ¬ dgt n b i from fun w => by have := w.2.2; omega)]; decide
      · rw [if_neg (show ¬ (57 : Int32) < nI (b i) from nI_nlt (a := 57) (b := b i) (by omega) (by omega)), decide_eq_true (show dgt n b i from ⟨x, by omega, by omega⟩)]; decide
  · rw [lxs_out x, if_pos (show mI < 48 by decide), decide_eq_false (show ¬ dgt n b i from fun w => x w.1)]; decide
theorem dg_nb {k : Nat} (h : dgt n b k) : LxN n b k := fun e => by have := h.2.1; omega
/-- how many digits there are, up to m -/
theorem dg_ex (n : Nat) (b : Nat → Nat) (k m : Nat) : ∃ j, j ≤ m ∧ (∀ t, t < j → dgt n b (k + t)) ∧ (j < m → ¬ dgt n b (k + j)) := by
  obtain ⟨j, a, c, d⟩ := first_ex (fun t => ¬ dgt n b (k + t)) m
  exact ⟨j, a, fun t ht => Classical.not_not.mp (c t ht), d⟩
theorem num_S {k m j : Nat} (h : LxO n b k T S) (hm : m ≤ 4) (h0 : dgt n b k) (hj : j ≤ m) (j1 : ∀ t, t < j → dgt n b (k + t)) (j2 : j < m → ¬ dgt n b (k + j)) : Tp_number (nI m) S = some (nI (dgv b k j), if dgt n b (k + j) then si (si S 8 2 (nI (k + j))) 8 3 (nI (k + j)) else si S 8 2 (nI (k + j))) := by
  have hh := h
  obtain ⟨hB, f1, f2, f3, f4, hi⟩ := h
  have hB' := hB
  obtain ⟨h1, h2, h3, h4, -, -⟩ := hB'
  have kj : ∀ t, t ≤ j → k + t ≤ n := fun t ht => by
    by_cases z : t = 0
    · omega
    · have := (j1 (t - 1) (by omega)).1; omega
  have st : ∀ t, t ≤ j → LxO n b (k + t) (si T 53 3 (nI (k + t))) (si S 8 2 (nI (k + t))) := fun t ht => hh.move (kj t ht)
  have hf : ∀ t, t ≤ j → Tp_isFaulty (si S 8 2 (nI (k + t))) = 0 := fun t ht => by
    unfold Tp_isFaulty Tp_isFaulty_13
    rw [(st t ht).2.1, if_pos (show mI = -1 from rfl)]; decide
  have dg : ∀ t, t ≤ j → Tp_isDigitHere (si S 8 2 (nI (k + t))) = bI (decide (dgt n b (k + t))) := fun t ht => dg_S (st t ht).1 (st t ht).2.2.2.1 (by have := kj t ht; omega)
  have lp : lpN (Tp_number_L23 (nI m)) FU (0, 0, S) = some (nI (dgv b k j), si S 8 2 (nI (k + j))) := by
    refine lpN_run0 (fun t => (nI (dgv b k t), nI t, si S 8 2 (nI (k + t)))) j (by omega) (fun t ht => ?_) ?_ (by
      show (0, 0, S) = (nI 0, nI 0, si S 8 2 (nI (k + 0)))
      rw [Nat.add_zero, si_same f3]; rfl)
    · have d := j1 t ht
      have lt := dgv_lt (n := n) (b := b) (k := k) t fun x hx => j1 x (by omega)
      have p4 : 10 ^ t ≤ 10 ^ 4 := Nat.pow_le_pow_right (by decide) (by omega)
      have := h2 (k + t) d.1
      have d1 := d.2.1
      have ev : nI (dgv b k t) * 10 + nI (b (k + t)) - 48 = nI (dgv b k (t + 1)) := by
        rw [show (10 : Int32) = nI 10 from rfl, q_mul, q_add, show (48 : Int32) = nI 48 from rfl, q_sub (by omega)]
        exact congrArg nI (by show _ = dgv b k t * 10 + (b (k + t) - 48); omega)
      unfold Tp_number_L23
      dsimp only
      rw [if_neg (show ¬ nI m ≤ nI t from fun z => by have := (q_le (by omega) (by omega)).mp z; omega), hf t (by omega), if_pos rfl, dg t (by omega), decide_eq_true d, bI_t, if_neg (show ¬ nI 1 = 0 by decide), (st t (by omega)).2.2.2.1, q_at (by have := d.1; omega) (by omega), (st t (by omega)).1.2.2.2.1 _ d.1, lx_ss, ev, show nI t + 1 = nI (t + 1) from q_add t 1, show nI (k + t) + 1 = nI (k + (t + 1)) from q_add (k + t) 1]
    · unfold Tp_number_L23
      dsimp only
      by_cases z : j = m
      · rw [if_pos (by rw [z]; exact nI_le (Nat.le_refl _) (by omega))]
      · rw [if_neg (show ¬ nI m ≤ nI j from fun z => by have := (q_le (by omega) (by omega)).mp z; omega), hf j (Nat.le_refl _), if_pos rfl, dg j (Nat.le_refl _), decide_eq_false (j2 (by omega)), bI_f, if_pos (show nI 0 = 0 from rfl)]
  have d0 : Tp_isDigitHere S = nI 1 := by
    have := dg 0 (by omega)
    rw [Nat.add_zero, si_same f3, decide_eq_true h0] at this
    exact this
  have sn : ¬ lxs n b k = -1 := by
    rw [lxs_in h0.1]
    exact fun e => (q_eqm (by have := h2 k h0.1; omega)).mp e
  unfold Tp_number Tp_number_21 Tp_number_89
  rw [(lx_at hh (dg_nb h0)).1, q_bind, if_neg sn, d0, if_neg (show ¬ nI 1 = 0 by decide), lp, q_bind, dg j (Nat.le_refl _)]
  by_cases z : dgt n b (k + j)
  · rw [decide_eq_true z, bI_t, if_neg (show ¬ nI 1 = 0 by decide), if_pos z, (lx_fail (st j (Nat.le_refl _))).1]; rfl
  · rw [decide_eq_false z, bI_f, if_pos (show nI 0 = 0 from rfl), if_neg z]
/-- no number there: a fault -/
theorem num_N {k : Nat} (h : LxO n b k T S) (hb : LxN n b k) (m : Int32) (h0 : ¬ dgt n b k) (hm : ¬ m ≤ 0) : Tp_number m S = some (nI 0, si S 8 3 (nI k)) := by
  have hh := h
  obtain ⟨hB, f1, f2, f3, f4, hi⟩ := h
  have kn : k < 1000 := by have := hB.1; omega
  have d0 : Tp_isDigitHere S = nI 0 := by rw [dg_S hB f3 kn, decide_eq_false h0]; rfl
  have fl : ¬ gi (si S 8 3 (nI k)) 8 3 = -1 := by
    rw [tb_h]; exact fun e => (q_eqm (by omega)).mp e
  have lp : lpN (Tp_number_L23 m) FU (0, 0, si S 8 3 (nI k)) = some (nI 0, si S 8 3 (nI k)) := by
    refine lpN_run0 (fun _ => (0, 0, si S 8 3 (nI k))) 0 (by omega) (fun t ht => absurd ht (by omega)) ?_ rfl
    unfold Tp_number_L23 Tp_isFaulty Tp_isFaulty_13
    dsimp only
    rw [if_neg hm, if_neg fl, if_neg (show ¬ (1 : Int32) &&& 1 = 0 by decide)]; rfl
  have n17 : Tp_number_17 m 0 S = some (nI 0, si S 8 3 (nI k)) := by
    unfold Tp_number_17 Tp_number_21 Tp_number_89
    rw [(lx_fail hh).1, q_app, lp, q_bind]
    dsimp only
    by_cases z : Tp_isDigitHere (si S 8 3 (nI k)) = 0
    · rw [if_pos z]
    · rw [if_neg z]
      unfold Tp_fail Tp_fail_16
      rw [if_neg fl]; rfl
  unfold Tp_number
  rw [(lx_at hh hb).1, q_bind, d0, if_pos (show nI 0 = 0 from rfl), n17]
  split <;> rfl
end LX
