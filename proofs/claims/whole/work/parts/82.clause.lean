/-! ===== a net's text: clauses ===== -/
def kcN : Nat → Nat
  | 0 => 110
  | 1 => 116
  | 2 => 114
  | _ => 103
def nsN : Nat → Nat
  | 3 => 1
  | _ => 4
def fiN : Nat → Nat
  | 0 => 0
  | 1 => 1
  | 2 => 19
  | 3 => 25
  | _ => 29
def loN (k s : Nat) : Nat := (([[1, 1, 0, 0], [0, 0, 0, 1], [0, 0, 0, 0], [0]].getD k []).getD s 0)
def hiN (k s : Nat) : Nat := (([[8, 5, 23, 9], [7, 4, 8, 9], [7, 5, 99, 9], [7]].getD k []).getD s 0)
def usN (k s : Nat) : Nat := (([[4, 3, 0, 0], [0, 0, 1, 1], [0, 0, 0, 3], [0]].getD k []).getD s 0)
def SmZ : Sm := (fun _ _ => 0, fun _ _ => 0)
theorem t_slot : ∀ k, k < 4 → ∀ c, c < 256 → Nr_slotOf (nI k) (nI c) SmZ = some (Md_itemOf (nI (kcN k)) (nI c)) := by decide +kernel
theorem t_slotm : ∀ k, k < 4 → Nr_slotOf (nI k) mI SmZ = some mI ∧ Md_itemOf (nI (kcN k)) mI = mI := by decide +kernel
theorem t_item : ∀ k, k < 4 → ∀ c, c < 256 → Md_itemOf (nI (kcN k)) (nI c) = mI ∨ (List.range (nsN k)).any (fun s => decide (Md_itemOf (nI (kcN k)) (nI c) = nI s)) = true := by decide +kernel
theorem t_kind : ∀ c, c < 256 → Nr_kindOf (nI c) SmZ = some (if c = 110 then nI 0 else if c = 116 then nI 1 else if c = 114 then nI 2 else if c = 103 then nI 3 else mI) := by decide +kernel
theorem t_kindm : Nr_kindOf mI SmZ = some mI := by decide +kernel
theorem t_rng : ∀ k, k < 4 → ∀ s, s < nsN k → atF (cst 4) 16 (nI k * 4 + nI s) = nI (loN k s) ∧ atF (cst 5) 16 (nI k * 4 + nI s) = nI (hiN k s) ∧ Md_lowest (nI (kcN k)) (nI s) = nI (loN k s) ∧ Md_highest (nI (kcN k)) (nI s) = nI (hiN k s) ∧ atF (cst 2) 16 (nI k * 4 + nI s) = nI (usN k s) ∧ Md_usual (nI (kcN k)) (nI s) = nI (usN k s) ∧ loN k s ≤ usN k s ∧ usN k s ≤ hiN k s ∧ hiN k s ≤ 99 := by decide +kernel
theorem t_full : ∀ k, k < 4 → atF (cst 1) 5 (nI k + 1) - atF (cst 1) 5 (nI k) = nI (fiN (k + 1) - fiN k) ∧ atF (cst 1) 5 (nI k) = nI (fiN k) := by decide +kernel
def slN (k : Nat) (v : Int32) : Int32 := Md_itemOf (nI (kcN k)) v
section NP
variable {n : Nat} {b : Nat → Nat} {T S T0 S0 : Sm}
theorem lx_slot (h : ∀ i, i < n → 1 ≤ b i ∧ b i ≤ 255) {k : Nat} (hk : k < 4) (i : Nat) (S : Sm) : Nr_slotOf (nI k) (lxs n b i) S = some (slN k (lxs n b i)) ∧ (slN k (lxs n b i) = mI ∨ i < n ∧ ∃ s, s < nsN k ∧ slN k (lxs n b i) = nI s) := by
  by_cases x : i < n
  · have hb := h i x
    rw [lxs_in x]
    refine ⟨t_slot k hk (b i) (by omega), ?_⟩
    rcases t_item k hk (b i) (by omega) with e | e
    · exact Or.inl e
    · obtain ⟨s, s1, s2⟩ := List.any_eq_true.mp e
      exact Or.inr ⟨x, s, List.mem_range.mp s1, of_decide_eq_true s2⟩
  · rw [lxs_out x]
    exact ⟨(t_slotm k hk).1.trans (congrArg some (t_slotm k hk).2.symm), Or.inl (t_slotm k hk).2⟩
theorem num_mv {m v : Int32} {S1 : Sm} (h : Tp_sign S = some (v, S1)) (h1 : Tp_sign S1 = some (v, S1)) : Tp_number m S = Tp_number m S1 := by
  unfold Tp_number
  rw [h, h1]
theorem mdn_mv {lo hi v : Int32} {T1 : Sm} (h : Md_look T = some (v, T1)) (h1 : Md_look T1 = some (v, T1)) : Md_number lo hi T = Md_number lo hi T1 := by
  unfold Md_number
  rw [h, h1]
theorem md_bad {a : Nat} (h3 : gi T 53 3 = nI a) (h4 : gi T 53 4 = mI) : Md_bad T = si T 53 4 (nI a) := by
  unfold Md_bad Md_bad_20
  rw [h3, h4, if_pos (show mI = -1 from rfl)]
/-- what a reading of a number changes -/
def NmF (T T' S S' : Sm) : Prop := (∀ i j, i ≠ 8 → S'.1 i j = S.1 i j) ∧ (∀ j, j ≠ 2 → j ≠ 3 → S'.1 8 j = S.1 8 j) ∧ (∀ i j, i ≠ 53 → T'.1 i j = T.1 i j) ∧ ∀ j, j ≠ 3 → j ≠ 4 → T'.1 53 j = T.1 53 j
theorem nm_f {a c d e : Nat} : NmF T (si (si T 53 3 (nI a)) 53 4 (nI c)) S (si (si S 8 2 (nI d)) 8 3 (nI e)) := ⟨fun i j h => (tb_n (fun e => h e.1)).trans (tb_n (fun e => h e.1)), fun j h1 h2 => (tb_n (fun e => h2 e.2)).trans (tb_n (fun e => h1 e.2)), fun i j h => (tb_n (fun e => h e.1)).trans (tb_n (fun e => h e.1)), fun j h1 h2 => (tb_n (fun e => h2 e.2)).trans (tb_n (fun e => h1 e.2))⟩
/-- a number of at most two digits within bounds: both alike, or both at the same fault -/
theorem num_2 {k lo hi : Nat} (h : LxO n b k T S) (l99 : lo ≤ 99) (h99 : hi ≤ 99) : (∃ x k', lo ≤ x ∧ x ≤ hi ∧ k < k' ∧ k' ≤ n ∧ Tp_numberWithin 2 (nI lo) (nI hi) S = some (nI x, si S 8 2 (nI k')) ∧ Md_number (nI lo) (nI hi) T = some (nI x, si T 53 3 (nI k'))) ∨ ∃ p y z S' T', p ≤ n ∧ Tp_numberWithin 2 (nI lo) (nI hi) S = some (y, S') ∧ Md_number (nI lo) (nI hi) T = some (z, T') ∧ gi S' 8 3 = nI p ∧ gi T' 53 4 = nI p ∧ NmF T T' S S' := by
  obtain ⟨k1, a1, a2, a3, a4, a5⟩ := lx_look h
  have h1 := h.move a2
  have n240 := h.1.1
  have hb := h.1.2.1
  obtain ⟨b1, b2⟩ := lx_at h1 a3
  have hS : Tp_numberWithin 2 (nI lo) (nI hi) S = Tp_numberWithin 2 (nI lo) (nI hi) (si S 8 2 (nI k1)) := by
    unfold Tp_numberWithin
    rw [num_mv a4 b1]
  have hT : Md_number (nI lo) (nI hi) T = Md_number (nI lo) (nI hi) (si T 53 3 (nI k1)) := mdn_mv a5 b2
  rw [hS, hT]
  have flt : ∀ (S2 : Sm) (p : Nat), p ≤ n → gi S2 8 3 = nI p → Tp_isFaulty S2 = 1 := fun S2 p hp e => by
    unfold Tp_isFaulty Tp_isFaulty_13
    rw [e, if_neg (show ¬ nI p = -1 from fun z => (q_eqm (by omega)).mp z)]; decide
  by_cases d : dgt n b k1
  · obtain ⟨j, j0, j1, j2⟩ := dg_ex n b k1 2
    have jp : 1 ≤ j := Nat.one_le_iff_ne_zero.mpr fun z => by
      subst z
      exact j2 (by omega) d
    have e1 := num_S h1 (m := 2) (by omega) d j0 j1 j2
    have lt := dgv_lt (n := n) (b := b) (k := k1) j j1
    have p2 : 10 ^ j ≤ 10 ^ 2 := Nat.pow_le_pow_right (by decide) (by omega)
    have kj : k1 + j ≤ n := by
      have := (j1 (j - 1) (by omega)).1; omega
    rw [lx_ss] at e1
    have st : ∀ t, t ≤ j → LxO n b (k1 + t) (si T 53 3 (nI (k1 + t))) (si S 8 2 (nI (k1 + t))) := fun t ht => h.move (by omega)
    have hr : ∀ t, t ≤ j → Md_here (si T 53 3 (nI (k1 + t))) = some (lxs n b (k1 + t)) := fun t ht => lx_here (st t ht).1 (st t ht).2.2.2.2.1 (by omega)
    /- the reference up to its last test -/
    have eT : Md_number (nI lo) (nI hi) (si T 53 3 (nI k1)) = Md_number_67 (nI lo) (nI hi) (nI (dgv b k1 j)) (si T 53 3 (nI (k1 + j))) := by
      have hr0 := hr 0 (by omega)
      rw [Nat.add_zero] at hr0
      have hr1 := hr 1 jp
      obtain ⟨d0, d1, d2⟩ := d
      have b255 := hb k1 d0
      have v1 : nI (b k1) - 48 = nI (b k1 - 48) := q_sub (b := 48) (by omega)
      unfold Md_number
      rw [b2, q_bind, dg_T hb, decide_eq_true (show dgt n b k1 from ⟨d0, d1, d2⟩), bI_t, if_neg (show ¬ nI 1 = 0 by decide), hr0, q_bind, show gi (si T 53 3 (nI k1)) 53 3 = nI k1 from tb_h, lx_ss, show nI k1 + 1 = nI (k1 + 1) from q_add k1 1, hr1, q_bind, dg_T hb]
      by_cases c : dgt n b (k1 + 1)
      · have j22 : j = 2 := by
          by_cases z : j = 1
          · subst z; exact absurd c (j2 (by omega))
          · omega
        subst j22
        obtain ⟨c0, c1, c2⟩ := c
        have b256 := hb _ c0
        rw [decide_eq_true (show dgt n b (k1 + 1) from ⟨c0, c1, c2⟩), bI_t, if_neg (show ¬ nI 1 = 0 by decide), q_bind, lxs_in d0, lxs_in c0, v1, show gi (si T 53 3 (nI (k1 + 1))) 53 3 = nI (k1 + 1) from tb_h, lx_ss, show nI (k1 + 1) + 1 = nI (k1 + 2) from q_add (k1 + 1) 1, show (10 : Int32) = nI 10 from rfl, q_mul, q_add, show (48 : Int32) = nI 48 from rfl, q_sub (by omega)]
        exact congrArg (fun x => Md_number_67 (nI lo) (nI hi) (nI x) (si T 53 3 (nI (k1 + 2)))) (by show _ = (0 * 10 + (b (k1 + 0) - 48)) * 10 + (b (k1 + 1) - 48); have e0 : b (k1 + 0) = b k1 := congrArg b (Nat.add_zero k1); omega)
      · have j11 : j = 1 := by
          by_cases z : j = 2
          · subst z; exact absurd (j1 1 (by omega)) c
          · omega
        subst j11
        rw [decide_eq_false c, bI_f, if_pos (show nI 0 = 0 from rfl), lxs_in d0, v1]
        exact congrArg (fun x => Md_number_67 (nI lo) (nI hi) (nI x) (si T 53 3 (nI (k1 + 1)))) (by show _ = 0 * 10 + (b (k1 + 0) - 48); have e0 : b (k1 + 0) = b k1 := congrArg b (Nat.add_zero k1); omega)
    rw [eT]
    unfold Tp_numberWithin Tp_numberWithin_26 Tp_numberWithin_36 Md_number_67 Md_number_107
    rw [show (2 : Int32) = nI 2 from rfl, e1, q_bind, hr j (Nat.le_refl _), q_bind, dg_T hb]
    dsimp only
    by_cases c : dgt n b (k1 + j)
    · rw [if_pos c, decide_eq_true c, bI_t, flt _ (k1 + j) kj tb_h, if_neg (show ¬ (1 : Int32) = 0 by decide), if_neg (show ¬ nI 1 = 0 by decide), md_bad (a := k1 + j) tb_h ((tb_n (fun e => absurd e.2 (by decide))).trans h.2.2.1), q_app]
      exact Or.inr ⟨k1 + j, _, _, _, _, kj, rfl, rfl, tb_h, tb_h, nm_f⟩
    · have nf : Tp_isFaulty (si S 8 2 (nI (k1 + j))) = 0 := by
        unfold Tp_isFaulty Tp_isFaulty_13
        rw [(st j (Nat.le_refl _)).2.1, if_pos (show mI = -1 from rfl)]; decide
      rw [if_neg c, decide_eq_false c, bI_f, nf, if_pos rfl, if_pos (show nI 0 = 0 from rfl), show gi (si S 8 2 (nI (k1 + j))) 8 2 = nI (k1 + j) from tb_h, show gi (si T 53 3 (nI (k1 + j))) 53 3 = nI (k1 + j) from tb_h, show nI (k1 + j) - 1 = nI (k1 + j - 1) from q_sub (b := 1) (by omega), lx_ss]
      have bad : gi (si (si S 8 2 (nI (k1 + j))) 8 3 (nI (k1 + j - 1))) 8 3 = nI (k1 + j - 1) := tb_h
      have bT : Md_bad (si T 53 3 (nI (k1 + j - 1))) = si (si T 53 3 (nI (k1 + j - 1))) 53 4 (nI (k1 + j - 1)) := md_bad tb_h ((tb_n (fun e => absurd e.2 (by decide))).trans h.2.2.1)
      by_cases l : dgv b k1 j < lo
      · have e2 : Md_in (nI (dgv b k1 j)) (nI lo) (nI hi) = nI 0 := in_f (Or.inl (nI_lt l (by omega)))
        rw [if_pos (nI_lt l (by omega)), e2, if_pos (show nI 0 = 0 from rfl), bT, q_app]
        exact Or.inr ⟨k1 + j - 1, _, _, _, _, by omega, rfl, rfl, tb_h, tb_h, nm_f⟩
      · rw [if_neg (nI_nlt (by omega) (by omega))]
        by_cases u : dgv b k1 j ≤ hi
        · have e2 : Md_in (nI (dgv b k1 j)) (nI lo) (nI hi) = nI 1 := in_t (nI_nlt (by omega) (by omega)) (nI_nlt u (by omega))
          rw [if_pos (nI_le u (by omega)), e2, if_neg (show ¬ nI 1 = 0 by decide)]
          exact Or.inl ⟨dgv b k1 j, k1 + j, by omega, u, by omega, kj, rfl, rfl⟩
        · have e2 : Md_in (nI (dgv b k1 j)) (nI lo) (nI hi) = nI 0 := in_f (Or.inr (nI_lt (by omega) (by omega)))
          rw [if_neg (nI_ge (by omega) (by omega)), e2, if_pos (show nI 0 = 0 from rfl), bT, q_app]
          exact Or.inr ⟨k1 + j - 1, _, _, _, _, by omega, rfl, rfl, tb_h, tb_h, nm_f⟩
  · have e1 := num_N h1 a3 2 d (by decide)
    unfold Tp_numberWithin Tp_numberWithin_36 Md_number
    rw [e1, b2, q_bind, q_bind, dg_T hb, decide_eq_false d, bI_f, if_pos (show nI 0 = 0 from rfl)]
    dsimp only
    rw [flt _ k1 a2 tb_h, if_neg (show ¬ (1 : Int32) = 0 by decide), md_bad (a := k1) tb_h ((tb_n (fun e => absurd e.2 (by decide))).trans h.2.2.1), q_app]
    exact Or.inr ⟨k1, _, _, _, _, a2, rfl, rfl, tb_h, tb_h, nm_f⟩
end NP
