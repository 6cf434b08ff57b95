/-! ===== a net's text: clause by clause ===== -/
section NR
variable {n : Nat} {b : Nat → Nat} {T S T0 S0 : Sm}
theorem nr_full {S : Sm} {k m : Nat} (hk : k < 4) (hm : gi S 16 k = nI m) (hc : m ≤ cpN k) : Dr_isFull (nI k) S = if m < cpN k then 0 else 1 := by
  have tc := t_cap k hk
  have tf := (t_full k hk).1
  have e : fiN (k + 1) - fiN k = cpN k := rfl
  unfold Dr_isFull Dr_isFull_30
  rw [dr_m hk, hm, show nI k + 1 = nI k + 1 from rfl, tf, e]
  by_cases c : m < cpN k
  · rw [if_pos c, if_pos (nI_lt c (by omega))]; decide
  · rw [if_neg c, if_neg (nI_nlt (by omega) (by omega))]; decide
/-- the reference's choice of a clause's kind -/
theorem nr_chain {m : Nat → Nat} (hd : NdO m T S) (k : Nat) (hk : k < 4) (hc : m k < cpN k) (T1 : Sm) (e1 : ∀ j, j ≠ 3 → gi T1 53 j = gi T 53 j) : (if nI (kcN k) = 110 then (if nI (m 0) = 0 then ((Md_items_64 (nI (kcN k)) 0 4 (si T1 53 3 ((gi T1 53 3) + 1))).bind fun q19 => (Md_readAll_270_L54 1 q19)) else (Md_readAll_107_L54 (nI (m 0)) (nI (kcN k)) T1)) else (Md_readAll_107_L54 (nI (m 0)) (nI (kcN k)) T1)) = (niAll (64 + k) (zN k) (nI (kcN k)) (nI (nsN k * m k)) (nI (nsN k)) (si T1 53 3 ((gi T1 53 3) + 1))).bind fun q => Md_readAll_270_L54 (if k = 0 then nI 1 else nI (m 0)) (if k = 0 then q else si q 53 (20 + k) (gi q 53 (20 + k) + 1)) := by
  obtain ⟨hd1, ⟨c1, c2, c3⟩, -⟩ := hd
  have g : ∀ j v, j ≠ 3 → gi (si T1 53 3 v) 53 j = gi T 53 j := fun j v h => (tb_n fun e => h e.2).trans (e1 j h)
  have le : ∀ a c : Nat, a ≤ 100 → c ≤ 100 → (nI a ≤ nI c ↔ a ≤ c) := fun a c h1 h2 => q_le (by omega) (by omega)
  have k4 : k = 0 ∨ k = 1 ∨ k = 2 ∨ k = 3 := by omega
  rcases k4 with rfl | rfl | rfl | rfl
  · have hc : m 0 < 1 := hc
    have m0 : m 0 = 0 := by omega
    rw [m0, ni_64, if_pos (show nI (kcN 0) = 110 from rfl), if_pos (show nI 0 = 0 from rfl)]
    rfl
  · have hc : m 1 < 18 := hc
    rw [if_neg (show ¬ nI (kcN 1) = 110 by decide)]
    unfold Md_readAll_107_L54
    rw [if_pos (show nI (kcN 1) = 116 from rfl), e1 21 (by omega), c1, if_neg (show ¬ (18 : Int32) ≤ nI (m 1) from fun z => by have := (le 18 (m 1) (by omega) (by omega)).mp z; omega), g 21 _ (by omega), c1, ni_65, show (4 : Int32) * nI (m 1) = nI (4 * m 1) from q_mul 4 (m 1)]
    rfl
  · have hc : m 2 < 6 := hc
    rw [if_neg (show ¬ nI (kcN 2) = 110 by decide)]
    unfold Md_readAll_107_L54 Md_readAll_161_L54
    rw [if_neg (show ¬ nI (kcN 2) = 116 by decide), if_pos (show nI (kcN 2) = 114 from rfl), e1 22 (by omega), c2, if_neg (show ¬ (6 : Int32) ≤ nI (m 2) from fun z => by have := (le 6 (m 2) (by omega) (by omega)).mp z; omega), g 22 _ (by omega), c2, ni_66, show (4 : Int32) * nI (m 2) = nI (4 * m 2) from q_mul 4 (m 2)]
    rfl
  · have hc : m 3 < 4 := hc
    rw [if_neg (show ¬ nI (kcN 3) = 110 by decide)]
    unfold Md_readAll_107_L54 Md_readAll_161_L54 Md_readAll_215_L54
    rw [if_neg (show ¬ nI (kcN 3) = 116 by decide), if_neg (show ¬ nI (kcN 3) = 114 by decide), if_pos (show nI (kcN 3) = 103 from rfl), e1 23 (by omega), c3, if_neg (show ¬ (4 : Int32) ≤ nI (m 3) from fun z => by have := (le 4 (m 3) (by omega) (by omega)).mp z; omega), g 23 _ (by omega), c3, ni_67, show nsN 3 * m 3 = m 3 from Nat.one_mul _]
    rfl
/-- no kind, or one too many -/
theorem nr_none {m : Nat → Nat} (hd : NdO m T S) (v : Int32) (hv : ∀ k, k < 4 → v = nI (kcN k) → m k = cpN k) (T1 : Sm) (e1 : ∀ j, j ≠ 3 → gi T1 53 j = gi T 53 j) : (if v = 110 then (if nI (m 0) = 0 then ((Md_items_64 v 0 4 (si T1 53 3 ((gi T1 53 3) + 1))).bind fun q19 => (Md_readAll_270_L54 1 q19)) else (Md_readAll_107_L54 (nI (m 0)) v T1)) else (Md_readAll_107_L54 (nI (m 0)) v T1)) = Md_readAll_270_L54 (nI (m 0)) (Md_bad T1) := by
  obtain ⟨hd1, ⟨c1, c2, c3⟩, -⟩ := hd
  have b215 : Md_readAll_215_L54 (nI (m 0)) v T1 = Md_readAll_270_L54 (nI (m 0)) (Md_bad T1) := by
    unfold Md_readAll_215_L54 Md_readAll_266_L54
    by_cases x : v = 103
    · rw [if_pos x, e1 23 (by omega), c3, hv 3 (by omega) x, if_pos (show (4 : Int32) ≤ nI (cpN 3) by decide)]; rfl
    · rw [if_neg x]; rfl
  have b161 : Md_readAll_161_L54 (nI (m 0)) v T1 = Md_readAll_270_L54 (nI (m 0)) (Md_bad T1) := by
    unfold Md_readAll_161_L54
    by_cases x : v = 114
    · rw [if_pos x, e1 22 (by omega), c2, hv 2 (by omega) x, if_pos (show (6 : Int32) ≤ nI (cpN 2) by decide), b215]
    · rw [if_neg x, b215]
  have b107 : Md_readAll_107_L54 (nI (m 0)) v T1 = Md_readAll_270_L54 (nI (m 0)) (Md_bad T1) := by
    unfold Md_readAll_107_L54
    by_cases x : v = 116
    · rw [if_pos x, e1 21 (by omega), c1, hv 1 (by omega) x, if_pos (show (18 : Int32) ≤ nI (cpN 1) by decide), b161]
    · rw [if_neg x, b161]
  by_cases x : v = 110
  · rw [if_pos x, hv 0 (by omega) x, if_neg (show ¬ nI (cpN 0) = 0 by decide), ← hv 0 (by omega) x, b107]
  · rw [if_neg x, b107]
/-- behind a clause -/
theorem nr_270 {i : Nat} (h : LxO n b i T S) (hb : LxN n b i) (t : Int32) : (lxs n b i = nI 59 ∧ Md_readAll_270_L54 t T = some (Sum.inl (t, 1, si T 53 3 (nI (i + 1))))) ∨ (lxs n b i ≠ nI 59 ∧ Md_readAll_270_L54 t T = some (Sum.inl (t, 0, T))) := by
  unfold Md_readAll_270_L54 Md_readAll_291_L54 Md_readAll_292_L54 Md_readAll_307_L54
  rw [h.2.2.1, if_pos (show mI = -1 from rfl), (lx_at h hb).2, q_bind]
  dsimp only
  rw [h.2.2.2.2.1]
  by_cases x : lxs n b i = nI 59
  · rw [if_pos (show lxs n b i = 59 from x), if_neg (show ¬ (1 : Int32) = 0 by decide), show nI i + 1 = nI (i + 1) from q_add i 1]
    exact Or.inl ⟨x, rfl⟩
  · rw [if_neg (show ¬ lxs n b i = 59 from x), if_pos rfl, show nI i + 0 = nI i from q_add i 0, si_same h.2.2.2.2.1]
    exact Or.inr ⟨x, rfl⟩
theorem nr_270x {p : Nat} (hp : p ≤ 1000) (h : gi T 53 4 = nI p) (t : Int32) : Md_readAll_270_L54 t T = some (Sum.inl (t, 0, T)) := by
  unfold Md_readAll_270_L54 Md_readAll_291_L54 Md_readAll_292_L54 Md_readAll_307_L54
  rw [h, if_neg (show ¬ nI p = -1 from fun z => (q_eqm (by omega)).mp z), if_pos rfl, Int32.add_zero, si_same rfl]
/-- the reference stands unfaulty at p -/
theorem nr_270o {p : Nat} (hB : LxB n b T S) (h4 : gi T 53 4 = mI) (h3 : gi T 53 3 = nI p) (hb : LxN n b p) (hp : p < n) (h59 : b p ≠ 59) (t : Int32) : Md_readAll_270_L54 t T = some (Sum.inl (t, 0, T)) := by
  have O : LxO n b p T (si (si S 8 3 mI) 8 2 (nI p)) := by
    obtain ⟨b1, b2, b3, b4, b5, b6⟩ := hB
    exact ⟨⟨b1, b2, (tb_n fun e => absurd e.2 (by decide)).trans ((tb_n fun e => absurd e.2 (by decide)).trans b3), fun i hi => (tb_n fun e => absurd e.1 (by decide)).trans ((tb_n fun e => absurd e.1 (by decide)).trans (b4 i hi)), b5, b6⟩, (tb_n fun e => absurd e.2 (by decide)).trans tb_h, h4, tb_h, h3, by omega⟩
  rcases nr_270 O hb t with ⟨x, -⟩ | ⟨-, x⟩
  · rw [lxs_in hp] at x
    have := hB.2.1 p hp
    exact absurd ((q_eq (by omega) (by omega)).mp x) h59
  · exact x
theorem nr_goes {i : Nat} (h : LxO n b i T S) (hb : LxN n b i) : (lxs n b i = mI ∧ Tp_goesOn S = some (0, S)) ∨ (lxs n b i = nI 59 ∧ Tp_goesOn S = some (1, si S 8 2 (nI (i + 1)))) ∨ (lxs n b i ≠ mI ∧ lxs n b i ≠ nI 59 ∧ Tp_goesOn S = some (0, si S 8 3 (nI i))) := by
  have n240 := h.1.1
  have hi := h.2.2.2.2.2
  unfold Tp_goesOn Tp_goesOn_28 Tp_isFaulty Tp_isFaulty_13
  rw [(lx_at h hb).1, q_bind]
  dsimp only
  by_cases x : lxs n b i = mI
  · rw [if_pos (show lxs n b i = -1 from x)]; exact Or.inl ⟨x, rfl⟩
  · rw [if_neg (show ¬ lxs n b i = -1 from x), lx_need h hb, q_bind]
    by_cases y : lxs n b i = nI 59
    · rw [if_pos (show lxs n b i = 59 from y), show gi (si S 8 2 (nI (i + 1))) 8 3 = mI from (tb_n fun e => absurd e.2 (by decide)).trans h.2.1, if_pos (show mI = -1 from rfl), if_pos (show (0 : Int32) &&& 1 = 0 by decide)]
      exact Or.inr (Or.inl ⟨y, by rfl⟩)
    · rw [if_neg (show ¬ lxs n b i = 59 from y), show gi (si S 8 3 (nI i)) 8 3 = nI i from tb_h, if_neg (show ¬ nI i = -1 from fun z => (q_eqm (by omega)).mp z), if_neg (show ¬ (1 : Int32) &&& 1 = 0 by decide)]
      exact Or.inr (Or.inr ⟨x, y, by rfl⟩)
theorem nr_goesx {p : Nat} (hp : p ≤ 1000) (h : gi S 8 3 = nI p) : Tp_goesOn S = some (0, S) := by
  unfold Tp_goesOn Tp_sign
  rw [h, if_neg (show ¬ nI p = -1 from fun z => (q_eqm (by omega)).mp z)]; rfl
/-- one turn: goes on, through, or a fault -/
def NrQ (n : Nat) (b : Nat → Nat) (i : Nat) (T0 S0 : Sm) (g t : Int32) (T S : Sm) : Prop := SamS S0 S ∧ SamT T0 T ∧ LxB n b T S ∧ ((g = nI 1 ∧ ∃ i' m, i < i' ∧ LxO n b i' T S ∧ NdO m T S ∧ t = nI (m 0)) ∨ (g = nI 0 ∧ ∃ m, LxO n b n T S ∧ NdO m T S) ∨ (g = nI 0 ∧ ∃ p, p ≤ n ∧ NdC S ∧ gi S 8 3 = nI p ∧ (gi T 53 4 = nI p ∨ (gi T 53 4 = mI ∧ gi T 53 3 = nI p ∧ LxN n b p ∧ p < n))))
theorem nr_turn {i it : Nat} {m : Nat → Nat} (h : LxO n b i T S) (hd : NdO m T S) (hit : it ≤ 240) : ∃ g t T' S', Nr_firstFault_L18 (1, nI it, S) = some (Sum.inl (g, nI (it + 1), S')) ∧ Md_readAll_L54 (nI (m 0), 1, T) = some (Sum.inl (t, g, T')) ∧ NrQ n b i T S g t T' S' := by
  have n240 := h.1.1
  have hb := h.1.2.1
  obtain ⟨k1, a1, a2, a3, a4, a5⟩ := lx_look h
  have O1 := h.move a2
  have sS : ∀ v, SamS S (si S 8 2 v) := fun v => (SamS.rfl S).si rfl
  have sT : ∀ v, SamT T (si T 53 3 v) := fun v => (SamT.rfl T).si rfl
  have d16 : ∀ v j, gi (si S 8 2 v) 16 j = gi S 16 j := fun v j => tb_n fun e => absurd e.1 (by decide)
  have hd' := hd
  obtain ⟨hd1, hd2, hd3, hd4⟩ := hd'
  have D1 : ∀ v u, NdO m (si T 53 3 v) (si S 8 2 u) := fun v u => ⟨fun k hk => ⟨(hd1 k hk).1, (d16 _ _).trans (hd1 k hk).2⟩, ⟨(tb_n fun e => absurd e.2 (by decide)).trans hd2.1, (tb_n fun e => absurd e.2 (by decide)).trans hd2.2.1, (tb_n fun e => absurd e.2 (by decide)).trans hd2.2.2⟩, fun k hk e he s hs => (hd3 k hk e he s hs).elim fun x hx => ⟨x, hx.1, hx.2.1, (tb_n fun e => absurd e.1 (by decide)).trans hx.2.2.1, (tb_n fun e => by omega).trans hx.2.2.2⟩, fun z s hs => (tb_n fun e => absurd e.1 (by decide)).trans (hd4 z s hs)⟩
  have itn : ¬ (240 : Int32) < nI it := nI_nlt (a := 240) (b := it) hit (by omega)
  have i1 : nI it + 1 = nI (it + 1) := q_add it 1
  /- no clause here -/
  have none_ : (∀ k, k < 4 → lxs n b k1 = nI (kcN k) → m k = cpN k) → Nr_readClause S = some (si (si S 8 2 (nI k1)) 8 3 (nI k1)) → ∃ g t T' S', Nr_firstFault_L18 (1, nI it, S) = some (Sum.inl (g, nI (it + 1), S')) ∧ Md_readAll_L54 (nI (m 0), 1, T) = some (Sum.inl (t, g, T')) ∧ NrQ n b i T S g t T' S' := fun hv e => by
    have ch := nr_none hd (lxs n b k1) hv (si T 53 3 (nI k1)) fun j hj => tb_n fun e => hj e.2
    have bT : Md_bad (si T 53 3 (nI k1)) = si (si T 53 3 (nI k1)) 53 4 (nI k1) := (lx_fail O1).2
    rw [bT, nr_270x (p := k1) (by omega) tb_h] at ch
    refine ⟨0, nI (m 0), si (si T 53 3 (nI k1)) 53 4 (nI k1), si (si S 8 2 (nI k1)) 8 3 (nI k1), ?_, ?_, (sS _).si rfl, (sT _).si rfl, ?_, Or.inr (Or.inr ⟨rfl, k1, a2, fun j hj => ⟨m j, (hd1 j hj).1, (tb_n fun e => absurd e.1 (by decide)).trans ((d16 _ _).trans (hd1 j hj).2)⟩, tb_h, Or.inl tb_h⟩)⟩
    · unfold Nr_firstFault_L18
      dsimp only
      rw [if_neg itn, if_neg (show ¬ (1 : Int32) = 0 by decide), e, q_bind, nr_goesx (p := k1) (by omega) tb_h, q_bind, i1]
    · unfold Md_readAll_L54
      dsimp only
      rw [if_neg (show ¬ (1 : Int32) = 0 by decide), h.2.2.1, if_pos (show mI = -1 from rfl), a5, q_bind]
      exact ch
    · obtain ⟨b1, b2, b3, b4, b5, b6⟩ := O1.1
      exact ⟨b1, b2, (tb_n fun e => absurd e.2 (by decide)).trans b3, fun i hi => (tb_n fun e => absurd e.1 (by decide)).trans (b4 i hi), (tb_n fun e => absurd e.2 (by decide)).trans b5, fun i hi => (tb_n fun e => absurd e.1 (by decide)).trans (b6 i hi)⟩
  have failC : Nr_kindOf (lxs n b k1) (si S 8 2 (nI k1)) = some mI → Nr_readClause S = some (si (si S 8 2 (nI k1)) 8 3 (nI k1)) := fun e => by
    unfold Nr_readClause Nr_readClause_29
    rw [a4, q_bind]
    dsimp only
    rw [e, q_bind, if_pos (show mI = -1 from rfl), (lx_fail O1).1]; rfl
  have failF : ∀ k, k < 4 → Nr_kindOf (lxs n b k1) (si S 8 2 (nI k1)) = some (nI k) → m k = cpN k → Nr_readClause S = some (si (si S 8 2 (nI k1)) 8 3 (nI k1)) := fun k hk e hc => by
    unfold Nr_readClause Nr_readClause_29
    rw [a4, q_bind]
    dsimp only
    rw [e, q_bind, if_neg (show ¬ nI k = -1 from fun z => (q_eqm (by omega)).mp z), nr_full hk ((d16 _ _).trans (hd1 k hk).2) (hd1 k hk).1, if_neg (show ¬ m k < cpN k by omega), if_neg (show ¬ (1 : Int32) = 0 by decide), (lx_fail O1).1]; rfl
  have cls : ∀ k, k < 4 → k1 < n → b k1 = kcN k → Nr_kindOf (lxs n b k1) (si S 8 2 (nI k1)) = some (nI k) → (∀ j, j < 4 → lxs n b k1 = nI (kcN j) → j = k) → ∃ g t T' S', Nr_firstFault_L18 (1, nI it, S) = some (Sum.inl (g, nI (it + 1), S')) ∧ Md_readAll_L54 (nI (m 0), 1, T) = some (Sum.inl (t, g, T')) ∧ NrQ n b i T S g t T' S' := fun k hk kn hk2 e hj => by
    by_cases hc : m k = cpN k
    · exact none_ (fun j hj' ej => by rw [hj j hj' ej]; exact hc) (failF k hk e hc)
    · have hc' : m k < cpN k := by have := (hd1 k hk).1; omega
      have O2 := h.move (show k1 + 1 ≤ n from kn)
      obtain ⟨S1, S2, S3, T1, e1, e2, e3, e4, hq, e5⟩ := nc_kind hk O2 (D1 _ _) hc'
      have tk := lx_take O1 a3 (lxs n b k1)
      rw [if_pos rfl, lx_ss] at tk
      have rc : Nr_readClause S = some S3 := by
        unfold Nr_readClause
        rw [a4, q_bind]
        dsimp only
        rw [e, q_bind, if_neg (show ¬ nI k = -1 from fun z => (q_eqm (by omega)).mp z), nr_full hk ((d16 _ _).trans (hd1 k hk).2) (hd1 k hk).1, if_pos hc', if_pos rfl, tk, q_bind, e1, q_bind, e2, q_bind, e3]
      have ch := nr_chain hd k hk hc' (si T 53 3 (nI k1)) fun j hj => tb_n fun e => hj e.2
      rw [show gi (si T 53 3 (nI k1)) 53 3 = nI k1 from tb_h, lx_ss, show nI k1 + 1 = nI (k1 + 1) from q_add k1 1, e4, q_bind] at ch
      have e6 : (if k = 0 then T1 else si T1 53 (20 + k) (gi T1 53 (20 + k) + 1)) = if k = 0 then T1 else si T1 53 (20 + k) (nI (m k + 1)) := by
        by_cases z : k = 0
        · rw [if_pos z, if_pos z]
        · have c20 : gi (si T 53 3 (nI (k1 + 1))) 53 (20 + k) = nI (m k) := by
            have k3 : k = 1 ∨ k = 2 ∨ k = 3 := by omega
            rcases k3 with rfl | rfl | rfl
            · exact (tb_n fun e => absurd e.2 (by decide)).trans hd2.1
            · exact (tb_n fun e => absurd e.2 (by decide)).trans hd2.2.1
            · exact (tb_n fun e => absurd e.2 (by decide)).trans hd2.2.2
          rw [if_neg z, if_neg z, e5, c20, show nI (m k) + 1 = nI (m k + 1) from q_add (m k) 1]
      rw [e6] at ch
      have rT : ∀ r, Md_readAll_270_L54 (if k = 0 then nI 1 else nI (m 0)) (if k = 0 then T1 else si T1 53 (20 + k) (nI (m k + 1))) = r → Md_readAll_L54 (nI (m 0), 1, T) = r := fun r hr => by
        unfold Md_readAll_L54
        dsimp only
        rw [if_neg (show ¬ (1 : Int32) = 0 by decide), h.2.2.1, if_pos (show mI = -1 from rfl), a5, q_bind]
        dsimp only
        rw [lxs_in kn, hk2, show gi (si T 53 3 (nI k1)) 53 3 = nI k1 from tb_h, lx_ss, show nI k1 + 1 = nI (k1 + 1) from q_add k1 1]
        exact ch.trans hr
      have rS : ∀ q, Tp_goesOn S3 = some q → Nr_firstFault_L18 (1, nI it, S) = some (Sum.inl (q.1, nI (it + 1), q.2)) := fun q hq => by
        unfold Nr_firstFault_L18
        dsimp only
        rw [if_neg itn, if_neg (show ¬ (1 : Int32) = 0 by decide), rc, q_bind, hq, q_bind, i1]
      rcases hq with ⟨i', c1, c2, c3⟩ | ⟨p, c1, c2, c3, c4, c5⟩
      · obtain ⟨O3, D3, s3, t3, B3⟩ := c3 _ rfl
        generalize (if k = 0 then T1 else si T1 53 (20 + k) (nI (m k + 1))) = T3 at *
        have sS3 : SamS S S3 := (sS _).trans s3
        have sT3 : SamT T T3 := (sT _).trans t3
        have told : (if k = 0 then nI 1 else nI (m 0)) = nI ((fun j => if j = k then m k + 1 else m j) 0) := by
          show _ = nI (if 0 = k then m k + 1 else m 0)
          by_cases z : k = 0
          · subst z
            have : m 0 = 0 := by have hc' : m 0 < 1 := hc'; omega
            rw [if_pos rfl, if_pos rfl, this]
          · rw [if_neg z, if_neg (fun e => z e.symm)]
        have i'n := O3.2.2.2.2.2
        rcases nr_goes O3 c2 with ⟨x, y⟩ | ⟨x, y⟩ | ⟨x, x2, y⟩
        · have i'e : i' = n := by
            by_cases z : i' < n
            · rw [lxs_in z] at x
              exact absurd x fun e => (q_eqm (by have := hb i' z; omega)).mp e
            · omega
          subst i'e
          rcases nr_270 O3 c2 (if k = 0 then nI 1 else nI (m 0)) with ⟨u, -⟩ | ⟨-, u⟩
          · rw [x] at u; exact absurd u fun e => (q_meq (a := 59) (by omega)).mp e
          · exact ⟨0, _, T3, S3, rS _ y, rT _ u, sS3, sT3, B3, Or.inr (Or.inl ⟨rfl, _, O3, D3⟩)⟩
        · have i'e : i' < n := by
            by_cases z : i' < n
            · exact z
            · rw [lxs_out z] at x; exact absurd x fun e => (q_meq (a := 59) (by omega)).mp e
          rcases nr_270 O3 c2 (if k = 0 then nI 1 else nI (m 0)) with ⟨-, u⟩ | ⟨u, -⟩
          · obtain ⟨g1, g2, g3, g4⟩ := D3
            refine ⟨1, _, _, _, rS _ y, rT _ u, sS3.si rfl, sT3.si rfl, (O3.move (show i' + 1 ≤ n from i'e)).1, Or.inl ⟨rfl, i' + 1, (fun j => if j = k then m k + 1 else m j), by omega, O3.move i'e, ⟨fun k hk => ⟨(g1 k hk).1, (tb_n fun e => absurd e.1 (by decide)).trans (g1 k hk).2⟩, ⟨(tb_n fun e => absurd e.2 (by decide)).trans g2.1, (tb_n fun e => absurd e.2 (by decide)).trans g2.2.1, (tb_n fun e => absurd e.2 (by decide)).trans g2.2.2⟩, fun k hk e he s hs => (g3 k hk e he s hs).elim fun x hx => ⟨x, hx.1, hx.2.1, (tb_n fun e => absurd e.1 (by decide)).trans hx.2.2.1, (tb_n fun e => by omega).trans hx.2.2.2⟩, fun z s hs => (tb_n fun e => absurd e.1 (by decide)).trans (g4 z s hs)⟩, told⟩⟩
          · exact absurd x u
        · have i'e : i' < n := by
            by_cases z : i' < n
            · exact z
            · rw [lxs_out z] at x; exact absurd rfl x
          rcases nr_270 O3 c2 (if k = 0 then nI 1 else nI (m 0)) with ⟨u, -⟩ | ⟨-, u⟩
          · exact absurd u x2
          · refine ⟨0, _, T3, _, rS _ y, rT _ u, sS3.si rfl, sT3, ?_, Or.inr (Or.inr ⟨rfl, i', i'n, fun j hj => ⟨_, (D3.1 j hj).1, (tb_n fun e => absurd e.1 (by decide)).trans (D3.1 j hj).2⟩, tb_h, Or.inr ⟨O3.2.2.1, O3.2.2.2.2.1, c2, i'e⟩⟩)⟩
            obtain ⟨b1, b2, b3, b4, b5, b6⟩ := B3
            exact ⟨b1, b2, (tb_n fun e => absurd e.2 (by decide)).trans b3, fun i hi => (tb_n fun e => absurd e.1 (by decide)).trans (b4 i hi), b5, b6⟩
      · obtain ⟨t3, B3, c6⟩ := c5 _ rfl
        generalize (if k = 0 then T1 else si T1 53 (20 + k) (nI (m k + 1))) = T3 at *
        have y := nr_goesx (p := p) (by omega) c3
        rcases c6 with c6 | ⟨c6, c7, c8, c9, c10⟩
        · exact ⟨0, _, T3, S3, rS _ y, rT _ (nr_270x (p := p) (by omega) c6 _), (sS _).trans c4, (sT _).trans t3, B3, Or.inr (Or.inr ⟨rfl, p, c1, c2, c3, Or.inl c6⟩)⟩
        · exact ⟨0, _, T3, S3, rS _ y, rT _ (nr_270o B3 c6 c7 c8 c9 c10 _), (sS _).trans c4, (sT _).trans t3, B3, Or.inr (Or.inr ⟨rfl, p, c1, c2, c3, Or.inr ⟨c6, c7, c8, c9⟩⟩)⟩
  by_cases kn : k1 < n
  · have hbk := hb k1 kn
    have tk := t_kind (b k1) (by omega)
    have kd : ∀ r, Nr_kindOf (nI (b k1)) SmZ = r → Nr_kindOf (lxs n b k1) (si S 8 2 (nI k1)) = r := fun r hr => by rw [lxs_in kn]; exact hr
    have ne : ∀ c, c < 1000 → (lxs n b k1 = nI c ↔ b k1 = c) := fun c hc => by rw [lxs_in kn]; exact q_eq (by omega) (by omega)
    by_cases x0 : b k1 = 110
    · rw [if_pos x0] at tk
      exact cls 0 (by omega) kn x0 (kd _ tk) fun j hj ej => by
        have := (ne (kcN j) (by unfold kcN; split <;> omega)).mp ej
        rw [x0] at this
        have j4 : j = 0 ∨ j = 1 ∨ j = 2 ∨ j = 3 := by omega
        rcases j4 with rfl | rfl | rfl | rfl
        · rfl
        · exact absurd this (by decide)
        · exact absurd this (by decide)
        · exact absurd this (by decide)
    rw [if_neg x0] at tk
    by_cases x1 : b k1 = 116
    · rw [if_pos x1] at tk
      exact cls 1 (by omega) kn x1 (kd _ tk) fun j hj ej => by
        have := (ne (kcN j) (by unfold kcN; split <;> omega)).mp ej
        rw [x1] at this
        have j4 : j = 0 ∨ j = 1 ∨ j = 2 ∨ j = 3 := by omega
        rcases j4 with rfl | rfl | rfl | rfl
        · exact absurd this (by decide)
        · rfl
        · exact absurd this (by decide)
        · exact absurd this (by decide)
    rw [if_neg x1] at tk
    by_cases x2 : b k1 = 114
    · rw [if_pos x2] at tk
      exact cls 2 (by omega) kn x2 (kd _ tk) fun j hj ej => by
        have := (ne (kcN j) (by unfold kcN; split <;> omega)).mp ej
        rw [x2] at this
        have j4 : j = 0 ∨ j = 1 ∨ j = 2 ∨ j = 3 := by omega
        rcases j4 with rfl | rfl | rfl | rfl
        · exact absurd this (by decide)
        · exact absurd this (by decide)
        · rfl
        · exact absurd this (by decide)
    rw [if_neg x2] at tk
    by_cases x3 : b k1 = 103
    · rw [if_pos x3] at tk
      exact cls 3 (by omega) kn x3 (kd _ tk) fun j hj ej => by
        have := (ne (kcN j) (by unfold kcN; split <;> omega)).mp ej
        rw [x3] at this
        have j4 : j = 0 ∨ j = 1 ∨ j = 2 ∨ j = 3 := by omega
        rcases j4 with rfl | rfl | rfl | rfl
        · exact absurd this (by decide)
        · exact absurd this (by decide)
        · exact absurd this (by decide)
        · rfl
    rw [if_neg x3] at tk
    refine none_ (fun j hj ej => ?_) (failC (kd _ tk))
    have := (ne (kcN j) (by unfold kcN; split <;> omega)).mp ej
    have j4 : j = 0 ∨ j = 1 ∨ j = 2 ∨ j = 3 := by omega
    rcases j4 with rfl | rfl | rfl | rfl
    · exact absurd this x0
    · exact absurd this x1
    · exact absurd this x2
    · exact absurd this x3
  · have em := lxs_out (b := b) kn
    refine none_ (fun j hj ej => ?_) (failC (by rw [em]; exact t_kindm))
    rw [em] at ej
    exact absurd ej fun e => (q_meq (by unfold kcN; split <;> omega)).mp e
end NR
