/-! ===== fault and text ===== -/
section FT
variable {N K F R w : Nat} {U : List Nat} {X : List (List Cl)} {T S T' S' : Sm}
theorem RelP.draft {X' : List (List Cl)} (h : RelP N K F R U X w T S) (hS : ∀ i j, scS i j = false → i ≠ 21 → i ≠ 22 → ¬ (i = 20 ∧ j = 4) → ¬ (i = 8 ∧ j = 1) → S'.1 i j = S.1 i j) (hT : ∀ i j, scT i j = false → (i < 55 ∨ 61 < i) → ¬ (i = 53 ∧ j = 2) → ¬ (i = 53 ∧ j = 13) → T'.1 i j = T.1 i j) (h9' : TapR T' S') (h11' : LawsR X' T' S') : RelP N K F R U X' w T' S' := by
  obtain ⟨h1, h2, h3, h4, h5, h6, h7, h8, h9, h10, h11⟩ := h
  have s9 : S'.1 9 = S.1 9 := funext fun j => hS 9 j rfl (by decide) (by decide) (fun e => absurd e.1 (by decide)) (fun e => absurd e.1 (by decide))
  have s11 : S'.1 11 = S.1 11 := funext fun j => hS 11 j rfl (by decide) (by decide) (fun e => absurd e.1 (by decide)) (fun e => absurd e.1 (by decide))
  have s12 : S'.1 12 = S.1 12 := funext fun j => hS 12 j rfl (by decide) (by decide) (fun e => absurd e.1 (by decide)) (fun e => absurd e.1 (by decide))
  have s13 : S'.1 13 = S.1 13 := funext fun j => hS 13 j rfl (by decide) (by decide) (fun e => absurd e.1 (by decide)) (fun e => absurd e.1 (by decide))
  have s25 : S'.1 25 = S.1 25 := funext fun j => hS 25 j rfl (by decide) (by decide) (fun e => absurd e.1 (by decide)) (fun e => absurd e.1 (by decide))
  have s26 : S'.1 26 = S.1 26 := funext fun j => hS 26 j rfl (by decide) (by decide) (fun e => absurd e.1 (by decide)) (fun e => absurd e.1 (by decide))
  have s27 : S'.1 27 = S.1 27 := funext fun j => hS 27 j rfl (by decide) (by decide) (fun e => absurd e.1 (by decide)) (fun e => absurd e.1 (by decide))
  have s28 : S'.1 28 = S.1 28 := funext fun j => hS 28 j rfl (by decide) (by decide) (fun e => absurd e.1 (by decide)) (fun e => absurd e.1 (by decide))
  have s29 : S'.1 29 = S.1 29 := funext fun j => hS 29 j rfl (by decide) (by decide) (fun e => absurd e.1 (by decide)) (fun e => absurd e.1 (by decide))
  have s30 : S'.1 30 = S.1 30 := funext fun j => hS 30 j rfl (by decide) (by decide) (fun e => absurd e.1 (by decide)) (fun e => absurd e.1 (by decide))
  have s31 : S'.1 31 = S.1 31 := funext fun j => hS 31 j rfl (by decide) (by decide) (fun e => absurd e.1 (by decide)) (fun e => absurd e.1 (by decide))
  have s32 : S'.1 32 = S.1 32 := funext fun j => hS 32 j rfl (by decide) (by decide) (fun e => absurd e.1 (by decide)) (fun e => absurd e.1 (by decide))
  have s33 : S'.1 33 = S.1 33 := funext fun j => hS 33 j rfl (by decide) (by decide) (fun e => absurd e.1 (by decide)) (fun e => absurd e.1 (by decide))
  have s34 : S'.1 34 = S.1 34 := funext fun j => hS 34 j rfl (by decide) (by decide) (fun e => absurd e.1 (by decide)) (fun e => absurd e.1 (by decide))
  have s35 : S'.1 35 = S.1 35 := funext fun j => hS 35 j rfl (by decide) (by decide) (fun e => absurd e.1 (by decide)) (fun e => absurd e.1 (by decide))
  have s36 : S'.1 36 = S.1 36 := funext fun j => hS 36 j rfl (by decide) (by decide) (fun e => absurd e.1 (by decide)) (fun e => absurd e.1 (by decide))
  have s43 : S'.1 43 = S.1 43 := funext fun j => hS 43 j rfl (by decide) (by decide) (fun e => absurd e.1 (by decide)) (fun e => absurd e.1 (by decide))
  have sbig : ∀ b, 91 ≤ b → S'.1 b = S.1 b := fun b hb => funext fun j => hS b j (by
    have ne : ∀ k, k ≤ 90 → (b == k) = false := fun k hk => by rw [beq_eq_false_iff_ne]; omega
    unfold scS
    rw [ne 8 (by omega), ne 14 (by omega), ne 15 (by omega), ne 16 (by omega), ne 17 (by omega), ne 19 (by omega), ne 23 (by omega), ne 20 (by omega), ne 38 (by omega), ne 39 (by omega), ne 41 (by omega), ne 44 (by omega), ne 45 (by omega), ne 46 (by omega), ne 42 (by omega), ne 48 (by omega), ne 49 (by omega), ne 50 (by omega), ne 51 (by omega), ne 52 (by omega), ne 47 (by omega), ne 90 (by omega)]
    rfl) (by omega) (by omega) (by omega) (by omega)
  have t54 : T'.1 54 = T.1 54 := funext fun j => hT 54 j rfl (by decide) (fun e => absurd e.1 (by decide)) (fun e => absurd e.1 (by decide))
  have t68 : T'.1 68 = T.1 68 := funext fun j => hT 68 j rfl (by decide) (fun e => absurd e.1 (by decide)) (fun e => absurd e.1 (by decide))
  have t69 : T'.1 69 = T.1 69 := funext fun j => hT 69 j rfl (by decide) (fun e => absurd e.1 (by decide)) (fun e => absurd e.1 (by decide))
  have t70 : T'.1 70 = T.1 70 := funext fun j => hT 70 j rfl (by decide) (fun e => absurd e.1 (by decide)) (fun e => absurd e.1 (by decide))
  have t71 : T'.1 71 = T.1 71 := funext fun j => hT 71 j rfl (by decide) (fun e => absurd e.1 (by decide)) (fun e => absurd e.1 (by decide))
  have t72 : T'.1 72 = T.1 72 := funext fun j => hT 72 j rfl (by decide) (fun e => absurd e.1 (by decide)) (fun e => absurd e.1 (by decide))
  have t73 : T'.1 73 = T.1 73 := funext fun j => hT 73 j rfl (by decide) (fun e => absurd e.1 (by decide)) (fun e => absurd e.1 (by decide))
  have t81 : T'.1 81 = T.1 81 := funext fun j => hT 81 j rfl (by decide) (fun e => absurd e.1 (by decide)) (fun e => absurd e.1 (by decide))
  have t82 : T'.1 82 = T.1 82 := funext fun j => hT 82 j rfl (by decide) (fun e => absurd e.1 (by decide)) (fun e => absurd e.1 (by decide))
  have t83 : T'.1 83 = T.1 83 := funext fun j => hT 83 j rfl (by decide) (fun e => absurd e.1 (by decide)) (fun e => absurd e.1 (by decide))
  have t84 : T'.1 84 = T.1 84 := funext fun j => hT 84 j rfl (by decide) (fun e => absurd e.1 (by decide)) (fun e => absurd e.1 (by decide))
  have t89 : T'.1 89 = T.1 89 := funext fun j => hT 89 j rfl (by decide) (fun e => absurd e.1 (by decide)) (fun e => absurd e.1 (by decide))
  have f26 : T'.1 53 26 = T.1 53 26 := hT 53 26 rfl (by decide) (by decide) (by decide)
  have f30 : T'.1 53 30 = T.1 53 30 := hT 53 30 rfl (by decide) (by decide) (by decide)
  have f31 : T'.1 53 31 = T.1 53 31 := hT 53 31 rfl (by decide) (by decide) (by decide)
  have f32 : T'.1 53 32 = T.1 53 32 := hT 53 32 rfl (by decide) (by decide) (by decide)
  have f34 : T'.1 53 34 = T.1 53 34 := hT 53 34 rfl (by decide) (by decide) (by decide)
  have f49 : T'.1 53 49 = T.1 53 49 := hT 53 49 rfl (by decide) (by decide) (by decide)
  have f57 : T'.1 53 57 = T.1 53 57 := hT 53 57 rfl (by decide) (by decide) (by decide)
  have g205 : S'.1 20 5 = S.1 20 5 := hS 20 5 rfl (by decide) (by decide) (by decide) (by decide)
  have g426 : S'.1 42 6 = S.1 42 6 := hS 42 6 rfl (by decide) (by decide) (by decide) (by decide)
  have g405 : S'.1 40 5 = S.1 40 5 := hS 40 5 rfl (by decide) (by decide) (by decide) (by decide)
  refine ⟨?_, ?_, ?_, ?_, ?_, ?_, ?_, ?_, ?_, ?_, ?_⟩
  · simp only [NetR, gi, s11, t68] at h1 ⊢; exact h1
  · simp only [TldR, gi, s11, s12, t69, f26] at h2 ⊢; exact h2
  · simp only [UnkR, gi, s11, s12, t71, t72, f30] at h3 ⊢; exact h3
  · rw [s13, s25, s26, s27, s28, s29, t70]; exact h4
  · simp only [RngR, RingOK, gNs, gi, s31] at h5 ⊢; exact h5
  · obtain ⟨a, x, b1, b2, b3, b4, b5, b6⟩ := h6
    refine ⟨a, x, b1, b2, ?_, ?_, ?_, fun j hj => ?_⟩
    · simp only [gi, f34] at b3 ⊢; exact b3
    · simp only [gi, s30] at b4 ⊢; exact b4
    · simp only [gi, s30] at b5 ⊢; exact b5
    · obtain ⟨c1, c2⟩ := b6 j hj
      have e31 : ∀ k, gi S' 31 k = gi S 31 k := fun k => congrFun s31 k
      have hsl : slot x a j < 40 := Nat.mod_lt _ (by omega)
      have hb := (h5.1.2.2 _ hsl c1).1
      rw [e31]
      refine ⟨c1, ?_⟩
      clear c1 b6
      generalize ix (gi S 31 (slot x a j)) = b at c2 hb ⊢
      unfold MoK at c2 ⊢
      rw [sbig (b + 1) (by omega), sbig (b + 2) (by omega), sbig (b + 3) (by omega), sbig (b + 4) (by omega), sbig b hb, s13]
      simp only [gi, t73] at c2 ⊢
      exact c2
  · simp only [ImgR, gi, s30, s13, s33, s34, s35, s36, s32, t89, f57] at h7 ⊢; exact h7
  · simp only [StrR, gi, s43, t81, t82, t83, t84, f49, g426] at h8 ⊢; exact h8
  · exact h9'
  · simp only [FogR, gi, f32, g405] at h10 ⊢; exact h10
  · exact h11'
theorem LxB.tap {n : Nat} {b : Nat → Nat} (h : LxB n b T S) : TapR T S := by
  obtain ⟨a, c, d, e, f, g⟩ := h
  exact ⟨n, a, f, d, fun i hi => ⟨b i, (c i hi).1, (c i hi).2, e i hi, g i hi⟩⟩
/-- the laws that were there before a draft -/
theorem law_kept {L v i : Nat} {l : List Cl} (hS : SmL L S S') (hT : TmL v T T') (hL : i < L) (hv : i < v) (h : LawC l i S ∧ LawT l i T ∧ ∀ q, q ∈ l → clOK q) : LawC l i S' ∧ LawT l i T' ∧ ∀ q, q ∈ l → clOK q := by
  obtain ⟨⟨a1, a2, a3⟩, ⟨b1, b2, b3, b4, b5⟩, c⟩ := h
  have u22 : gi S' 22 i = gi S 22 i := hS 22 i rfl (fun e => absurd e.1 (by decide)) (fun e => by omega)
  have u21 : ∀ j, j < 240 → gi S' 21 (240 * i + j) = gi S 21 (240 * i + j) := fun j hj => hS 21 _ rfl (fun e => by omega) (fun e => absurd e.1 (by decide))
  have t58 : gi T' 58 i = gi T 58 i := hT 58 i rfl (fun e => by omega) (by decide) (fun e => by omega) (fun e => by omega)
  have t5 : ∀ r j, (r = 55 ∨ r = 56) → j < 520 → gi T' r (520 * i + j) = gi T r (520 * i + j) := fun r j hr hj => hT r _ (by rcases hr with rfl | rfl <;> rfl) (fun e => by omega) (by omega) (fun e => by omega) (fun e => by omega)
  have t6 : ∀ r j, (r = 59 ∨ r = 60 ∨ r = 61) → j < 140 → gi T' r (140 * i + j) = gi T r (140 * i + j) := fun r j hr hj => hT r _ (by rcases hr with rfl | rfl | rfl <;> rfl) (fun e => by omega) (by omega) (fun e => by omega) (fun e => by omega)
  refine ⟨⟨a1, u22.trans a2, fun j x hj => ?_⟩, ⟨b1, b2, t58.trans b3, fun j x hj => ?_, fun k q hk => ?_⟩, c⟩
  · have := (List.getElem?_eq_some_iff.mp hj).1
    exact (u21 j (by omega)).trans (a3 j x hj)
  · have := (List.getElem?_eq_some_iff.mp hj).1
    exact ⟨(t5 55 j (Or.inl rfl) (by omega)).trans (b4 j x hj).1, (t5 56 j (Or.inr rfl) (by omega)).trans (b4 j x hj).2⟩
  · have := (List.getElem?_eq_some_iff.mp hk).1
    obtain ⟨d1, d2, d3⟩ := b5 k q hk
    exact ⟨(t6 59 k (Or.inl rfl) (by omega)).trans d1, (t6 60 k (Or.inr (Or.inl rfl)) (by omega)).trans d2, (t6 61 k (Or.inr (Or.inr rfl)) (by omega)).trans d3⟩
theorem laws_kept {L v : Nat} (h : LawsR X T S) (hS : SmL L S S') (hT : TmL v T T') (hL : X.length ≤ L) (hv : X.length ≤ v) : LawsR X T' S' := by
  obtain ⟨x1, x2, x3, x4, x5, x6⟩ := h
  have e4 : gi S' 20 4 = gi S 20 4 := hS 20 4 rfl (by omega) (by omega)
  have e5 : gi S' 20 5 = gi S 20 5 := hS 20 5 rfl (by omega) (by omega)
  have e13 : gi T' 53 13 = gi T 53 13 := hT 53 13 rfl (by omega) (by decide) (by omega) (by omega)
  have e31 : gi T' 53 31 = gi T 53 31 := hT 53 31 rfl (by omega) (by decide) (by omega) (by omega)
  exact ⟨x1, e13.trans x2, e4.trans x3, e31.trans (x4.trans e5.symm), by rw [e5]; exact x5, fun i l hi => law_kept hS hT (by have := (List.getElem?_eq_some_iff.mp hi).1; omega) (by have := (List.getElem?_eq_some_iff.mp hi).1; omega) (x6 i l hi)⟩
theorem law_draft {L v n : Nat} {b : Nat → Nat} (h : RelP N K F R U X w T S) (hS : SmL L S S') (hT : TmL v T T') (hL : X.length ≤ L) (hv : X.length ≤ v) (hB : LxB n b T' S') : RelP N K F R U X w T' S' :=
  h.draft (fun i j a c d _ _ => hS i j a (fun e => c e.1) (fun e => d e.1)) (fun i j a c _ _ => hT i j a (fun e => by omega) (by omega) (fun e => by omega) (fun e => by omega)) hB.tap (laws_kept h.2.2.2.2.2.2.2.2.2.2 hS hT hL hv)
theorem SmL.r31 {L : Nat} (h : SmL L S S') : S'.1 31 = S.1 31 := funext fun j => h 31 j rfl (fun e => absurd e.1 (by decide)) (fun e => absurd e.1 (by decide))
theorem op_fault (h : RelP N K F R U X w T S) (x : Int32) : ∃ q p, Dk_fault x S = some q ∧ Md_fault x T = some p ∧ q.1 = p.1 ∧ q.2.1 31 = S.1 31 ∧ RelP N K F R U X w p.2 q.2 := by
  obtain ⟨n, b, hB⟩ := lx_of h.2.2.2.2.2.2.2.2.1
  unfold Dk_fault Dk_fault_29 Md_fault Md_fault_26
  by_cases c0 : x = 0
  · obtain ⟨r, T1, S1, e1, e2, e3, e4, -⟩ := np_all hB
    rw [if_pos c0, if_pos c0, e1, e2, q_bind, q_bind]
    exact ⟨_, _, rfl, rfl, rfl, funext fun j => e3 31 j rfl, h.same e3 e4⟩
  · rw [if_neg c0, if_neg c0]
    by_cases c1 : x = 1
    · have hX := h.2.2.2.2.2.2.2.2.2.2
      obtain ⟨r, T1, S1, e1, e2, e3, e4, e5, e6, -⟩ := lp_law (L := X.length) (v := 4) hB hX.1 (by omega) hX.2.2.1
      have e2 : Md_readLaw 4 T = some (r, T1) := e2
      rw [if_pos c1, if_pos c1, e1, e2, q_bind, q_bind]
      exact ⟨_, _, rfl, rfl, rfl, e3.r31, law_draft h e3 e4 (Nat.le_refl _) hX.1 e6⟩
    · rw [if_neg c1, if_neg c1]
      exact ⟨_, _, rfl, rfl, rfl, rfl, h⟩
theorem op_text (h : RelP N K F R U X w T S) (x : Int32) : ∃ q p, Dk_text x S = some q ∧ Md_text x T = some p ∧ q.1 = p.1 ∧ q.2.1 31 = S.1 31 ∧ ∃ N' K' F' R' U' X', RelP N' K' F' R' U' X' w p.2 q.2 := by
  obtain ⟨n, b, hB⟩ := lx_of h.2.2.2.2.2.2.2.2.1
  unfold Dk_text Md_text
  by_cases c0 : x = 0
  · subst c0
    obtain ⟨r, T1, S1, e1, e2, e3, e4, e5⟩ := np_all hB
    rw [if_pos rfl, if_pos rfl, e1, e2, q_bind, q_bind]
    dsimp only
    rcases e5 with ⟨rfl, m, m1, m2, m3⟩ | ⟨p, p1, rfl⟩
    · obtain ⟨S7, T7, g1, g2, g3, N', K', F', R', U', g4⟩ := net_begins h e3 e4 m2 m1 m3
      rw [if_pos (show mI = -1 from rfl), if_pos (show mI = -1 from rfl), g1, g2, q_bind]
      exact ⟨_, _, rfl, rfl, rfl, g3, N', K', F', R', U', X, g4⟩
    · have := hB.1
      rw [if_neg (show ¬ nI p = -1 from fun z => (q_eqm (by omega)).mp z), if_neg (show ¬ nI p = -1 from fun z => (q_eqm (by omega)).mp z)]
      exact ⟨(-1, S1), (-1, T1), rfl, rfl, rfl, funext fun j => e3 31 j rfl, N, K, F, R, U, X, h.same e3 e4⟩
  · rw [if_neg c0, if_neg c0]
    unfold Dk_text_68 Md_text_22
    by_cases c1 : x = 1
    · have hX := h.2.2.2.2.2.2.2.2.2.2
      obtain ⟨x1, x2, x3, x4, x5, x6⟩ := hX
      rw [if_pos c1, if_pos c1, x2]
      unfold La_areFull La_areFull_13
      rw [x3]
      by_cases c4 : X.length < 4
      · obtain ⟨r, T1, S1, e1, e2, e3, e4, e5, e6, e7⟩ := lp_law (L := X.length) (v := X.length) hB x1 x1 x3
        have R1 := law_draft h e3 e4 (Nat.le_refl _) (Nat.le_refl _) e6
        rw [if_pos (show nI X.length < 4 from (q_lt (b := 4) (by omega) (by omega)).mpr c4), if_pos (show (0 : Int32) &&& 1 = 0 by decide), if_neg (show ¬ (4 : Int32) ≤ nI X.length from fun z => by have := (q_le (a := 4) (by omega) (by omega)).mp z; omega), e1, e2, q_bind, q_bind]
        dsimp only
        rcases e7 with ⟨rfl, l, l1, l2, l3⟩ | ⟨p, p1, rfl⟩
        · have k1 := laws_kept ⟨x1, x2, x3, x4, x5, x6⟩ e3 e4 (Nat.le_refl _) (Nat.le_refl _)
          obtain ⟨y1, y2, y3, y4, y5, y6⟩ := k1
          have ct : Tp_cut 0 S1 = (1, si S1 8 1 0) := by
            unfold Tp_cut
            rw [if_neg (show ¬ (0 : Int32) < 0 by decide), e6.2.2.1, if_pos (show (0 : Int32) ≤ nI n from nI_le (a := 0) (Nat.zero_le _) (by have := e6.1; omega))]
          have a1 : gi (si S1 8 1 0) 20 4 = nI X.length := (tb_n fun e => absurd e.1 (by decide)).trans y3
          have a2 : gi (si T1 53 2 0) 53 13 = nI X.length := (tb_n fun e => absurd e.2 (by decide)).trans y2
          have a3 : nI X.length + 1 = nI (X.length + 1) := q_add X.length 1
          rw [if_pos (show mI = -1 from rfl), if_pos (show mI = -1 from rfl), ct, q_app, q_app]
          unfold La_keepDraft
          rw [a1, a2, a3]
          refine ⟨_, _, rfl, rfl, ?_, ?_, N, K, F, R, U, X ++ [l], h.draft (fun i j a c d e f => ?_) (fun i j a c d e => ?_) ⟨0, by omega, (tb_n fun e => absurd e.2 (by decide)).trans tb_h, (tb_n fun e => absurd e.1 (by decide)).trans tb_h, fun i hi => absurd hi (by omega)⟩ ?_⟩
          · show gi (si (si S1 8 1 0) 20 4 (nI (X.length + 1))) 20 4 - 1 = gi (si (si T1 53 2 0) 53 13 (nI (X.length + 1))) 53 13 - 1
            rw [tb_h, tb_h]
          · exact (si_row (by omega)).trans ((si_row (by omega)).trans e3.r31)
          · exact (tb_n fun z => e z).trans ((tb_n fun z => f z).trans (e3 i j a (fun z => c z.1) (fun z => d z.1)))
          · exact (tb_n fun z => e z).trans ((tb_n fun z => d z).trans (e4 i j a (fun z => by omega) (by omega) (fun z => by omega) (fun z => by omega)))
          · have oS : ∀ i j, ¬ (i = 8 ∧ j = 1) → ¬ (i = 20 ∧ j = 4) → gi (si (si S1 8 1 0) 20 4 (nI (X.length + 1))) i j = gi S1 i j := fun i j a c => (tb_n c).trans (tb_n a)
            have oT : ∀ i j, ¬ (i = 53 ∧ j = 2) → ¬ (i = 53 ∧ j = 13) → gi (si (si T1 53 2 0) 53 13 (nI (X.length + 1))) i j = gi T1 i j := fun i j a c => (tb_n c).trans (tb_n a)
            have all : ∀ i l, (LawC l i S1 ∧ LawT l i T1 ∧ ∀ q, q ∈ l → clOK q) → LawC l i (si (si S1 8 1 0) 20 4 (nI (X.length + 1))) ∧ LawT l i (si (si T1 53 2 0) 53 13 (nI (X.length + 1))) ∧ ∀ q, q ∈ l → clOK q := fun i l ⟨⟨b1, b2, b3⟩, ⟨c1, c2, c3, c4, c5⟩, d⟩ =>
              ⟨⟨b1, (oS _ _ (fun e => absurd e.1 (by decide)) (fun e => absurd e.1 (by decide))).trans b2, fun j x hj => (oS _ _ (fun e => absurd e.1 (by decide)) (fun e => absurd e.1 (by decide))).trans (b3 j x hj)⟩, ⟨c1, c2, (oT _ _ (fun e => absurd e.1 (by decide)) (fun e => absurd e.1 (by decide))).trans c3, fun j x hj => ⟨(oT _ _ (fun e => absurd e.1 (by decide)) (fun e => absurd e.1 (by decide))).trans (c4 j x hj).1, (oT _ _ (fun e => absurd e.1 (by decide)) (fun e => absurd e.1 (by decide))).trans (c4 j x hj).2⟩, fun k q hk => ⟨(oT _ _ (fun e => absurd e.1 (by decide)) (fun e => absurd e.1 (by decide))).trans (c5 k q hk).1, (oT _ _ (fun e => absurd e.1 (by decide)) (fun e => absurd e.1 (by decide))).trans (c5 k q hk).2.1, (oT _ _ (fun e => absurd e.1 (by decide)) (fun e => absurd e.1 (by decide))).trans (c5 k q hk).2.2⟩⟩, d⟩
            have len : (X ++ [l]).length = X.length + 1 := by rw [List.length_append]; rfl
            refine ⟨by omega, ?_, ?_, ?_, ?_, fun i l' hi => all i l' ?_⟩
            · rw [len]; exact tb_h
            · rw [len]; exact tb_h
            · exact (oT 53 31 (by decide) (by decide)).trans (y4.trans (oS 20 5 (by decide) (by decide)).symm)
            · rw [oS 20 5 (by decide) (by decide), len]
              exact y5.imp id fun ⟨k, k1, k2⟩ => ⟨k, by omega, k2⟩
            · by_cases z : i < X.length
              · rw [List.getElem?_append_left z] at hi
                exact y6 i l' hi
              · rw [List.getElem?_append_right (by omega)] at hi
                by_cases z2 : i = X.length
                · subst z2
                  rw [Nat.sub_self] at hi
                  have hi : l = l' := Option.some.inj hi
                  subst hi
                  exact ⟨l1, l2, l3⟩
                · obtain ⟨y, hy⟩ : ∃ y, i - X.length = y + 1 := ⟨i - X.length - 1, by omega⟩
                  rw [hy] at hi; cases hi
        · have := hB.1
          rw [if_neg (show ¬ nI p = -1 from fun z => (q_eqm (by omega)).mp z), if_neg (show ¬ nI p = -1 from fun z => (q_eqm (by omega)).mp z)]
          exact ⟨(-1, S1), (-1, T1), rfl, rfl, rfl, e3.r31, N, K, F, R, U, X, R1⟩
      · rw [if_neg (show ¬ nI X.length < 4 from fun z => c4 ((q_lt (b := 4) (by omega) (by omega)).mp z)), if_neg (show ¬ (1 : Int32) &&& 1 = 0 by decide), if_pos (show (4 : Int32) ≤ nI X.length from nI_le (a := 4) (by omega) (by omega))]
        exact ⟨(-1, S), (-1, T), rfl, rfl, rfl, rfl, N, K, F, R, U, X, h⟩
    · rw [if_neg c1, if_neg c1]
      exact ⟨(-1, S), (-1, T), rfl, rfl, rfl, rfl, N, K, F, R, U, X, h⟩
end FT
