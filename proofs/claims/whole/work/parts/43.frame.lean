/-! ===== what a reading leaves ===== -/
section FR
variable {N K F R w : Nat} {U : List Nat} {X : List (List Cl)} {T S T' S' : Sm}
theorem RelP.same (h : RelP N K F R U X w T S) (hS : SamS S S') (hT : SamT T T') : RelP N K F R U X w T' S' := by
  obtain ⟨h1, h2, h3, h4, h5, h6, h7, h8, h9, h10, h11⟩ := h
  have s9 : S'.1 9 = S.1 9 := hS.row 9 fun _ => rfl
  have s11 : S'.1 11 = S.1 11 := hS.row 11 fun _ => rfl
  have s12 : S'.1 12 = S.1 12 := hS.row 12 fun _ => rfl
  have s13 : S'.1 13 = S.1 13 := hS.row 13 fun _ => rfl
  have s21 : S'.1 21 = S.1 21 := hS.row 21 fun _ => rfl
  have s22 : S'.1 22 = S.1 22 := hS.row 22 fun _ => rfl
  have s25 : S'.1 25 = S.1 25 := hS.row 25 fun _ => rfl
  have s26 : S'.1 26 = S.1 26 := hS.row 26 fun _ => rfl
  have s27 : S'.1 27 = S.1 27 := hS.row 27 fun _ => rfl
  have s28 : S'.1 28 = S.1 28 := hS.row 28 fun _ => rfl
  have s29 : S'.1 29 = S.1 29 := hS.row 29 fun _ => rfl
  have s30 : S'.1 30 = S.1 30 := hS.row 30 fun _ => rfl
  have s31 : S'.1 31 = S.1 31 := hS.row 31 fun _ => rfl
  have s32 : S'.1 32 = S.1 32 := hS.row 32 fun _ => rfl
  have s33 : S'.1 33 = S.1 33 := hS.row 33 fun _ => rfl
  have s34 : S'.1 34 = S.1 34 := hS.row 34 fun _ => rfl
  have s35 : S'.1 35 = S.1 35 := hS.row 35 fun _ => rfl
  have s36 : S'.1 36 = S.1 36 := hS.row 36 fun _ => rfl
  have s43 : S'.1 43 = S.1 43 := hS.row 43 fun _ => rfl
  have sbig : ∀ b, 91 ≤ b → S'.1 b = S.1 b := fun b hb => funext fun j => hS b j (by
    have ne : ∀ k, k ≤ 90 → (b == k) = false := fun k hk => by rw [beq_eq_false_iff_ne]; omega
    unfold scS
    rw [ne 8 (by omega), ne 14 (by omega), ne 15 (by omega), ne 16 (by omega), ne 17 (by omega), ne 19 (by omega), ne 23 (by omega), ne 20 (by omega), ne 38 (by omega), ne 39 (by omega), ne 41 (by omega), ne 44 (by omega), ne 45 (by omega), ne 46 (by omega), ne 42 (by omega), ne 48 (by omega), ne 49 (by omega), ne 50 (by omega), ne 51 (by omega), ne 52 (by omega), ne 47 (by omega), ne 90 (by omega)]
    rfl)
  have t54 : T'.1 54 = T.1 54 := hT.row 54 fun _ => rfl
  have t55 : T'.1 55 = T.1 55 := hT.row 55 fun _ => rfl
  have t56 : T'.1 56 = T.1 56 := hT.row 56 fun _ => rfl
  have t58 : T'.1 58 = T.1 58 := hT.row 58 fun _ => rfl
  have t59 : T'.1 59 = T.1 59 := hT.row 59 fun _ => rfl
  have t60 : T'.1 60 = T.1 60 := hT.row 60 fun _ => rfl
  have t61 : T'.1 61 = T.1 61 := hT.row 61 fun _ => rfl
  have t68 : T'.1 68 = T.1 68 := hT.row 68 fun _ => rfl
  have t69 : T'.1 69 = T.1 69 := hT.row 69 fun _ => rfl
  have t70 : T'.1 70 = T.1 70 := hT.row 70 fun _ => rfl
  have t71 : T'.1 71 = T.1 71 := hT.row 71 fun _ => rfl
  have t72 : T'.1 72 = T.1 72 := hT.row 72 fun _ => rfl
  have t73 : T'.1 73 = T.1 73 := hT.row 73 fun _ => rfl
  have t81 : T'.1 81 = T.1 81 := hT.row 81 fun _ => rfl
  have t82 : T'.1 82 = T.1 82 := hT.row 82 fun _ => rfl
  have t83 : T'.1 83 = T.1 83 := hT.row 83 fun _ => rfl
  have t84 : T'.1 84 = T.1 84 := hT.row 84 fun _ => rfl
  have t89 : T'.1 89 = T.1 89 := hT.row 89 fun _ => rfl
  have f2 : T'.1 53 2 = T.1 53 2 := hT 53 2 rfl
  have f13 : T'.1 53 13 = T.1 53 13 := hT 53 13 rfl
  have f26 : T'.1 53 26 = T.1 53 26 := hT 53 26 rfl
  have f30 : T'.1 53 30 = T.1 53 30 := hT 53 30 rfl
  have f31 : T'.1 53 31 = T.1 53 31 := hT 53 31 rfl
  have f32 : T'.1 53 32 = T.1 53 32 := hT 53 32 rfl
  have f34 : T'.1 53 34 = T.1 53 34 := hT 53 34 rfl
  have f49 : T'.1 53 49 = T.1 53 49 := hT 53 49 rfl
  have f57 : T'.1 53 57 = T.1 53 57 := hT 53 57 rfl
  have g81 : S'.1 8 1 = S.1 8 1 := hS 8 1 rfl
  have g204 : S'.1 20 4 = S.1 20 4 := hS 20 4 rfl
  have g205 : S'.1 20 5 = S.1 20 5 := hS 20 5 rfl
  have g426 : S'.1 42 6 = S.1 42 6 := hS 42 6 rfl
  have g405 : S'.1 40 5 = S.1 40 5 := hS 40 5 rfl
  refine ⟨?_, ?_, ?_, ?_, ?_, ?_, ?_, ?_, ?_, ?_, ?_⟩
  · simp only [NetR, gi, s11, t68] at h1 ⊢; exact h1
  · simp only [TldR, gi, s11, s12, t69, f26] at h2 ⊢; exact h2
  · simp only [UnkR, gi, s11, s12, t71, t72, f30] at h3 ⊢; exact h3
  · rw [s13, s25, s26, s27, s28, s29, t70]; exact h4
  · simp only [RngR, RingOK, gNs, gi, s31] at h5 ⊢; exact h5
  · obtain ⟨a, x, b1, b2, b3, b4, b5, b6⟩ := h6
    refine ⟨a, x, b1, b2, ?_, ?_, ?_, fun j hj => ?_⟩
    · simp only [gi, f34] at b3 ⊢; exact b3
    · simp only [gi, s30] at b4 ⊢; exact b4
    · simp only [gi, s30] at b5 ⊢; exact b5
    · obtain ⟨c1, c2⟩ := b6 j hj
      have e31 : ∀ k, gi S' 31 k = gi S 31 k := fun k => congrFun s31 k
      have hsl : slot x a j < 40 := Nat.mod_lt _ (by omega)
      have hb := (h5.1.2.2 _ hsl c1).1
      rw [e31]
      refine ⟨c1, ?_⟩
      clear c1 b6
      generalize ix (gi S 31 (slot x a j)) = b at c2 hb ⊢
      unfold MoK at c2 ⊢
      rw [sbig (b + 1) (by omega), sbig (b + 2) (by omega), sbig (b + 3) (by omega), sbig (b + 4) (by omega), sbig b hb, s13]
      simp only [gi, t73] at c2 ⊢
      exact c2
  · simp only [ImgR, gi, s30, s13, s33, s34, s35, s36, s32, t89, f57] at h7 ⊢; exact h7
  · simp only [StrR, gi, s43, t81, t82, t83, t84, f49, g426] at h8 ⊢; exact h8
  · simp only [TapR, gi, s9, t54, f2, g81] at h9 ⊢; exact h9
  · simp only [FogR, gi, f32, g405] at h10 ⊢; exact h10
  · simp only [LawsR, LawC, LawT, gi, s21, s22, t55, t56, t58, t59, t60, t61, f13, f31, g204, g205] at h11 ⊢; exact h11
end FR
/-! walks to a place: by which nodes one may come, at what cost -/
def Wlk (K : Nat) (L : Nat → Nat → Nat) (C : Nat → Nat → Nat) (s : Nat) (to : Nat) (Z : Nat → Prop) : Nat → Nat → Nat → Prop
  | 0, m, c => m = to ∧ c = 0
  | k + 1, m, c => ∃ o d, o < K ∧ s.testBit o = true ∧ (L m o = to ∨ ¬ Z (L m o)) ∧ Wlk K L C s to Z k (L m o) d ∧ c = C m o + d
section WK
variable {N K : Nat} {L C : Nat → Nat → Nat} {s to : Nat} {Z Z' : Nat → Prop}
theorem wlk_x (hL : ∀ m o, m < N → o < K → L m o < N) : ∀ k m c, m < N → Wlk K L C s to Z k m c → ∃ x d : Nat → Nat, d 0 = c ∧ (∀ i, i ≤ k → x i < N ∧ Wlk K L C s to Z (k - i) (x i) (d i) ∧ ∀ t e, e ≤ d i → Wlk K L C s to Z t (x i) e → ∃ g, g ≤ c ∧ Wlk K L C s to Z (i + t) m g) ∧ ∀ i j, i ≤ j → j ≤ k → d j ≤ d i
  | 0, m, c, hm, h => ⟨fun _ => m, fun _ => c, rfl, fun i hi => by
      have : i = 0 := by omega
      subst this
      exact ⟨hm, h, fun t e he hw => ⟨e, he, by rw [Nat.zero_add]; exact hw⟩⟩, fun i j _ _ => Nat.le_refl _⟩
  | k + 1, m, c, hm, h => by
    have hh := h
    obtain ⟨o, d0, ho, hs, hz, hw, hc⟩ := h
    obtain ⟨x, d, h0, h1, h2⟩ := wlk_x hL k (L m o) d0 (hL m o hm ho) hw
    refine ⟨fun i => match i with | 0 => m | i + 1 => x i, fun i => match i with | 0 => c | i + 1 => d i, rfl, fun i hi => ?_, fun i j hij hj => ?_⟩
    · match i, hi with
      | 0, _ => exact ⟨hm, hh, fun t e he hw => ⟨e, he, by rw [Nat.zero_add]; exact hw⟩⟩
      | i + 1, hi =>
        obtain ⟨a1, a2, a3⟩ := h1 i (by omega)
        refine ⟨a1, ?_, fun t e he hw => ?_⟩
        · rw [show k + 1 - (i + 1) = k - i by omega]; exact a2
        · obtain ⟨g, g1, g2⟩ := a3 t e he hw
          refine ⟨C m o + g, by omega, ?_⟩
          rw [show i + 1 + t = i + t + 1 by omega]
          exact ⟨o, g, ho, hs, hz, g2, rfl⟩
    · match i, j, hij, hj with
      | 0, 0, _, _ => exact Nat.le_refl _
      | 0, j + 1, _, hj =>
        have := h2 0 j (Nat.zero_le _) (by omega)
        show d j ≤ c
        omega
      | i + 1, 0, hij, _ => exact absurd hij (by omega)
      | i + 1, j + 1, hij, hj => exact h2 i j (by omega) (by omega)
/-- a walk no longer than there are nodes -/
theorem wlk_short (hL : ∀ m o, m < N → o < K → L m o < N) (k : Nat) : ∀ m c, m < N → Wlk K L C s to Z k m c → ∃ k' c', k' < N ∧ c' ≤ c ∧ Wlk K L C s to Z k' m c' := by
  induction k using Nat.strongRecOn with
  | ind k ih =>
    intro m c hm h
    by_cases q : k < N
    · exact ⟨k, c, q, Nat.le_refl _, h⟩
    · obtain ⟨x, d, h0, h1, h2⟩ := wlk_x hL k m c hm h
      obtain ⟨i, j, hij, hj, he⟩ := php N x (fun i hi => (h1 i (by omega)).1)
      obtain ⟨b1, b2, b3⟩ := h1 j (by omega)
      obtain ⟨a1, a2, a3⟩ := h1 i (by omega)
      rw [← he] at b2
      obtain ⟨g, g1, g2⟩ := a3 (k - j) (d j) (h2 i j (by omega) (by omega)) b2
      obtain ⟨k', c', e1, e2, e3⟩ := ih (i + (k - j)) (by omega) m g hm g2
      exact ⟨k', c', e1, by omega, e3⟩
/-- the least cost, if there is a walk -/
def Dst (K : Nat) (L C : Nat → Nat → Nat) (s to : Nat) (Z : Nat → Prop) (m v : Nat) : Prop := (v = 1000000 ∧ ∀ k c, ¬ Wlk K L C s to Z k m c) ∨ (v < 1000000 ∧ (∃ k, Wlk K L C s to Z k m v) ∧ ∀ k c, Wlk K L C s to Z k m c → v ≤ c)
theorem Dst.uniq {m v u : Nat} (h : Dst K L C s to Z m v) (g : Dst K L C s to Z m u) : v = u := by
  rcases h with ⟨h1, h2⟩ | ⟨h1, ⟨k, h2⟩, h3⟩ <;> rcases g with ⟨g1, g2⟩ | ⟨g1, ⟨j, g2⟩, g3⟩
  · omega
  · exact absurd g2 (h2 j u)
  · exact absurd h2 (g2 k v)
  · have := h3 j u g2
    have := g3 k v h2
    omega
theorem wlk_mono (hz : ∀ j, Z' j → Z j) : ∀ k m c, Wlk K L C s to Z k m c → Wlk K L C s to Z' k m c
  | 0, _, _, h => h
  | k + 1, m, c, ⟨o, d, h1, h2, h3, h4, h5⟩ => ⟨o, d, h1, h2, h3.imp id fun q r => q (hz _ r), wlk_mono hz k _ _ h4, h5⟩
/-- of two bars that differ at the start alone -/
theorem wlk_cut {a : Nat} (hz : ∀ j, j ≠ a → Z j → Z' j) : ∀ k m c, Wlk K L C s to Z' k m c → (∃ k' c', c' ≤ c ∧ Wlk K L C s to Z k' m c') ∨ ∃ t c', t < k ∧ c' ≤ c ∧ Wlk K L C s to Z' t a c'
  | 0, m, c, h => Or.inl ⟨0, c, Nat.le_refl _, h⟩
  | k + 1, m, c, ⟨o, d, h1, h2, h3, h4, h5⟩ => by
    by_cases q : L m o = a
    · rw [q] at h4
      exact Or.inr ⟨k, d, by omega, by omega, h4⟩
    · rcases wlk_cut hz k (L m o) d h4 with ⟨k', c', e1, e2⟩ | ⟨t, c', e0, e1, e2⟩
      · exact Or.inl ⟨k' + 1, C m o + c', by omega, o, c', h1, h2, h3.imp id fun z y => z (hz _ q y), e2, rfl⟩
      · exact Or.inr ⟨t, c', by omega, by omega, e2⟩
theorem wlk_from {a : Nat} (hz : ∀ j, j ≠ a → Z j → Z' j) (k : Nat) : ∀ c, Wlk K L C s to Z' k a c → ∃ k' c', c' ≤ c ∧ Wlk K L C s to Z k' a c' := by
  induction k using Nat.strongRecOn with
  | ind k ih =>
    intro c h
    rcases wlk_cut hz k a c h with q | ⟨t, c', e0, e1, e2⟩
    · exact q
    · obtain ⟨k', c'', f1, f2⟩ := ih t e0 c' e2
      exact ⟨k', c'', by omega, f2⟩
theorem Dst.from {a v : Nat} (hz : ∀ j, j ≠ a → Z j → Z' j) (hz2 : ∀ j, Z' j → Z j) (h : Dst K L C s to Z a v) : Dst K L C s to Z' a v := by
  rcases h with ⟨h1, h2⟩ | ⟨h1, ⟨k, h2⟩, h3⟩
  · refine Or.inl ⟨h1, fun k c h => ?_⟩
    obtain ⟨k', c', -, e⟩ := wlk_from hz k c h
    exact h2 k' c' e
  · refine Or.inr ⟨h1, ⟨k, wlk_mono hz2 k a v h2⟩, fun k c h => ?_⟩
    obtain ⟨k', c', e1, e⟩ := wlk_from hz k c h
    have := h3 k' c' e
    omega
/-- far enough: what bounds all short walks is the least -/
theorem Dst.of (hL : ∀ m o, m < N → o < K → L m o < N) {m v : Nat} (hm : m < N) (h1 : v = 1000000 ∨ (v < 1000000 ∧ ∃ k, Wlk K L C s to Z k m v)) (h2 : ∀ k c, k < N → Wlk K L C s to Z k m c → v ≤ c ∧ c < 1000000) : Dst K L C s to Z m v := by
  rcases h1 with h1 | ⟨h0, h1⟩
  · refine Or.inl ⟨h1, fun k c h => ?_⟩
    obtain ⟨k', c', e1, e2, e3⟩ := wlk_short hL k m c hm h
    have := h2 k' c' e1 e3
    omega
  · refine Or.inr ⟨h0, h1, fun k c h => ?_⟩
    obtain ⟨k', c', e1, e2, e3⟩ := wlk_short hL k m c hm h
    have := h2 k' c' e1 e3
    omega
theorem wlk_cost (hL : ∀ m o, m < N → o < K → L m o < N) (hC : ∀ m o, m < N → o < K → C m o ≤ 99) : ∀ k m c, m < N → Wlk K L C s to Z k m c → c ≤ 99 * k
  | 0, _, _, _, h => by rw [h.2]; exact Nat.le_refl _
  | k + 1, m, c, hm, ⟨o, d, h1, h2, h3, h4, h5⟩ => by
    have := wlk_cost hL hC k _ d (hL m o hm h1) h4
    have := hC m o hm h1
    omega
end WK
