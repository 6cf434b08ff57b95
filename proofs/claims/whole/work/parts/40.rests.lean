/-! ===== smuggles, rests ===== -/
theorem lp_all {f : Int32 → Option (Int32 ⊕ (Unit ⊕ Unit))} (P : Nat → Prop) (n : Nat) (hn : n < 13000) (h1 : ∀ i, i < n → P i → f (nI i) = some (.inl (nI (i + 1)))) (h2 : ∀ i, i < n → ¬ P i → f (nI i) = some (.inr (.inl ()))) (h3 : f (nI n) = some (.inr (.inr ()))) : ∃ r, lpN f FU (nI 0) = some r ∧ (r = .inr () ∧ (∀ i, i < n → P i) ∨ r = .inl () ∧ ¬ ∀ i, i < n → P i) := by
  refine lp_inv (fun i q => q = nI i ∧ ∀ m, m < i → P m) n hn ⟨rfl, fun m h => absurd h (Nat.not_lt_zero m)⟩ (fun i q hi hq => ?_) (fun q hq => ?_)
  · obtain ⟨rfl, hq⟩ := hq
    by_cases p : P i
    · exact Or.inl ⟨_, h1 i hi p, rfl, fun m hm => by
        by_cases z : m = i
        · subst z; exact p
        · exact hq m (by omega)⟩
    · exact Or.inr ⟨_, h2 i hi p, Or.inr ⟨rfl, fun h => p (h i hi)⟩⟩
  · obtain ⟨rfl, hq⟩ := hq
    exact ⟨_, h3, Or.inl ⟨rfl, hq⟩⟩
/-- how often one is not met -/
def sg (L : Nat → Nat → Nat) (c g m : Nat) (n : Nat) : Nat := fld (fun k t => if wk L c (k + 1) m = g then t else t + 1) n 0
theorem sg_le (L : Nat → Nat → Nat) (c g m : Nat) : ∀ n, sg L c g m n ≤ n
  | 0 => Nat.le_refl _
  | n + 1 => by
    have := sg_le L c g m n
    show (if wk L c (n + 1) m = g then sg L c g m n else sg L c g m n + 1) ≤ n + 1
    by_cases z : wk L c (n + 1) m = g
    · rw [if_pos z]; omega
    · rw [if_neg z]; omega
theorem sg_s (L : Nat → Nat → Nat) (c g m n : Nat) : sg L c g m (n + 1) = if wk L c (n + 1) m = g then sg L c g m n else sg L c g m n + 1 := rfl
section RS
variable {N K : Nat} {L D : Nat → Nat → Nat} {T S : Sm}
theorem pl_nm (hP : WyP N K L D) (hS : WyS N K L D S) {m c g n : Nat} (hm : m < N) (hc : c < K) (hg : g < N) (hn : n ≤ 9) : Pl_notMet (nI m) (nI n) (nI c) (nI g) S = some (nI (sg L c g m n)) := by
  have hN := hP.1
  have e : lpN (Pl_notMet_L9 (nI n) (nI c) (nI g) S) FU (nI m, 0, 0) = some (nI (sg L c g m n)) := by
    refine lpN_run0 (fun i => (nI (wk L c i m), nI (sg L c g m i), nI i)) n (by omega) (fun i hi => ?_) ?_ rfl
    · have hx := (hS.2.2 (wk L c i m) c (wk_lt hP (Or.inl hc) hm i) (Or.inl hc)).1
      have h1 := wk_lt hP (Or.inl hc) hm (i + 1)
      have h2 := sg_le L c g m i
      have h3 : L (wk L c i m) c = wk L c (i + 1) m := rfl
      show Pl_notMet_L9 _ _ _ _ (_, _, _) = _
      unfold Pl_notMet_L9 Pl_notMet_41_L9
      rw [sg_s]
      by_cases z : wk L c (i + 1) m = g
      · simp (disch := omega) only [q_lit, q_m1, q_m2, q_hid, q_add, q_mul, q_sub, q_le, q_lt, q_eq, q_mlt, q_mle, q_ltm, q_lem, q_meq, q_eqm, q_m2lt, q_m2le, q_ltm2, q_lem2, q_eqm2, q_mm2, q_m2m, q_mm, q_mnm, q_ix, q_inb, q_a0, q_a1, q_app, q_bind, if_true, if_false, if_pos, if_neg, hx, h3, z, Nat.add_zero]
      · simp (disch := omega) only [q_lit, q_m1, q_m2, q_hid, q_add, q_mul, q_sub, q_le, q_lt, q_eq, q_mlt, q_mle, q_ltm, q_lem, q_meq, q_eqm, q_m2lt, q_m2le, q_ltm2, q_lem2, q_eqm2, q_mm2, q_m2m, q_mm, q_mnm, q_ix, q_inb, q_a0, q_a1, q_app, q_bind, if_true, if_false, if_pos, if_neg, hx, h3, z]
    · show Pl_notMet_L9 _ _ _ _ (_, _, _) = _
      unfold Pl_notMet_L9
      simp (disch := omega) only [q_lit, q_m1, q_m2, q_hid, q_add, q_mul, q_sub, q_le, q_lt, q_eq, q_mlt, q_mle, q_ltm, q_lem, q_meq, q_eqm, q_m2lt, q_m2le, q_ltm2, q_lem2, q_eqm2, q_mm2, q_m2m, q_mm, q_mnm, q_ix, q_inb, q_a0, q_a1, q_app, q_bind, if_true, if_false, if_pos, if_neg, Nat.le_refl]
  unfold Pl_notMet
  rw [e]; rfl
theorem md_sm (hP : WyP N K L D) (hT : WyT N K L D T) {m c g n : Nat} (hm : m < N) (hc : c < K) (hg : g < N) (hn : n ≤ 9) : Md_smugglesOf (nI m) (nI n) (nI c) (nI g) T = some (nI (sg L c g m n)) := by
  have hN := hP.1
  have e : lpN (Md_smugglesOf_L6 (nI m) (nI n) (nI c) (nI g) T) FU (0, 1) = some (nI (sg L c g m n)) := by
    refine lpN_run0 (fun i => (nI (sg L c g m i), nI (i + 1))) n (by omega) (fun i hi => ?_) ?_ rfl
    · have hx := md_through hP hT hm (Or.inl hc) (n := i + 1) (by omega)
      have h1 := wk_lt hP (Or.inl hc) hm (i + 1)
      have h2 := sg_le L c g m i
      show Md_smugglesOf_L6 _ _ _ _ _ (_, _) = _
      unfold Md_smugglesOf_L6 Md_smugglesOf_32_L6
      rw [sg_s]
      by_cases z : wk L c (i + 1) m = g
      · simp (disch := omega) only [q_lit, q_m1, q_m2, q_hid, q_add, q_mul, q_sub, q_le, q_lt, q_eq, q_mlt, q_mle, q_ltm, q_lem, q_meq, q_eqm, q_m2lt, q_m2le, q_ltm2, q_lem2, q_eqm2, q_mm2, q_m2m, q_mm, q_mnm, q_ix, q_inb, q_a0, q_a1, q_app, q_bind, if_true, if_false, if_pos, if_neg, hx, z, Nat.add_zero]
      · simp (disch := omega) only [q_lit, q_m1, q_m2, q_hid, q_add, q_mul, q_sub, q_le, q_lt, q_eq, q_mlt, q_mle, q_ltm, q_lem, q_meq, q_eqm, q_m2lt, q_m2le, q_ltm2, q_lem2, q_eqm2, q_mm2, q_m2m, q_mm, q_mnm, q_ix, q_inb, q_a0, q_a1, q_app, q_bind, if_true, if_false, if_pos, if_neg, hx, z]
    · show Md_smugglesOf_L6 _ _ _ _ _ (_, _) = _
      unfold Md_smugglesOf_L6
      simp (disch := omega) only [q_lit, q_m1, q_m2, q_hid, q_add, q_mul, q_sub, q_le, q_lt, q_eq, q_mlt, q_mle, q_ltm, q_lem, q_meq, q_eqm, q_m2lt, q_m2le, q_ltm2, q_lem2, q_eqm2, q_mm2, q_m2m, q_mm, q_mnm, q_ix, q_inb, q_a0, q_a1, q_app, q_bind, if_true, if_false, if_pos, if_neg]
  unfold Md_smugglesOf
  rw [e]; rfl
def Rst (N K : Nat) (L : Nat → Nat → Nat) (m n c g : Nat) : Prop := (∀ o, o < K → sg L o g m n ≤ sg L c g m n) ∧ ∀ o, o < N → sg L c g m n ≤ sg L c o m n
theorem pl_ir (hP : WyP N K L D) (hS : WyS N K L D S) {m c g n : Nat} (hm : m < N) (hc : c < K) (hg : g < N) (hn : n ≤ 9) : ∃ b, Pl_isRest (nI m) (nI n) (nI c) (nI g) S = some b ∧ (b = nI 1 ∧ Rst N K L m n c g ∨ b = nI 0 ∧ ¬ Rst N K L m n c g) := by
  have hN := hP.1
  have h5 := hP.2.1
  have s9 : ∀ c g, sg L c g m n ≤ 9 := fun c g => Nat.le_trans (sg_le L c g m n) hn
  obtain ⟨r, e, hr⟩ := lp_all (f := Pl_isRest_L14 (nI m) (nI n) (nI c) (nI g) (nI (sg L c g m n)) S) (fun o => sg L o g m n ≤ sg L c g m n) K (by omega) (fun i hi p => by
    have h1 := s9 i g; have h2 := s9 c g
    have e1 := pl_nm hP hS hm hi hg hn
    unfold Pl_isRest_L14
    simp (disch := omega) only [q_lit, q_m1, q_m2, q_hid, q_add, q_mul, q_sub, q_le, q_lt, q_eq, q_mlt, q_mle, q_ltm, q_lem, q_meq, q_eqm, q_m2lt, q_m2le, q_ltm2, q_lem2, q_eqm2, q_mm2, q_m2m, q_mm, q_mnm, q_ix, q_inb, q_a0, q_a1, q_app, q_bind, if_true, if_false, if_pos, if_neg, hS.2.1, e1]) (fun i hi p => by
    have h1 := s9 i g; have h2 := s9 c g
    have e1 := pl_nm hP hS hm hi hg hn
    unfold Pl_isRest_L14
    simp (disch := omega) only [q_lit, q_m1, q_m2, q_hid, q_add, q_mul, q_sub, q_le, q_lt, q_eq, q_mlt, q_mle, q_ltm, q_lem, q_meq, q_eqm, q_m2lt, q_m2le, q_ltm2, q_lem2, q_eqm2, q_mm2, q_m2m, q_mm, q_mnm, q_ix, q_inb, q_a0, q_a1, q_app, q_bind, if_true, if_false, if_pos, if_neg, hS.2.1, e1]) (by
    unfold Pl_isRest_L14
    simp (disch := omega) only [q_lit, q_m1, q_m2, q_hid, q_add, q_mul, q_sub, q_le, q_lt, q_eq, q_mlt, q_mle, q_ltm, q_lem, q_meq, q_eqm, q_m2lt, q_m2le, q_ltm2, q_lem2, q_eqm2, q_mm2, q_m2m, q_mm, q_mnm, q_ix, q_inb, q_a0, q_a1, q_app, q_bind, if_true, if_false, if_pos, if_neg, hS.2.1, Nat.le_refl])
  obtain ⟨r2, e2, hr2⟩ := lp_all (f := Pl_isRest_L52 (nI m) (nI n) (nI c) (nI (sg L c g m n)) S) (fun o => sg L c g m n ≤ sg L c o m n) N (by omega) (fun i hi p => by
    have h1 := s9 c i; have h2 := s9 c g
    have e1 := pl_nm hP hS hm hc hi hn
    unfold Pl_isRest_L52
    simp (disch := omega) only [q_lit, q_m1, q_m2, q_hid, q_add, q_mul, q_sub, q_le, q_lt, q_eq, q_mlt, q_mle, q_ltm, q_lem, q_meq, q_eqm, q_m2lt, q_m2le, q_ltm2, q_lem2, q_eqm2, q_mm2, q_m2m, q_mm, q_mnm, q_ix, q_inb, q_a0, q_a1, q_app, q_bind, if_true, if_false, if_pos, if_neg, hS.1, e1]) (fun i hi p => by
    have h1 := s9 c i; have h2 := s9 c g
    have e1 := pl_nm hP hS hm hc hi hn
    unfold Pl_isRest_L52
    simp (disch := omega) only [q_lit, q_m1, q_m2, q_hid, q_add, q_mul, q_sub, q_le, q_lt, q_eq, q_mlt, q_mle, q_ltm, q_lem, q_meq, q_eqm, q_m2lt, q_m2le, q_ltm2, q_lem2, q_eqm2, q_mm2, q_m2m, q_mm, q_mnm, q_ix, q_inb, q_a0, q_a1, q_app, q_bind, if_true, if_false, if_pos, if_neg, hS.1, e1]) (by
    unfold Pl_isRest_L52
    simp (disch := omega) only [q_lit, q_m1, q_m2, q_hid, q_add, q_mul, q_sub, q_le, q_lt, q_eq, q_mlt, q_mle, q_ltm, q_lem, q_meq, q_eqm, q_m2lt, q_m2le, q_ltm2, q_lem2, q_eqm2, q_mm2, q_m2m, q_mm, q_mnm, q_ix, q_inb, q_a0, q_a1, q_app, q_bind, if_true, if_false, if_pos, if_neg, hS.1, Nat.le_refl])
  unfold Pl_isRest
  rw [pl_nm hP hS hm hc hg hn, show (0 : Int32) = nI 0 from rfl, q_bind, e]
  rcases hr with ⟨rfl, h⟩ | ⟨rfl, h⟩
  · show ∃ b, (lpN _ FU _).bind _ = some b ∧ _
    rw [e2]
    rcases hr2 with ⟨rfl, h'⟩ | ⟨rfl, h'⟩
    · exact ⟨nI 1, rfl, Or.inl ⟨rfl, h, h'⟩⟩
    · exact ⟨nI 0, rfl, Or.inr ⟨rfl, fun q => h' q.2⟩⟩
  · exact ⟨nI 0, rfl, Or.inr ⟨rfl, fun q => h q.1⟩⟩
theorem md_ir (hP : WyP N K L D) (hT : WyT N K L D T) {m c g n : Nat} (hm : m < N) (hc : c < K) (hg : g < N) (hn : n ≤ 9) : ∃ b, Md_isRest (nI m) (nI n) (nI c) (nI g) T = some b ∧ (b = nI 1 ∧ Rst N K L m n c g ∨ b = nI 0 ∧ ¬ Rst N K L m n c g) := by
  have hN := hP.1
  have h5 := hP.2.1
  have s9 : ∀ c g, sg L c g m n ≤ 9 := fun c g => Nat.le_trans (sg_le L c g m n) hn
  obtain ⟨r, e, hr⟩ := lp_all (f := Md_isRest_L14 (nI m) (nI n) (nI c) (nI g) (nI (sg L c g m n)) T) (fun o => sg L o g m n ≤ sg L c g m n) K (by omega) (fun i hi p => by
    have h1 := s9 i g; have h2 := s9 c g
    have e1 := md_sm hP hT hm hi hg hn
    unfold Md_isRest_L14
    simp (disch := omega) only [q_lit, q_m1, q_m2, q_hid, q_add, q_mul, q_sub, q_le, q_lt, q_eq, q_mlt, q_mle, q_ltm, q_lem, q_meq, q_eqm, q_m2lt, q_m2le, q_ltm2, q_lem2, q_eqm2, q_mm2, q_m2m, q_mm, q_mnm, q_ix, q_inb, q_a0, q_a1, q_app, q_bind, if_true, if_false, if_pos, if_neg, hT.2.1, e1]) (fun i hi p => by
    have h1 := s9 i g; have h2 := s9 c g
    have e1 := md_sm hP hT hm hi hg hn
    unfold Md_isRest_L14
    simp (disch := omega) only [q_lit, q_m1, q_m2, q_hid, q_add, q_mul, q_sub, q_le, q_lt, q_eq, q_mlt, q_mle, q_ltm, q_lem, q_meq, q_eqm, q_m2lt, q_m2le, q_ltm2, q_lem2, q_eqm2, q_mm2, q_m2m, q_mm, q_mnm, q_ix, q_inb, q_a0, q_a1, q_app, q_bind, if_true, if_false, if_pos, if_neg, hT.2.1, e1]) (by
    unfold Md_isRest_L14
    simp (disch := omega) only [q_lit, q_m1, q_m2, q_hid, q_add, q_mul, q_sub, q_le, q_lt, q_eq, q_mlt, q_mle, q_ltm, q_lem, q_meq, q_eqm, q_m2lt, q_m2le, q_ltm2, q_lem2, q_eqm2, q_mm2, q_m2m, q_mm, q_mnm, q_ix, q_inb, q_a0, q_a1, q_app, q_bind, if_true, if_false, if_pos, if_neg, hT.2.1, Nat.le_refl])
  obtain ⟨r2, e2, hr2⟩ := lp_all (f := Md_isRest_L51 (nI m) (nI n) (nI c) (nI (sg L c g m n)) T) (fun o => sg L c g m n ≤ sg L c o m n) N (by omega) (fun i hi p => by
    have h1 := s9 c i; have h2 := s9 c g
    have e1 := md_sm hP hT hm hc hi hn
    unfold Md_isRest_L51
    simp (disch := omega) only [q_lit, q_m1, q_m2, q_hid, q_add, q_mul, q_sub, q_le, q_lt, q_eq, q_mlt, q_mle, q_ltm, q_lem, q_meq, q_eqm, q_m2lt, q_m2le, q_ltm2, q_lem2, q_eqm2, q_mm2, q_m2m, q_mm, q_mnm, q_ix, q_inb, q_a0, q_a1, q_app, q_bind, if_true, if_false, if_pos, if_neg, hT.1, e1]) (fun i hi p => by
    have h1 := s9 c i; have h2 := s9 c g
    have e1 := md_sm hP hT hm hc hi hn
    unfold Md_isRest_L51
    simp (disch := omega) only [q_lit, q_m1, q_m2, q_hid, q_add, q_mul, q_sub, q_le, q_lt, q_eq, q_mlt, q_mle, q_ltm, q_lem, q_meq, q_eqm, q_m2lt, q_m2le, q_ltm2, q_lem2, q_eqm2, q_mm2, q_m2m, q_mm, q_mnm, q_ix, q_inb, q_a0, q_a1, q_app, q_bind, if_true, if_false, if_pos, if_neg, hT.1, e1]) (by
    unfold Md_isRest_L51
    simp (disch := omega) only [q_lit, q_m1, q_m2, q_hid, q_add, q_mul, q_sub, q_le, q_lt, q_eq, q_mlt, q_mle, q_ltm, q_lem, q_meq, q_eqm, q_m2lt, q_m2le, q_ltm2, q_lem2, q_eqm2, q_mm2, q_m2m, q_mm, q_mnm, q_ix, q_inb, q_a0, q_a1, q_app, q_bind, if_true, if_false, if_pos, if_neg, hT.1, Nat.le_refl])
  unfold Md_isRest
  rw [md_sm hP hT hm hc hg hn, show (0 : Int32) = nI 0 from rfl, q_bind, e]
  rcases hr with ⟨rfl, h⟩ | ⟨rfl, h⟩
  · show ∃ b, (lpN _ FU _).bind _ = some b ∧ _
    rw [e2]
    rcases hr2 with ⟨rfl, h'⟩ | ⟨rfl, h'⟩
    · exact ⟨nI 1, rfl, Or.inl ⟨rfl, h, h'⟩⟩
    · exact ⟨nI 0, rfl, Or.inr ⟨rfl, fun q => h' q.2⟩⟩
  · exact ⟨nI 0, rfl, Or.inr ⟨rfl, fun q => h q.1⟩⟩
theorem both_ir (hP : WyP N K L D) (hS : WyS N K L D S) (hT : WyT N K L D T) {m c g n : Nat} (hm : m < N) (hc : c < K) (hg : g < N) (hn : n ≤ 9) : ∃ b, (b = nI 1 ∨ b = nI 0) ∧ Pl_isRest (nI m) (nI n) (nI c) (nI g) S = some b ∧ Md_isRest (nI m) (nI n) (nI c) (nI g) T = some b := by
  obtain ⟨b, e, h⟩ := pl_ir hP hS hm hc hg hn
  obtain ⟨b', e', h'⟩ := md_ir hP hT hm hc hg hn
  rcases h with ⟨rfl, h⟩ | ⟨rfl, h⟩ <;> rcases h' with ⟨rfl, h'⟩ | ⟨rfl, h'⟩
  · exact ⟨nI 1, Or.inl rfl, e, e'⟩
  · exact absurd h h'
  · exact absurd h' h
  · exact ⟨nI 0, Or.inr rfl, e, e'⟩
theorem rest_in (hP : WyP N K L D) (hS : WyS N K L D S) (hT : WyT N K L D T) {m c n : Nat} {v a : Int32} (hm : m < N) (hc : c < K) (hn : n ≤ 9) : ∃ r u, lpN (Pl_restAt_L21 (nI m) (nI n) v (nI c) S) FU (a, nI 0) = some r ∧ lpN (Md_rests_L45 (nI m) (nI n) v (nI c) T) FU (a, nI 0) = some u ∧ r = u := by
  have hN := hP.1
  refine lp_rel (fun i s t => s = t ∧ s.2 = nI i) N (by omega) ⟨rfl, rfl⟩ (fun i s t hi hq => ?_) (fun s t hq => ?_)
  · obtain ⟨s1, s2⟩ := s
    obtain ⟨rfl, hq⟩ := hq
    have hq : s2 = nI i := hq
    subst hq
    obtain ⟨b, hb, e1, e2⟩ := both_ir hP hS hT hm hc hi hn
    unfold Pl_restAt_L21 Pl_restAt_64_L21 Md_rests_L45 Md_rests_87_L45
    rcases hb with rfl | rfl
    · by_cases z : s1 = v
      · refine Or.inr ⟨.inl (nI i), .inl (nI i), ?_, ?_, rfl⟩
        · simp (disch := omega) only [q_lit, q_m1, q_m2, q_hid, q_add, q_mul, q_sub, q_le, q_lt, q_eq, q_mlt, q_mle, q_ltm, q_lem, q_meq, q_eqm, q_m2lt, q_m2le, q_ltm2, q_lem2, q_eqm2, q_mm2, q_m2m, q_mm, q_mnm, q_ix, q_inb, q_a0, q_a1, q_app, q_bind, if_true, if_false, if_pos, if_neg, hS.1, e1, z]
        · simp (disch := omega) only [q_lit, q_m1, q_m2, q_hid, q_add, q_mul, q_sub, q_le, q_lt, q_eq, q_mlt, q_mle, q_ltm, q_lem, q_meq, q_eqm, q_m2lt, q_m2le, q_ltm2, q_lem2, q_eqm2, q_mm2, q_m2m, q_mm, q_mnm, q_ix, q_inb, q_a0, q_a1, q_app, q_bind, if_true, if_false, if_pos, if_neg, hT.1, e2, z]
      · refine Or.inl ⟨(s1 + 1, nI (i + 1)), (s1 + 1, nI (i + 1)), ?_, ?_, rfl, rfl⟩
        · simp (disch := omega) only [q_lit, q_m1, q_m2, q_hid, q_add, q_mul, q_sub, q_le, q_lt, q_eq, q_mlt, q_mle, q_ltm, q_lem, q_meq, q_eqm, q_m2lt, q_m2le, q_ltm2, q_lem2, q_eqm2, q_mm2, q_m2m, q_mm, q_mnm, q_ix, q_inb, q_a0, q_a1, q_app, q_bind, if_true, if_false, if_pos, if_neg, hS.1, e1, z]
        · simp (disch := omega) only [q_lit, q_m1, q_m2, q_hid, q_add, q_mul, q_sub, q_le, q_lt, q_eq, q_mlt, q_mle, q_ltm, q_lem, q_meq, q_eqm, q_m2lt, q_m2le, q_ltm2, q_lem2, q_eqm2, q_mm2, q_m2m, q_mm, q_mnm, q_ix, q_inb, q_a0, q_a1, q_app, q_bind, if_true, if_false, if_pos, if_neg, hT.1, e2, z]
    · refine Or.inl ⟨(s1, nI (i + 1)), (s1, nI (i + 1)), ?_, ?_, rfl, rfl⟩
      · simp (disch := omega) only [q_lit, q_m1, q_m2, q_hid, q_add, q_mul, q_sub, q_le, q_lt, q_eq, q_mlt, q_mle, q_ltm, q_lem, q_meq, q_eqm, q_m2lt, q_m2le, q_ltm2, q_lem2, q_eqm2, q_mm2, q_m2m, q_mm, q_mnm, q_ix, q_inb, q_a0, q_a1, q_app, q_bind, if_true, if_false, if_pos, if_neg, hS.1, e1]
      · simp (disch := omega) only [q_lit, q_m1, q_m2, q_hid, q_add, q_mul, q_sub, q_le, q_lt, q_eq, q_mlt, q_mle, q_ltm, q_lem, q_meq, q_eqm, q_m2lt, q_m2le, q_ltm2, q_lem2, q_eqm2, q_mm2, q_m2m, q_mm, q_mnm, q_ix, q_inb, q_a0, q_a1, q_app, q_bind, if_true, if_false, if_pos, if_neg, hT.1, e2]
  · obtain ⟨s1, s2⟩ := s
    obtain ⟨rfl, hq⟩ := hq
    have hq : s2 = nI N := hq
    subst hq
    refine ⟨.inr s1, .inr s1, ?_, ?_, rfl⟩
    · unfold Pl_restAt_L21
      simp (disch := omega) only [q_lit, q_m1, q_m2, q_hid, q_add, q_mul, q_sub, q_le, q_lt, q_eq, q_mlt, q_mle, q_ltm, q_lem, q_meq, q_eqm, q_m2lt, q_m2le, q_ltm2, q_lem2, q_eqm2, q_mm2, q_m2m, q_mm, q_mnm, q_ix, q_inb, q_a0, q_a1, q_app, q_bind, if_true, if_false, if_pos, if_neg, hS.1, Nat.le_refl]
    · unfold Md_rests_L45
      simp (disch := omega) only [q_lit, q_m1, q_m2, q_hid, q_add, q_mul, q_sub, q_le, q_lt, q_eq, q_mlt, q_mle, q_ltm, q_lem, q_meq, q_eqm, q_m2lt, q_m2le, q_ltm2, q_lem2, q_eqm2, q_mm2, q_m2m, q_mm, q_mnm, q_ix, q_inb, q_a0, q_a1, q_app, q_bind, if_true, if_false, if_pos, if_neg, hT.1, Nat.le_refl]
theorem rest_out (hP : WyP N K L D) (hS : WyS N K L D S) (hT : WyT N K L D T) {m n : Nat} {v : Int32} (hm : m < N) (hn : n ≤ 9) : ∃ r u, lpN (Pl_restAt_L6 (nI m) (nI n) v S) FU (nI 0, nI 0) = some r ∧ lpN (Md_rests_L31 (nI m) (nI n) v T) FU (nI 0, nI 0) = some u ∧ ((∃ a, r = .inl a ∧ u = .inl a) ∨ r = .inr () ∧ ∃ x, u = .inr x) := by
  have hN := hP.1
  have h5 := hP.2.1
  refine lp_rel (fun i s t => s = t ∧ s.2 = nI i) K (by omega) ⟨rfl, rfl⟩ (fun i s t hi hq => ?_) (fun s t hq => ?_)
  · obtain ⟨s1, s2⟩ := s
    obtain ⟨rfl, hq⟩ := hq
    have hq : s2 = nI i := hq
    subst hq
    obtain ⟨r, u, e1, e2, rfl⟩ := rest_in hP hS hT (v := v) (a := s1) hm hi hn
    unfold Pl_restAt_L6 Md_rests_L31
    cases r with
    | inl a =>
      refine Or.inr ⟨.inl (nI i, a), .inl (nI i, a), ?_, ?_, Or.inl ⟨_, rfl, rfl⟩⟩
      · simp (disch := omega) only [q_lit, q_m1, q_m2, q_hid, q_add, q_mul, q_sub, q_le, q_lt, q_eq, q_mlt, q_mle, q_ltm, q_lem, q_meq, q_eqm, q_m2lt, q_m2le, q_ltm2, q_lem2, q_eqm2, q_mm2, q_m2m, q_mm, q_mnm, q_ix, q_inb, q_a0, q_a1, q_app, q_bind, if_true, if_false, if_pos, if_neg, hS.2.1, e1]
        rfl
      · simp (disch := omega) only [q_lit, q_m1, q_m2, q_hid, q_add, q_mul, q_sub, q_le, q_lt, q_eq, q_mlt, q_mle, q_ltm, q_lem, q_meq, q_eqm, q_m2lt, q_m2le, q_ltm2, q_lem2, q_eqm2, q_mm2, q_m2m, q_mm, q_mnm, q_ix, q_inb, q_a0, q_a1, q_app, q_bind, if_true, if_false, if_pos, if_neg, hT.2.1, e2]
        rfl
    | inr a =>
      refine Or.inl ⟨(a, nI (i + 1)), (a, nI (i + 1)), ?_, ?_, rfl, rfl⟩
      · simp (disch := omega) only [q_lit, q_m1, q_m2, q_hid, q_add, q_mul, q_sub, q_le, q_lt, q_eq, q_mlt, q_mle, q_ltm, q_lem, q_meq, q_eqm, q_m2lt, q_m2le, q_ltm2, q_lem2, q_eqm2, q_mm2, q_m2m, q_mm, q_mnm, q_ix, q_inb, q_a0, q_a1, q_app, q_bind, if_true, if_false, if_pos, if_neg, hS.2.1, e1]
        rfl
      · simp (disch := omega) only [q_lit, q_m1, q_m2, q_hid, q_add, q_mul, q_sub, q_le, q_lt, q_eq, q_mlt, q_mle, q_ltm, q_lem, q_meq, q_eqm, q_m2lt, q_m2le, q_ltm2, q_lem2, q_eqm2, q_mm2, q_m2m, q_mm, q_mnm, q_ix, q_inb, q_a0, q_a1, q_app, q_bind, if_true, if_false, if_pos, if_neg, hT.2.1, e2]
        rfl
  · obtain ⟨s1, s2⟩ := s
    obtain ⟨rfl, hq⟩ := hq
    have hq : s2 = nI K := hq
    subst hq
    refine ⟨.inr (), .inr s1, ?_, ?_, Or.inr ⟨rfl, _, rfl⟩⟩
    · unfold Pl_restAt_L6
      simp (disch := omega) only [q_lit, q_m1, q_m2, q_hid, q_add, q_mul, q_sub, q_le, q_lt, q_eq, q_mlt, q_mle, q_ltm, q_lem, q_meq, q_eqm, q_m2lt, q_m2le, q_ltm2, q_lem2, q_eqm2, q_mm2, q_m2m, q_mm, q_mnm, q_ix, q_inb, q_a0, q_a1, q_app, q_bind, if_true, if_false, if_pos, if_neg, hS.2.1, Nat.le_refl]
    · unfold Md_rests_L31
      simp (disch := omega) only [q_lit, q_m1, q_m2, q_hid, q_add, q_mul, q_sub, q_le, q_lt, q_eq, q_mlt, q_mle, q_ltm, q_lem, q_meq, q_eqm, q_m2lt, q_m2le, q_ltm2, q_lem2, q_eqm2, q_mm2, q_m2m, q_mm, q_mnm, q_ix, q_inb, q_a0, q_a1, q_app, q_bind, if_true, if_false, if_pos, if_neg, hT.2.1, Nat.le_refl]
theorem cnt_in (hP : WyP N K L D) (hS : WyS N K L D S) (hT : WyT N K L D T) {m c n a : Nat} (hm : m < N) (hc : c < K) (hn : n ≤ 9) (ha : a ≤ 100) : ∃ r u, lpN (Pl_countRests_L20 (nI m) (nI n) (nI c) S) FU (nI a, nI 0) = some r ∧ lpN (Md_rests_L45 (nI m) (nI n) mI (nI c) T) FU (nI a, nI 0) = some u ∧ ∃ k, k ≤ a + N ∧ r = nI k ∧ u = .inr (nI k) := by
  have hN := hP.1
  refine lp_rel (fun i s t => s = t ∧ s.2 = nI i ∧ ∃ k, k ≤ a + i ∧ s.1 = nI k) N (by omega) ⟨rfl, rfl, a, by omega, rfl⟩ (fun i s t hi hq => ?_) (fun s t hq => ?_)
  · obtain ⟨s1, s2⟩ := s
    obtain ⟨rfl, hq, k, hk, hk2⟩ := hq
    have hq : s2 = nI i := hq
    have hk2 : s1 = nI k := hk2
    subst hq
    subst hk2
    obtain ⟨b, hb, e1, e2⟩ := both_ir hP hS hT hm hc hi hn
    unfold Pl_countRests_L20 Pl_countRests_51_L20 Md_rests_L45 Md_rests_87_L45
    rcases hb with rfl | rfl
    · refine Or.inl ⟨(nI (k + 1), nI (i + 1)), (nI (k + 1), nI (i + 1)), ?_, ?_, rfl, rfl, k + 1, by omega, rfl⟩
      · simp (disch := omega) only [q_lit, q_m1, q_m2, q_hid, q_add, q_mul, q_sub, q_le, q_lt, q_eq, q_mlt, q_mle, q_ltm, q_lem, q_meq, q_eqm, q_m2lt, q_m2le, q_ltm2, q_lem2, q_eqm2, q_mm2, q_m2m, q_mm, q_mnm, q_ix, q_inb, q_a0, q_a1, q_app, q_bind, if_true, if_false, if_pos, if_neg, hS.1, e1]
      · simp (disch := omega) only [q_lit, q_m1, q_m2, q_hid, q_add, q_mul, q_sub, q_le, q_lt, q_eq, q_mlt, q_mle, q_ltm, q_lem, q_meq, q_eqm, q_m2lt, q_m2le, q_ltm2, q_lem2, q_eqm2, q_mm2, q_m2m, q_mm, q_mnm, q_ix, q_inb, q_a0, q_a1, q_app, q_bind, if_true, if_false, if_pos, if_neg, hT.1, e2]
    · refine Or.inl ⟨(nI k, nI (i + 1)), (nI k, nI (i + 1)), ?_, ?_, rfl, rfl, k, by omega, rfl⟩
      · simp (disch := omega) only [q_lit, q_m1, q_m2, q_hid, q_add, q_mul, q_sub, q_le, q_lt, q_eq, q_mlt, q_mle, q_ltm, q_lem, q_meq, q_eqm, q_m2lt, q_m2le, q_ltm2, q_lem2, q_eqm2, q_mm2, q_m2m, q_mm, q_mnm, q_ix, q_inb, q_a0, q_a1, q_app, q_bind, if_true, if_false, if_pos, if_neg, hS.1, e1, Nat.add_zero]
      · simp (disch := omega) only [q_lit, q_m1, q_m2, q_hid, q_add, q_mul, q_sub, q_le, q_lt, q_eq, q_mlt, q_mle, q_ltm, q_lem, q_meq, q_eqm, q_m2lt, q_m2le, q_ltm2, q_lem2, q_eqm2, q_mm2, q_m2m, q_mm, q_mnm, q_ix, q_inb, q_a0, q_a1, q_app, q_bind, if_true, if_false, if_pos, if_neg, hT.1, e2]
  · obtain ⟨s1, s2⟩ := s
    obtain ⟨rfl, hq, k, hk, hk2⟩ := hq
    have hq : s2 = nI N := hq
    have hk2 : s1 = nI k := hk2
    subst hq
    subst hk2
    refine ⟨nI k, .inr (nI k), ?_, ?_, k, hk, rfl, rfl⟩
    · unfold Pl_countRests_L20
      simp (disch := omega) only [q_lit, q_m1, q_m2, q_hid, q_add, q_mul, q_sub, q_le, q_lt, q_eq, q_mlt, q_mle, q_ltm, q_lem, q_meq, q_eqm, q_m2lt, q_m2le, q_ltm2, q_lem2, q_eqm2, q_mm2, q_m2m, q_mm, q_mnm, q_ix, q_inb, q_a0, q_a1, q_app, q_bind, if_true, if_false, if_pos, if_neg, hS.1, Nat.le_refl]
    · unfold Md_rests_L45
      simp (disch := omega) only [q_lit, q_m1, q_m2, q_hid, q_add, q_mul, q_sub, q_le, q_lt, q_eq, q_mlt, q_mle, q_ltm, q_lem, q_meq, q_eqm, q_m2lt, q_m2le, q_ltm2, q_lem2, q_eqm2, q_mm2, q_m2m, q_mm, q_mnm, q_ix, q_inb, q_a0, q_a1, q_app, q_bind, if_true, if_false, if_pos, if_neg, hT.1, Nat.le_refl]
theorem cnt_out (hP : WyP N K L D) (hS : WyS N K L D S) (hT : WyT N K L D T) {m n : Nat} (hm : m < N) (hn : n ≤ 9) : ∃ r u, lpN (Pl_countRests_L5 (nI m) (nI n) S) FU (nI 0, nI 0) = some r ∧ lpN (Md_rests_L31 (nI m) (nI n) mI T) FU (nI 0, nI 0) = some u ∧ u = .inr r := by
  have hN := hP.1
  have h5 := hP.2.1
  refine lp_rel (fun i s t => s = t ∧ s.2 = nI i ∧ ∃ k, k ≤ 8 * i ∧ s.1 = nI k) K (by omega) ⟨rfl, rfl, 0, by omega, rfl⟩ (fun i s t hi hq => ?_) (fun s t hq => ?_)
  · obtain ⟨s1, s2⟩ := s
    obtain ⟨rfl, hq, k, hk, hk2⟩ := hq
    have hq : s2 = nI i := hq
    have hk2 : s1 = nI k := hk2
    subst hq
    subst hk2
    obtain ⟨r, u, e1, e2, k', h1, rfl, rfl⟩ := cnt_in hP hS hT (a := k) hm hi hn (by omega)
    unfold Pl_countRests_L5 Md_rests_L31
    refine Or.inl ⟨(nI k', nI (i + 1)), (nI k', nI (i + 1)), ?_, ?_, rfl, rfl, k', by omega, rfl⟩
    · simp (disch := omega) only [q_lit, q_m1, q_m2, q_hid, q_add, q_mul, q_sub, q_le, q_lt, q_eq, q_mlt, q_mle, q_ltm, q_lem, q_meq, q_eqm, q_m2lt, q_m2le, q_ltm2, q_lem2, q_eqm2, q_mm2, q_m2m, q_mm, q_mnm, q_ix, q_inb, q_a0, q_a1, q_app, q_bind, if_true, if_false, if_pos, if_neg, hS.2.1, e1]
    · simp (disch := omega) only [q_lit, q_m1, q_m2, q_hid, q_add, q_mul, q_sub, q_le, q_lt, q_eq, q_mlt, q_mle, q_ltm, q_lem, q_meq, q_eqm, q_m2lt, q_m2le, q_ltm2, q_lem2, q_eqm2, q_mm2, q_m2m, q_mm, q_mnm, q_ix, q_inb, q_a0, q_a1, q_app, q_bind, if_true, if_false, if_pos, if_neg, hT.2.1, e2]
      rfl
  · obtain ⟨s1, s2⟩ := s
    obtain ⟨rfl, hq, k, hk, hk2⟩ := hq
    have hq : s2 = nI K := hq
    subst hq
    refine ⟨s1, .inr s1, ?_, ?_, rfl⟩
    · unfold Pl_countRests_L5
      simp (disch := omega) only [q_lit, q_m1, q_m2, q_hid, q_add, q_mul, q_sub, q_le, q_lt, q_eq, q_mlt, q_mle, q_ltm, q_lem, q_meq, q_eqm, q_m2lt, q_m2le, q_ltm2, q_lem2, q_eqm2, q_mm2, q_m2m, q_mm, q_mnm, q_ix, q_inb, q_a0, q_a1, q_app, q_bind, if_true, if_false, if_pos, if_neg, hS.2.1, Nat.le_refl]
    · unfold Md_rests_L31
      simp (disch := omega) only [q_lit, q_m1, q_m2, q_hid, q_add, q_mul, q_sub, q_le, q_lt, q_eq, q_mlt, q_mle, q_ltm, q_lem, q_meq, q_eqm, q_m2lt, q_m2le, q_ltm2, q_lem2, q_eqm2, q_mm2, q_m2m, q_mm, q_mnm, q_ix, q_inb, q_a0, q_a1, q_app, q_bind, if_true, if_false, if_pos, if_neg, hT.2.1, Nat.le_refl]
end RS
section RT
variable {N K F R w : Nat} {U : List Nat} {X : List (List Cl)} {T S : Sm}
theorem mouthsC (h : NetR N K F T S) (v u : Int32) : ((Nt_hasMouth v S = nI 0 ∨ Nt_hasMouth v S = nI 1 ∧ Nt_hasMouth u S = nI 0) ∧ Md_areMouths v u T = nI 0) ∨ ∃ m g, m < N ∧ g < N ∧ v = nI m ∧ u = nI g ∧ Nt_hasMouth v S = nI 1 ∧ Nt_hasMouth u S = nI 1 ∧ Md_areMouths v u T = nI 1 := by
  unfold Md_areMouths Md_areMouths_20 Md_areMouths_21
  rcases mouthC h v with ⟨a, b⟩ | ⟨m, hm, rfl, a, b⟩
  · rw [a, b]; exact Or.inl ⟨Or.inl rfl, rfl⟩
  · rcases mouthC h u with ⟨c, d⟩ | ⟨g, hg, rfl, c, d⟩
    · rw [a, b, c, d]; exact Or.inl ⟨Or.inr ⟨rfl, rfl⟩, rfl⟩
    · rw [a, b, c, d]; exact Or.inr ⟨m, g, hm, hg, rfl, rfl, rfl, rfl, rfl⟩
theorem op_smuggles (h : RelP N K F R U X w T S) (v1 v2 v3 v4 : Int32) : ∃ v, Dk_smuggles v1 v2 v3 v4 S = some v ∧ Md_smuggles v1 v2 v3 v4 T = some v := by
  unfold Dk_smuggles Md_smuggles Dk_smuggles_45 Md_smuggles_40 Md_smuggles_43
  rcases mouthC h.1 v1 with ⟨a, b⟩ | ⟨m, hm, rfl, a, b⟩
  · have e : Md_areMouths v1 v4 T = nI 0 := by unfold Md_areMouths; rw [b]; rfl
    rw [a, e]; exact ⟨hI, rfl, rfl⟩
  · have e : Md_areMouths (nI m) v4 T = Md_areMouths_21 (Md_isMouth v4 T) T := by
      unfold Md_areMouths Md_areMouths_20 Md_areMouths_21
      rw [b]
      rcases mouthC h.1 v4 with ⟨c, d⟩ | ⟨g, hg, rfl, c, d⟩ <;> rw [d] <;> rfl
    obtain ⟨hP, hS, hT⟩ := way_of h (pos_of hm)
    rcases mouthC h.1 v4 with ⟨c, d⟩ | ⟨g, hg, rfl, c, d⟩
    · rw [a, e, c, d]
      refine ⟨hI, ?_, rfl⟩
      rcases colourC h.1 v3 with ⟨p, q⟩ | ⟨c, hc, rfl, p, q⟩ <;> rw [p] <;> rfl
    · rw [a, e, c, d]
      rcases rngG v2 1 9 (by omega) (by omega) with ⟨q, f⟩ | ⟨n, n1, hn, rfl, f⟩
      · rw [show Md_in v2 1 9 = nI 0 from f, rng_le (a := 1) (n := 9) q]
        refine ⟨hI, ?_, rfl⟩
        rcases colourC h.1 v3 with ⟨p, q⟩ | ⟨c, hc, rfl, p, q⟩ <;> rw [p] <;> rfl
      · rw [show Md_in (nI n) 1 9 = nI 1 from f]
        rcases colourC h.1 v3 with ⟨p, q⟩ | ⟨c, hc, rfl, p, q⟩
        · rw [p, q]; exact ⟨hI, rfl, rfl⟩
        · rw [p, q, pl_nm hP hS hm hc hg hn, md_sm hP hT hm hc hg hn]
          refine ⟨nI (sg (Ld (T.1 70)) c g m n), ?_, rfl⟩
          simp (disch := omega) only [q_lit, q_m1, q_m2, q_hid, q_add, q_mul, q_sub, q_le, q_lt, q_eq, q_mlt, q_mle, q_ltm, q_lem, q_meq, q_eqm, q_m2lt, q_m2le, q_ltm2, q_lem2, q_eqm2, q_mm2, q_m2m, q_mm, q_mnm, q_ix, q_inb, q_a0, q_a1, q_app, q_bind, if_true, if_false, if_pos, if_neg]
theorem op_rests (h : RelP N K F R U X w T S) (v1 v2 v3 : Int32) : ∃ v, Dk_rests v1 v2 v3 S = some v ∧ Md_rests v1 v2 v3 T = some v := by
  unfold Dk_rests Md_rests Dk_rests_27 Dk_rests_56 Md_rests_23 Md_rests_110
  rcases mouthC h.1 v1 with ⟨a, b⟩ | ⟨m, hm, rfl, a, b⟩
  · rw [a, b]; exact ⟨mI, rfl, rfl⟩
  · obtain ⟨hP, hS, hT⟩ := way_of h (pos_of hm)
    rcases rngG v2 1 9 (by omega) (by omega) with ⟨q, f⟩ | ⟨n, n1, hn, rfl, f⟩
    · rw [a, b, show Md_in v2 1 9 = nI 0 from f, rng_lt (a := 1) (n := 9) q]
      exact ⟨mI, rfl, rfl⟩
    · rw [a, b, show Md_in (nI n) 1 9 = nI 1 from f]
      have p1 : ¬ nI n < 1 := nI_nlt (b := 1) n1 (by omega)
      have p2 : ¬ (9 : Int32) < nI n := nI_nlt (b := n) (a := 9) hn (by omega)
      have t1 : ¬ nI 1 = 0 := by decide
      rw [if_neg t1, if_neg p1, if_neg p2, if_neg t1, if_neg t1]
      by_cases z : (-1 : Int32) ≤ v3
      · rw [if_pos z, if_pos z]
        by_cases y : v3 = -1
        · subst y
          obtain ⟨r, u, e1, e2, rfl⟩ := cnt_out hP hS hT (n := n) hm hn
          refine ⟨r, ?_, ?_⟩
          · rw [if_pos rfl]
            unfold Pl_countRests
            rw [show (0 : Int32) = nI 0 from rfl, e1]; rfl
          · rw [show (0 : Int32) = nI 0 from rfl, show (-1 : Int32) = mI from rfl, e2]; rfl
        · obtain ⟨r, u, e1, e2, h3⟩ := rest_out hP hS hT (n := n) (v := v3) hm hn
          rw [if_neg y, show (0 : Int32) = nI 0 from rfl, e2]
          unfold Pl_restAt
          rw [show (0 : Int32) = nI 0 from rfl, e1]
          rcases h3 with ⟨x, rfl, rfl⟩ | ⟨rfl, x, rfl⟩
          · exact ⟨_, rfl, rfl⟩
          · refine ⟨mI, rfl, ?_⟩
            show (if v3 = -1 then _ else _) = _
            rw [if_neg y]; rfl
      · rw [if_neg z, if_neg z]; exact ⟨mI, rfl, rfl⟩
end RT
