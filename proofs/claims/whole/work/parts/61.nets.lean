/-! ===== the class: one assumption, all of them ===== -/
section NX
variable {N K F R w : Nat} {U : List Nat} {X : List (List Cl)} {T S : Sm}
theorem sg_isNet (h : RelP N K F R U X w T S) (hN : 0 < N) {S1 : Sm} (hA : NwA (UN U (T.1 70)) S S1) {x : Nat} (hx : x < 5000) : ∃ S2, Sg_isNet (nI x) S1 = some (bI (nwB (UN U (T.1 70)) N (T.1 70) T x), S2) ∧ NwA (UN U (T.1 70)) S S2 ∧ (∀ j u, (UN U (T.1 70))[j]? = some u → gi S2 45 u = nI (nwDg N (UN U (T.1 70)).length x j)) ∧ ∀ r, r ≠ 45 → S2.1 r = S1.1 r := by
  have l4 : (UN U (T.1 70)).length ≤ 4 := Nat.le_trans (List.length_filter_le _ _) h.2.2.1.2.1
  have h8 := h.1.2.2.2.2.2.2.1
  have h5 := h.1.2.2.2.2.2.2.2.1
  have hu := h.2.2.1
  have nd : (UN U (T.1 70)).Nodup := hu.1.filter _
  have nm : ∀ S1, SamS S S1 → Nt_mouths S1 = nI N := fun S1 g => n_m (h.same g (SamT.rfl T)).1
  obtain ⟨n, hn⟩ : ∃ n, n = (UN U (T.1 70)).length := ⟨_, rfl⟩
  have l4 : n ≤ 4 := by omega
  suffices hl : ∃ S2, lpN Sg_isNet_L9 FU (nI x, gi S1 42 7 - nI 1, S1) = some S2 ∧ NwA (UN U (T.1 70)) S S2 ∧ (∀ j u, 0 ≤ j → (UN U (T.1 70))[j]? = some u → gi S2 45 u = nI (nwDg N (UN U (T.1 70)).length x j)) ∧ ∀ r, r ≠ 45 → S2.1 r = S1.1 r by
    obtain ⟨S2, e, a1, a2, a3⟩ := hl
    have a2 : ∀ j u, (UN U (T.1 70))[j]? = some u → gi S2 45 u = nI (nwDg N (UN U (T.1 70)).length x j) := fun j u => a2 j u (Nat.zero_le _)
    refine ⟨S2, ?_, a1, a2, a3⟩
    obtain ⟨f, hf⟩ : ∃ f : Nat → Int32, f = fun k => if k ∈ UN U (T.1 70) then gi S2 45 k else T.1 70 k := ⟨_, rfl⟩
    have hr : NwRow (UN U (T.1 70)) N (UN U (T.1 70)).length x (T.1 70) f := by
      refine ⟨fun j u hj => ?_, fun k hk => ?_⟩
      · have hj2 : j < (UN U (T.1 70)).length := (List.getElem?_eq_some_iff.mp hj).1
        rw [hf, if_pos hj2]
        show (if u ∈ UN U (T.1 70) then gi S2 45 u else T.1 70 u) = _
        rw [if_pos (List.mem_of_getElem? hj)]
        exact a2 j u hj
      · rw [hf]; exact if_neg hk
    have hd := h.2.2.2.1.1 hN
    have lf : ∀ m c, m < N → c < K → gi S2 45 (5 * m + c) = nI (Ld f m c) ∧ Ld f m c < N := fun m c hm hc => by
      have := nw_ld h8 hd hr a2 a1.2.2.2 hm (by omega : c < 5)
      exact ⟨this.1, this.2.1⟩
    obtain ⟨l, hl, s1, s2, s3⟩ := h.2.2.2.2.2.2.2.1
    have g43 : ∀ j, gi S2 43 j = gi S 43 j := fun j => congrFun (a1.1.row 43 fun _ => rfl) j
    have g426 : gi S2 42 6 = nI l := (a1.1 42 6 rfl).trans s2
    have ff : ∀ i, i < l → Sg_fits (nI i * 4) S2 = some (bI (decide (wk (Ld f) (ix (gi T 82 i)) (ix (gi T 83 i)) (ix (gi T 81 i)) = ix (gi T 84 i)))) := fun i hi => by
      obtain ⟨m, c, k, t, hm, hc, hk1, hk, ht, ⟨p1, q1⟩, ⟨p2, q2⟩, ⟨p3, q3⟩, p4, q4⟩ := s3 i hi
      rw [q1, q2, q3, q4, q_ix (by omega), q_ix (by omega), q_ix (by omega), q_ix (by omega), show nI i * 4 = nI (4 * i) by rw [Nat.mul_comm]; exact q_mul i 4]
      exact sg_fits h8 h5 lf (by omega) hm hc hk ht ((g43 _).trans p1) ((g43 _).trans p2) ((g43 _).trans p3) ((g43 _).trans p4)
    suffices h2 : ∃ r, lpN (Sg_isNet_L58 S2) FU (nI 0) = some r ∧ ((r = .inr () ∧ NwFit (UN U (T.1 70)) N (T.1 70) T x) ∨ r = .inl () ∧ ¬ NwFit (UN U (T.1 70)) N (T.1 70) T x) by
      obtain ⟨r, er, hr2⟩ := h2
      unfold Sg_isNet
      rw [show (1 : Int32) = nI 1 from rfl, e, q_bind, show (0 : Int32) = nI 0 from rfl, er]
      rcases hr2 with ⟨rfl, y⟩ | ⟨rfl, y⟩
      · rw [nwB_t y]; rfl
      · rw [nwB_f y]; rfl
    refine lp_inv (fun i (q : Int32) => q = nI i ∧ ∀ i', i' < i → wk (Ld f) (ix (gi T 82 i')) (ix (gi T 83 i')) (ix (gi T 81 i')) = ix (gi T 84 i')) l (by omega) ⟨rfl, fun i' hi => absurd hi (by omega)⟩ (fun i q hi hq => ?_) (fun q hq => ?_)
    · obtain ⟨rfl, hq⟩ := hq
      have c0 : ¬ gi S2 42 6 ≤ nI i := by rw [g426, q_le (by omega) (by omega)]; omega
      by_cases z : wk (Ld f) (ix (gi T 82 i)) (ix (gi T 83 i)) (ix (gi T 81 i)) = ix (gi T 84 i)
      · refine Or.inl ⟨nI (i + 1), ?_, rfl, fun i' hi' => ?_⟩
        · unfold Sg_isNet_L58
          rw [if_neg c0, ff i hi, decide_eq_true z, q_bind, if_neg (by decide), show (1 : Int32) = nI 1 from rfl, q_add]
        · by_cases y : i' = i
          · rw [y]; exact z
          · exact hq i' (by omega)
      · refine Or.inr ⟨.inl (), ?_, Or.inr ⟨rfl, fun hf2 => ?_⟩⟩
        · unfold Sg_isNet_L58
          rw [if_neg c0, ff i hi, decide_eq_false z, q_bind, if_pos (by decide)]
        · exact z ((NwFit.of hr).mp hf2 i l s1 hl hi)
    · obtain ⟨rfl, hq⟩ := hq
      have c0 : gi S2 42 6 ≤ nI l := by rw [g426, q_le (by omega) (by omega)]; exact Nat.le_refl _
      refine ⟨.inr (), ?_, Or.inl ⟨rfl, (NwFit.of hr).mpr fun i l' e1 _ hi => ?_⟩⟩
      · unfold Sg_isNet_L58
        rw [if_pos c0]
      · have : l' = l := (q_eq (by omega) (by omega)).mp (e1.symm.trans s1)
        exact hq i (by omega)
  have hxk : ∀ k, x / N ^ k ≤ x := fun k => Nat.div_le_self _ _
  refine lp_inv (fun k (q : Int32 × Int32 × Sm) => q.1 = nI (x / N ^ k) ∧ q.2.1 = (if k < n then nI (n - 1 - k) else mI) ∧ NwA (UN U (T.1 70)) S q.2.2 ∧ (∀ j u, n - k ≤ j → (UN U (T.1 70))[j]? = some u → gi q.2.2 45 u = nI (nwDg N (UN U (T.1 70)).length x j)) ∧ ∀ r, r ≠ 45 → q.2.2.1 r = S1.1 r) n (by omega) ⟨?_, ?_, hA, fun j u hj hu => ?_, fun _ _ => rfl⟩ (fun k q hk hq => ?_) (fun q hq => ?_)
  · show nI x = nI (x / N ^ 0)
    rw [Nat.pow_zero, Nat.div_one]
  · show gi S1 42 7 - nI 1 = _
    rw [hA.2.1, ← hn]
    by_cases z : 0 < n
    · rw [if_pos z, q_sub (by omega)]; rfl
    · rw [if_neg z, show n = 0 by omega]; rfl
  · have := (List.getElem?_eq_some_iff.mp hu).1
    omega
  · obtain ⟨q1, q2, S3⟩ := q
    obtain ⟨hq1, hq2, a1, a2, a3⟩ := hq
    have hq1 : q1 = nI (x / N ^ k) := hq1
    have hq2 : q2 = _ := hq2
    have a1 : NwA (UN U (T.1 70)) S S3 := a1
    rw [if_pos hk] at hq2
    subst hq1 hq2
    have hxx := hxk k
    obtain ⟨u, hu1⟩ : ∃ u, (UN U (T.1 70))[n - 1 - k]? = some u := ⟨_, List.getElem?_eq_getElem (by omega)⟩
    have ulm := (un_lt hu h8 h5 (List.mem_of_getElem? hu1)).1
    have e44 : gi S3 44 (n - 1 - k) = nI u := a1.2.2.1 _ u hu1
    have hmx : iMax 1 (Nt_mouths S3) = nI N := by
      rw [nm S3 a1.1, show (1 : Int32) = nI 1 from rfl, q_max (by omega) (by omega), Nat.max_eq_right hN]
    have dge : nwDg N (UN U (T.1 70)).length x (n - 1 - k) = x / N ^ k % N := by
      unfold nwDg
      rw [← hn, show n - 1 - (n - 1 - k) = k by omega]
    have hml : x / N ^ k % N < N := Nat.mod_lt _ hN
    have hS4 : ∀ r, r ≠ 45 → (si S3 45 u (nI (x / N ^ k % N))).1 r = S3.1 r := fun r hr => si_row hr
    refine Or.inl ⟨(nI (x / N ^ (k + 1)), if k + 1 < n then nI (n - 1 - (k + 1)) else mI, si S3 45 u (nI (x / N ^ k % N))), ?_, rfl, rfl, ⟨a1.1.si rfl, a1.2.1, a1.2.2.1, fun k' hk' hk2 => ?_⟩, fun j u' hj hu' => ?_, fun r hr => (hS4 r hr).trans (a3 r hr)⟩
    · unfold Sg_isNet_L9
      have c1 : ¬ nI (n - 1 - k) < 0 := nI_pos (by omega)
      have c2 : ¬ nI N = 0 := fun z => by
        have := (q_eq (by omega) (by omega)).mp (show nI N = nI 0 from z)
        omega
      simp only []
      rw [if_pos (show k < n by omega), if_neg c1, hmx, if_neg c2, q_at (by omega) (by omega), e44, q_rem (by omega) hN (by omega), q_pu ulm (by omega)]
      show (if nI N = 0 then none else some (Sum.inl (nI (x / N ^ k) / nI N, nI (n - 1 - k) + mI, si S3 45 u (nI (x / N ^ k % N))))) = _
      rw [if_neg c2, q_div (by omega) hN (by omega), Nat.div_div_eq_div_mul, ← Nat.pow_succ]
      by_cases z : k + 1 < n
      · rw [if_pos z, q_addm (by omega), show n - 1 - k - 1 = n - 1 - (k + 1) by omega]
      · rw [if_neg z, show n - 1 - k = 0 by omega]; rfl
    · show (if 45 = 45 ∧ k' = u then nI (x / N ^ k % N) else gi S3 45 k') = _
      rw [if_neg (fun (z : 45 = 45 ∧ k' = u) => hk2 (z.2 ▸ List.mem_of_getElem? hu1))]
      exact a1.2.2.2 k' hk' hk2
    · show (if 45 = 45 ∧ u' = u then nI (x / N ^ k % N) else gi S3 45 u') = _
      by_cases z : j = n - 1 - k
      · subst z
        rw [hu1] at hu'
        rw [if_pos ⟨rfl, (Option.some.inj hu').symm⟩, dge]
      · have : ¬ u' = u := fun y => by
          subst y
          obtain ⟨b1, b2⟩ := List.getElem?_eq_some_iff.mp hu'
          obtain ⟨b3, b4⟩ := List.getElem?_eq_some_iff.mp hu1
          exact z ((List.getElem?_inj b1 nd).mp (hu'.trans hu1.symm))
        rw [if_neg fun e => this e.2]
        exact a2 j u' (by omega) hu'
  · obtain ⟨q1, q2, S3⟩ := q
    obtain ⟨hq1, hq2, a1, a2, a3⟩ := hq
    have hq2 : q2 = _ := hq2
    rw [if_neg (Nat.lt_irrefl n)] at hq2
    subst hq2
    refine ⟨S3, ?_, a1, fun j u _ hj => a2 j u (by omega) hj, a3⟩
    unfold Sg_isNet_L9
    exact if_pos (show mI < 0 by decide)
end NX
