/-! ===== train ===== -/
section TR
variable {N K F R w : Nat} {U : List Nat} {X : List (List Cl)} {T S : Sm}
theorem exS_rel (h : RelP N K F R U X w T S) (hw : w < 1000) : RelP N K F R U X (w + 1) T (exS S) ∧ gNs S ≤ gNs (exS S) := by
  obtain ⟨h1, h2, h3, h4, h5, h6, h7, h8, h9, h10, h11⟩ := h
  have row : ∀ b, b ≠ 31 → (exS S).1 b = S.1 b := fun b hb => funext fun j => by
    show (if b = 31 ∧ j = 40 then _ else if b = 31 ∧ j = 1000 + gNs S then 0 else S.1 b j) = S.1 b j
    rw [if_neg fun e => hb e.1, if_neg fun e => hb e.1]
  have hb := h5.1.2.1
  have lowj : ∀ j, j < 40 → gi (exS S) 31 j = gi S 31 j := fun j hj => by
    show (if 31 = 31 ∧ j = 40 then _ else if 31 = 31 ∧ j = 1000 + gNs S then 0 else S.1 31 j) = S.1 31 j
    rw [if_neg (by omega), if_neg (by omega)]
  have hn : gNs (exS S) = gNs S + 1 := by
    show ix (if 31 = 31 ∧ 40 = 40 then nI (gNs S + 1) else if 31 = 31 ∧ 40 = 1000 + gNs S then 0 else S.1 31 40) = _
    rw [if_pos ⟨rfl, rfl⟩, q_ix (by omega)]
  have hx : ∀ x, x < gNs S → (exS S).1 31 (1000 + x) = S.1 31 (1000 + x) := fun x hx => by
    show (if 31 = 31 ∧ 1000 + x = 40 then _ else if 31 = 31 ∧ 1000 + x = 1000 + gNs S then 0 else S.1 31 (1000 + x)) = _
    rw [if_neg (by omega), if_neg (by omega)]
  have hr : RngR (exS S) (w + 1) := by
    obtain ⟨⟨r1, r2, r3⟩, r4, r5⟩ := h5
    refine ⟨⟨by omega, ?_, fun j hj hne => ?_⟩, fun i j hi hj hij a b => ?_, ?_⟩
    · rw [hn]; have := r5; omega
    · rw [lowj j hj] at hne ⊢
      obtain ⟨c1, c2, c3, c4, c5, c6, c7⟩ := r3 j hj hne
      have c2' : ix (gi S 31 j) + 5 ≤ gNs S := c2
      refine ⟨c1, ?_, ?_, ?_, ?_, ?_, ?_⟩
      · have : ix ((exS S).1 31 40) = gNs S + 1 := hn
        omega
      · rw [hx _ (by omega)]; exact c3
      · rw [hx _ (by omega)]; exact c4
      · rw [hx _ (by omega)]; exact c5
      · rw [hx _ (by omega)]; exact c6
      · rw [hx _ (by omega)]; exact c7
    · rw [lowj i hi] at a ⊢
      rw [lowj j hj] at b ⊢
      exact r4 i j hi hj hij a b
    · rw [hn]
      have : ((List.range 40).filter fun j => gi (exS S) 31 j = 0) = (List.range 40).filter fun j => gi S 31 j = 0 := List.filter_congr fun j hj => by rw [lowj j (List.mem_range.mp hj)]
      rw [this]; omega
  refine ⟨⟨?_, ?_, ?_, ?_, hr, h6.of h5 (fun b hb => row b (by omega)) (row 30 (by omega)) lowj (row 13 (by omega)) rfl rfl, ?_, ?_, ?_, ?_, ?_⟩, by omega⟩
  · simp only [NetR, gi, row 11 (by omega)] at h1 ⊢; exact h1
  · simp only [TldR, gi, row 11 (by omega), row 12 (by omega)] at h2 ⊢; exact h2
  · simp only [UnkR, gi, row 11 (by omega), row 12 (by omega)] at h3 ⊢; exact h3
  · rw [row 13 (by omega), row 25 (by omega), row 26 (by omega), row 27 (by omega), row 28 (by omega), row 29 (by omega)]; exact h4
  · simp only [ImgR, gi, row 30 (by omega), row 13 (by omega), row 33 (by omega), row 34 (by omega), row 35 (by omega), row 36 (by omega), row 32 (by omega)] at h7 ⊢; exact h7
  · simp only [StrR, gi, row 43 (by omega), row 42 (by omega)] at h8 ⊢; exact h8
  · simp only [TapR, gi, row 9 (by omega), row 8 (by omega)] at h9 ⊢; exact h9
  · simp only [FogR, gi, row 40 (by omega)] at h10 ⊢; exact h10
  · simp only [LawsR, LawC, gi, row 20 (by omega), row 21 (by omega), row 22 (by omega)] at h11 ⊢; exact h11
theorem neg_age {a b : Nat} (h : a < b) (hb : b < 1000000) : nI a - nI b < 0 := pk_sneg (by omega) h
theorem lamp_S {n hh q r : Nat} {gd lg ob : Nat → Int32} (hn : NetR N K F T S) (ho : MoN N K n hh q (T.1 70) (S.1 26) gd lg ob) (e5 : gi S 25 5 = nI hh) (hr : r < n) : ∃ c, (c < K ∨ c = 5) ∧ Hr_lampOf (nI r) S = some (nI c) ∧ Md_lampOf (nI r) T = some (nI c) := by
  have hf := n_f hn
  obtain ⟨-, -, -, -, -, f6, -, h5, hF, -⟩ := hn
  obtain ⟨-, n8, h9, -, -, ⟨d1, d2⟩, -, -, ht, -⟩ := ho
  obtain ⟨m, c, s, t, d, hm, hc, hs, -, -, -, ⟨c1, c2⟩, ⟨s1, s2⟩, -⟩ := ht r hr
  have hc6 : c < 6 := by omega
  have c1 : gi T 70 (88 + 6 * r + 1) = nI c := c1
  have c2 : gi S 26 (7 * r + 1) = nI c := c2
  have s1 : gi T 70 (88 + 6 * r + 2) = nI s := s1
  have s2 : gi S 26 (7 * r + 3) = nI s := s2
  have d1 : gi T 70 137 = nI hh := d1
  unfold Hr_lampOf Md_lampOf Mo_hour
  rw [show (1 : Int32) = nI 1 from rfl, show (2 : Int32) = nI 2 from rfl, show (3 : Int32) = nI 3 from rfl, mo_of (by omega) (by omega), mo_of (by omega) (by omega), md_of (by omega) (by omega), md_of (by omega) (by omega), c1, c2, s1, s2, e5, hf]
  show ∃ c', _ ∧ ((Dk_faded (nI c) (nI hh - nI s) (nI F)).bind _) = _ ∧ ((Md_faded (nI c) (gi T 70 137 - nI s) T).bind _) = _
  rw [d1]
  by_cases neg : hh < s
  · have ng := neg_age neg (by omega)
    refine ⟨c, hc, ?_, ?_⟩
    · have : Dk_faded (nI c) (nI hh - nI s) (nI F) = some (nI c) := by
        unfold Dk_faded Dk_faded_13
        by_cases c5 : nI c = 5
        · rw [if_pos c5]
        · rw [if_neg c5]
          by_cases f0 : nI F ≤ 0
          · rw [if_pos f0]
          · rw [if_neg f0, if_neg (Int32.not_le.mpr ng)]
      rw [this]; rfl
    · have : Md_faded (nI c) (nI hh - nI s) T = some (nI c) := by
        unfold Md_faded Md_faded_18
        by_cases c5 : nI c = 5
        · rw [if_pos c5]
        · rw [if_neg c5]
          by_cases f0 : gi T 68 3 = 0
          · rw [if_pos f0]
          · rw [if_neg f0, if_neg (fun q => Int32.lt_asymm q ng)]
      rw [this]; rfl
  · rw [q_sub (by omega), dk_fd hc6 (by omega) hF, md_fd f6 hc6 (by omega) hF]
    exact ⟨fd c (hh - s) F, fd_lamp hc, rfl, rfl⟩
theorem op_train (h : RelP N K F R U X w T S) (hw : w < 1000) (x : Nat → Int32) : ∃ T' S', ls_5 x T S T' S' ∧ gNs S ≤ gNs S' ∧ RelP N K F R U X (w + 1) T' S' := by
  have hh := h
  obtain ⟨hn, -, -, ⟨-, n, hr, q, ho⟩, -⟩ := h
  have t1 : ¬ nI 1 = 0 := by decide
  have thr : ∀ v : Int32, gi (si T 53 0 v) 53 0 = v := fun v => by
    show (if 53 = 53 ∧ 0 = 0 then v else T.1 53 0) = v
    rw [if_pos ⟨rfl, rfl⟩]
  have sm : ∀ v : Int32, SamT T (si T 53 0 v) := fun v => (SamT.rfl T).si rfl
  have throws : (¬ trOK (x 1) (x 2) S) → Md_train (x 1) (x 2) T = some (0, si T 53 0 1) → ∃ T' S', ls_5 x T S T' S' ∧ gNs S ≤ gNs S' ∧ RelP N K F R U X (w + 1) T' S' := by
    intro no e
    obtain ⟨g1, g2⟩ := exS_rel (hh.same (SamS.rfl S) (sm 1)) hw
    exact ⟨si T 53 0 1, exS S, ⟨_, e, rfl, Or.inr ⟨no, thr 1, rfl⟩⟩, g2, g1⟩
  rcases trainC (M := T.1 70) ho (x 1) with ⟨a, b⟩ | ⟨r, hrn, e1, a, b⟩
  · refine throws (fun o => o.1 a) ?_
    unfold Md_train Md_train_22 Md_train_23
    rw [b, if_pos (show nI 0 = 0 from rfl), thr, if_pos rfl]
  · rcases rngG (x 2) 0 3 (by omega) (by omega) with ⟨z, f⟩ | ⟨k, -, hk, e2, f⟩
    · refine throws (fun o => z.elim o.2.1 o.2.2) ?_
      unfold Md_train Md_train_22 Md_train_23
      rw [b, if_neg t1, show Md_in (x 2) 0 3 = nI 0 from f, if_pos (show nI 0 = 0 from rfl), thr, if_pos rfl]
    · have hT' := sm 0
      have hok : trOK (x 1) (x 2) S := by
        refine ⟨fun e => t1 (a.symm.trans e), ?_, ?_⟩
        · rw [e2]; exact nI_pos (by omega)
        · rw [e2]; exact nI_nlt (a := 3) (b := k) hk (by omega)
      have rel := hh.same (SamS.rfl S) hT'
      have hn2 := rel.1
      have ho2 : MoN N K n hr q ((si T 53 0 0).1 70) (S.1 26) (S.1 28) (S.1 29) (S.1 25) := by
        rw [hT'.row 70 fun _ => rfl]; exact ho
      have n8 := ho.2.1
      obtain ⟨-, -, h9, -, -, ⟨d1, d2⟩, -, -, ht, -⟩ := ho
      obtain ⟨c, hc, l1, l2⟩ := lamp_S hn2 ho2 d2 hrn
      obtain ⟨m, c', s, t, d, -, -, -, -, -, ⟨m1, m2⟩, -, -, -, ⟨k1, k2⟩, hd⟩ := ht r hrn
      have val : ∃ v, Dk_trainV (nI r) (nI k) S = some v ∧ Md_train (nI r) (nI k) T = some (v, si T 53 0 0) := by
        have b' : Md_isTrain (nI r) T = nI 1 := e1 ▸ b
        have f' : Md_in (nI k) 0 3 = nI 1 := e2 ▸ f
        unfold Md_train Md_train_23 Md_train_91 Dk_trainV
        rw [b', if_neg t1, f', if_neg t1, thr, if_neg (show ¬ (0 : Int32) = 1 by decide), show (0 : Int32) = nI 0 from rfl, show (1 : Int32) = nI 1 from rfl, show (2 : Int32) = nI 2 from rfl, show (4 : Int32) = nI 4 from rfl, show (5 : Int32) = nI 5 from rfl]
        have mo : ∀ j, j < 6 → Md_of (nI r) (nI j) (si T 53 (0 : Nat) (nI 0)) = some (gi T 70 (88 + 6 * r + j)) := fun j hj => by
          rw [md_of (by omega) hj]; rfl
        have k4 : k = 0 ∨ k = 1 ∨ k = 2 ∨ k = 3 := by omega
        rcases k4 with rfl | rfl | rfl | rfl
        · rw [if_pos rfl, if_pos rfl, mo_of (by omega) (by omega), mo 0 (by omega)]
          refine ⟨_, rfl, ?_⟩
          show some (gi T 70 (88 + 6 * r + 0), _) = _
          rw [show gi T 70 (88 + 6 * r + 0) = nI m from m1, show gi S 26 (7 * r + 0) = nI m from m2]
        · rw [if_neg (by decide), if_pos rfl, if_neg (by decide), if_pos rfl, l1]
          refine ⟨_, rfl, ?_⟩
          show ((Md_lampOf (nI r) (si T 53 0 (nI 0))).bind _) = _
          have l2' : Md_lampOf (nI r) (si T 53 0 (nI 0)) = some (nI c) := l2
          rw [l2']; rfl
        · rw [if_neg (by decide), if_neg (by decide), if_pos rfl, if_neg (by decide), if_neg (by decide), if_pos rfl, mo_of (by omega) (by omega), mo 4 (by omega)]
          refine ⟨_, rfl, ?_⟩
          show some (gi T 70 (88 + 6 * r + 4), _) = _
          rw [show gi T 70 (88 + 6 * r + 4) = nI d from k1, show gi S 26 (7 * r + 4) = nI d from k2]
        · rw [if_neg (by decide), if_neg (by decide), if_neg (by decide), if_neg (by decide), if_neg (by decide), if_neg (by decide), mo_of (by omega) (by omega), mo 5 (by omega)]
          rcases hd with ⟨p1, p2⟩ | ⟨u, u1, u2, p1, p2, p3⟩
          · refine ⟨_, rfl, ?_⟩
            show (if gi T 70 (88 + 6 * r + 5) = -1 then _ else _) = _
            rw [show gi T 70 (88 + 6 * r + 5) = mI from p1, show gi S 26 (7 * r + 5) = nI 0 from p2, if_pos (show mI = -1 from rfl)]
          · refine ⟨_, rfl, ?_⟩
            show (if gi T 70 (88 + 6 * r + 5) = -1 then _ else _) = _
            rw [show gi T 70 (88 + 6 * r + 5) = nI u from p1, show gi S 26 (7 * r + 5) = nI 1 from p2, if_neg (show ¬ nI u = -1 from fun e => (q_eqm (by omega)).mp e)]
      obtain ⟨v, w1, w2⟩ := val
      refine ⟨si T 53 0 0, sl S 90 0 (Int32.toInt64 v), ⟨(v, si T 53 0 0), ?_, rfl, Or.inl ⟨hok, v, ?_, thr 0, rfl, rfl⟩⟩, Nat.le_refl _, ?_⟩
      · rw [e1, e2]; exact w2
      · rw [e1, e2]; exact w1
      · exact (rel.same ((SamS.rfl S).sl) (SamT.rfl _)).up (by omega)
end TR
