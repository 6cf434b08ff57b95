/-! ===== a net's text: fault and text ===== -/
section TX
variable {N K F R w : Nat} {U : List Nat} {X : List (List Cl)} {T S : Sm}
theorem lx_of (h : TapR T S) : ∃ n b, LxB n b T S := by
  obtain ⟨n, n1, n2, n3, n4⟩ := h
  refine ⟨n, fun i => ix (gi T 54 i), n1, fun i hi => ?_, n3, fun i hi => ?_, n2, fun i hi => ?_⟩
  · obtain ⟨b, b1, b2, b3, b4⟩ := n4 i hi
    have e : ix (gi T 54 i) = b := by rw [b4, q_ix (by omega)]
    show 1 ≤ ix (gi T 54 i) ∧ ix (gi T 54 i) ≤ 255
    rw [e]; exact ⟨b1, b2⟩
  · obtain ⟨b, b1, b2, b3, b4⟩ := n4 i hi
    have e : ix (gi T 54 i) = b := by rw [b4, q_ix (by omega)]
    show gi S 9 i = nI (ix (gi T 54 i))
    rw [e]; exact b3
  · obtain ⟨b, b1, b2, b3, b4⟩ := n4 i hi
    have e : ix (gi T 54 i) = b := by rw [b4, q_ix (by omega)]
    show gi T 54 i = nI (ix (gi T 54 i))
    rw [e]; exact b4
theorem fm_congr {α β : Type} {f g : α → Option β} : ∀ l : List α, (∀ x, x ∈ l → f x = g x) → l.filterMap f = l.filterMap g
  | [], _ => rfl
  | a :: l, h => by
    rw [List.filterMap_cons, List.filterMap_cons, h a (List.mem_cons_self ..), fm_congr l fun x hx => h x (List.mem_cons_of_mem a hx)]
theorem net_begins {m : Nat → Nat} {T2 S2 : Sm} (hrel : RelP N K F R U X w T S) (sS : SamS S S2) (sT : SamT T T2) (hd : NdO m T2 S2) (h0 : m 0 = 1) (hs : SndN m S2) : ∃ S7 T7, (app (Tp_cut 0 S2) fun q8 => ((Nt_become_14 q8.2).bind fun q9 => ((Mo_begin_10 q9).bind fun q10 => (app (Ac_forget q10) fun q11 => (app (Sg_forget q11) fun q12 => (some ((Nt_mouths q12, q12)))))))) = some (nI (xN S2 0 0 0), S7) ∧ Md_takeAll (si T2 53 2 0) = some (nI (xN S2 0 0 0), T7) ∧ S7.1 31 = S.1 31 ∧ ∃ N' K' F' R' U', RelP N' K' F' R' U' X w T7 S7 := by
  have hrel2 := hrel.same sS sT
  obtain ⟨n, b, hB⟩ := lx_of hrel2.2.2.2.2.2.2.2.2.1
  have c0 : Tp_cut 0 S2 = (1, si S2 8 1 0) := by
    unfold Tp_cut
    rw [if_neg (show ¬ (0 : Int32) < 0 by decide), hB.2.2.1, if_pos (show (0 : Int32) ≤ nI n from nI_le (a := 0) (Nat.zero_le _) (by have := hB.1; omega))]
  generalize hS3 : si S2 8 1 0 = S3 at c0
  have s3 : ∀ i j, ¬ (i = 8 ∧ j = 1) → S3.1 i j = S2.1 i j := fun i j a => by subst hS3; exact tb_n a
  have ex : ∀ k e s, xN S3 k e s = xN S2 k e s := fun k e s => by unfold xN; rw [show gi S3 15 _ = gi S2 15 _ from s3 15 _ fun e => absurd e.1 (by decide)]
  have hd3 : NdO m T2 S3 := by
    obtain ⟨g1, g2, g3, g4⟩ := hd
    exact ⟨fun k hk => ⟨(g1 k hk).1, (s3 16 k fun e => absurd e.1 (by decide)).trans (g1 k hk).2⟩, g2, fun k hk e he s hs => (g3 k hk e he s hs).elim fun x hx => ⟨x, hx.1, hx.2.1, (s3 15 _ fun e => absurd e.1 (by decide)).trans hx.2.2.1, hx.2.2.2⟩, g4⟩
  have hs3 : SndN m S3 := by
    simp only [SndN, TuG, TrG, GuG, unN, ex] at hs ⊢; exact hs
  rw [← ex]
  obtain ⟨S4, e4, f1, f2, f3, f4, f5⟩ := nt_begin hd3 hs3
  obtain ⟨S5, e5, g1, ⟨g2, g3, g4, g5⟩, g6, g7, g8, g9⟩ := mo_begin hd3 h0 hs3 f2 f3
  obtain ⟨T7, t1, t2, t3, ⟨t4, t5, t6, t7, t8, t9⟩, t10, t11, t12, t13, t14, ⟨t15, t16, t17, t18⟩, t19, t20⟩ := md_take hd3 h0 hs3
  generalize hS7 : si (si (si S5 30 4 0) 30 3 0) 42 6 0 = S7
  have m1 : m 1 ≤ 18 := (hd3.1 1 (by omega)).1
  have m2 : m 2 ≤ 6 := (hd3.1 2 (by omega)).1
  have m3 : m 3 ≤ 4 := (hd3.1 3 (by omega)).1
  obtain ⟨N1, N8, -, -⟩ := nd_x hd3 (k := 0) (e := 0) (s := 0) (by omega) (by omega) (by decide)
  obtain ⟨K1, K5, -, -⟩ := nd_x hd3 (k := 0) (e := 0) (s := 1) (by omega) (by omega) (by decide)
  obtain ⟨-, H23, -, -⟩ := nd_x hd3 (k := 0) (e := 0) (s := 2) (by omega) (by omega) (by decide)
  obtain ⟨-, F9, -, -⟩ := nd_x hd3 (k := 0) (e := 0) (s := 3) (by omega) (by omega) (by decide)
  have N1 : 1 ≤ xN S3 0 0 0 := N1
  have N8 : xN S3 0 0 0 ≤ 8 := N8
  have K1 : 1 ≤ xN S3 0 0 1 := K1
  have K5 : xN S3 0 0 1 ≤ 5 := K5
  have H23 : xN S3 0 0 2 ≤ 23 := H23
  have F9 : xN S3 0 0 3 ≤ 9 := F9
  have r7 : ∀ i j, i ≠ 30 → i ≠ 42 → S7.1 i j = S5.1 i j := fun i j a c => by
    subst hS7
    show gi _ i j = gi S5 i j
    rw [tb_n fun e => c e.1, tb_n fun e => a e.1, tb_n fun e => a e.1]
  have r30 : gi S7 30 3 = nI 0 ∧ gi S7 30 4 = nI 0 ∧ ∀ j, j ≠ 3 → j ≠ 4 → gi S7 30 j = gi S5 30 j := by
    subst hS7
    refine ⟨(tb_n fun e => absurd e.1 (by decide)).trans tb_h, (tb_n fun e => absurd e.1 (by decide)).trans ((tb_n fun e => absurd e.2 (by decide)).trans tb_h), fun j a c => (tb_n fun e => absurd e.1 (by decide)).trans ((tb_n fun e => a e.2).trans (tb_n fun e => c e.2))⟩
  have r42 : gi S7 42 6 = nI 0 := by subst hS7; exact tb_h
  -- everything that stays
  have old : ∀ b, b ≠ 8 → b ≠ 11 → b ≠ 12 → b ≠ 13 → b ≠ 25 → b ≠ 26 → b ≠ 27 → b ≠ 28 → b ≠ 30 → b ≠ 42 → (∀ j, scS b j = false) → S7.1 b = S.1 b := fun b a1 a2 a3 a4 a5 a6 a7 a8 a9 a10 hsc => funext fun j => (r7 b j a9 a10).trans ((g1 b j a5 a6 a7 a8).trans ((f1 b j a2 a3 a4).trans ((s3 b j fun e => a1 e.1).trans (sS b j (hsc j)))))
  have n11 : ∀ j, j < 116 → gi S7 11 j = gi S3 15 j := fun j hj => (r7 11 j (by omega) (by omega)).trans ((g1 11 j (by omega) (by omega) (by omega) (by omega)).trans (f2 j hj))
  have n12 : ∀ j, j < 4 → gi S7 12 j = gi S3 16 j := fun j hj => (r7 12 j (by omega) (by omega)).trans ((g1 12 j (by omega) (by omega) (by omega) (by omega)).trans (f3 j hj))
  have n13 : ∀ j, gi S7 13 j = gi S4 13 j := fun j => (r7 13 j (by omega) (by omega)).trans (g1 13 j (by omega) (by omega) (by omega) (by omega))
  have n2x : ∀ i j, i ≠ 30 → i ≠ 42 → gi S7 i j = gi S5 i j := r7
  have i15 : ∀ k, k < 4 → ∀ e, e < m k → ∀ s, s < nsN k → gi S7 11 (4 * (fiN k + e) + s) = nI (xN S3 k e s) := fun k hk e he s hs => by
    have tc := t_cap k hk
    have := (ns_le k).1
    have mk := (hd3.1 k hk).1
    have x := (nd_x hd3 hk he hs).2.2.1
    rw [dr_it hk (by omega) (by omega)] at x
    exact (n11 _ (by omega)).trans x
  have tT : ∀ b, b ≠ 53 → b ≠ 68 → b ≠ 69 → b ≠ 70 → b ≠ 71 → b ≠ 72 → (∀ j, scT b j = false) → T7.1 b = T.1 b := fun b a1 a2 a3 a4 a5 a6 hsc => funext fun j => (t2 b j a1 a2 a3 a4 a5 a6).trans (sT b j (hsc j))
  have tT53 : ∀ j, j ≠ 2 → j ≠ 26 → j ≠ 30 → j ≠ 34 → j ≠ 49 → j ≠ 57 → scT 53 j = false → gi T7 53 j = gi T 53 j := fun j a b c d e f hsc => (t3 j a b c d e f).trans (sT 53 j hsc)
  have dkM : DkR (xN S3 0 0 0) (Unk S3 (m 1)) (S7.1 13) (T7.1 70) (S7.1 27) := fun mm c hm hc => by
    by_cases y : ∃ e, e < m 1 ∧ dkN S3 e = 5 * mm + c
    · obtain ⟨e, he, hk⟩ := y
      obtain ⟨p0, p1, p2, p3, p4, p5⟩ := dk_lt hd3 he
      have u1 := (t13 e he).1
      have u2 := (t13 e he).2
      have u3 := (n2x 27 (dkN S3 e) (by omega) (by omega)).trans (g7 e he)
      have u4 := (n13 (dkN S3 e)).trans (f5 e he)
      rw [hk] at u1 u2 u3 u4
      have u1 : T7.1 70 (5 * mm + c) = (if xN S3 1 e 2 = 8 then mI2 else nI (xN S3 1 e 2)) := u1
      have u2 : T7.1 70 (40 + (5 * mm + c)) = nI (xN S3 1 e 3) := u2
      have u3 : S7.1 27 (5 * mm + c) = (if xN S3 1 e 2 = 8 then mI else nI (xN S3 1 e 2)) := u3
      have u4 : S7.1 13 (5 * mm + c) = nI (xN S3 1 e 3) := u4
      refine ⟨?_, u2.trans u4.symm, xN S3 1 e 3, p3, p4, u4⟩
      by_cases z : xN S3 1 e 2 = 8
      · rw [if_pos z] at u1 u3
        exact Or.inl ⟨u1, u3, unk_mem.mpr ⟨e, he, z, hk⟩⟩
      · rw [if_neg z] at u1 u3
        exact Or.inr (Or.inr ⟨xN S3 1 e 2, ((hs3.1 e he).2.2.1).resolve_left z, u1, u3⟩)
    · have hn : ∀ e, e < m 1 → dkN S3 e ≠ 5 * mm + c := fun e he z => y ⟨e, he, z⟩
      have u := t12 (5 * mm + c) (by omega) hn
      have u3 := (n2x 27 (5 * mm + c) (by omega) (by omega)).trans (g6 mm c hm hc hn)
      have u4 := (n13 (5 * mm + c)).trans (f4 (5 * mm + c) (by omega) hn)
      exact ⟨Or.inr (Or.inl ⟨u.1, u3, u4⟩), u.2.trans u4.symm, 1, by omega, by omega, u4⟩
  have gcnt : ∀ g, cntN (fun e => decide (xN S3 3 e 0 = g)) (m 3) ≤ 9 := fun g => by
    have := cnt_le (fun e => decide (xN S3 3 e 0 = g)) (m 3)
    omega
  obtain ⟨h1, h2, h3, h4, h5, h6, h7, h8, h9, h10, h11⟩ := hrel
  refine ⟨S7, T7, ?_, t1, old 31 (by omega) (by omega) (by omega) (by omega) (by omega) (by omega) (by omega) (by omega) (by omega) (by omega) (fun _ => rfl), xN S3 0 0 0, xN S3 0 0 1, xN S3 0 0 3, m 2, Unk S3 (m 1), ?_⟩
  · rw [c0, q_app, e4, q_bind, e5, q_bind, q_app, q_app]
    unfold Ac_forget Sg_forget
    rw [hS7]
    show some (Nt_mouths S7, S7) = _
    have : Nt_mouths S7 = nI (xN S3 0 0 0) := (nim_0 (S := S7) (s := 0) (by omega)).trans (i15 0 (by omega) 0 (by omega) 0 (by decide))
    rw [this]
  refine ⟨⟨i15 0 (by omega) 0 (by omega) 0 (by decide), i15 0 (by omega) 0 (by omega) 1 (by decide), i15 0 (by omega) 0 (by omega) 3 (by decide), t10 0 (by omega), t10 1 (by omega), t10 3 (by omega), N8, K5, F9, ⟨fun z => absurd z (by omega), fun z => absurd z (by omega)⟩⟩, ⟨m2, (n12 2 (by omega)).trans (hd3.1 2 (by omega)).2, t5, fun r hr => ?_⟩, ⟨unk_nd hd3 hs3 (m 1) (Nat.le_refl _), by rw [unk_len]; exact hs3.2.1, t6, fun j hj => ?_, m 1, dkN S3, m1, (n12 1 (by omega)).trans (hd3.1 1 (by omega)).2, fun i hi => ?_, ?_⟩, ⟨fun _ => dkM, m 2, xN S3 0 0 2, 0, ?_⟩, ?_, ?_, ⟨t9.trans r30.1.symm, Or.inl r30.1⟩, ⟨0, by omega, t8, r42, fun i z => absurd z (by omega)⟩, ⟨0, by omega, t4, ?_, fun i z => absurd z (by omega)⟩, ?_, ?_⟩
  · obtain ⟨x1, x2⟩ := hs3.2.2.1 r hr
    have a := nd_x hd3 (k := 2) (e := r) (s := 2) (by omega) hr (by decide)
    have c := nd_x hd3 (k := 2) (e := r) (s := 3) (by omega) hr (by decide)
    have a2 : xN S3 2 r 2 ≤ 99 := a.2.1
    have c2 : xN S3 2 r 3 ≤ 9 := c.2.1
    have e5 : ∀ s, s < 4 → gi S7 11 (76 + 4 * r + s) = nI (xN S3 2 r s) := fun s hs => by
      have := i15 2 (by omega) r hr s hs
      rwa [show 4 * (fiN 2 + r) + s = 76 + 4 * r + s by show 4 * (19 + r) + s = _; omega] at this
    exact ⟨xN S3 2 r 0, xN S3 2 r 1, xN S3 2 r 2, xN S3 2 r 3, x1, x2.symm, a2, c2, ⟨e5 0 (by omega), t11 r hr 0 (by omega)⟩, ⟨e5 1 (by omega), t11 r hr 1 (by omega)⟩, ⟨e5 2 (by omega), t11 r hr 2 (by omega)⟩, e5 3 (by omega), t11 r hr 3 (by omega)⟩
  · have hu := List.getElem?_eq_getElem hj
    obtain ⟨e, e1, e2, e3⟩ := unk_mem.mp (List.getElem_mem hj)
    obtain ⟨x1, x2, -⟩ := hs3.1 e e1
    obtain ⟨p0, p1, -⟩ := dk_lt hd3 e1
    obtain ⟨w1, w2⟩ := t14 j _ hu
    have e3' : 5 * xN S3 1 e 0 + xN S3 1 e 1 = (Unk S3 (m 1))[j] := e3
    refine ⟨xN S3 1 e 0, xN S3 1 e 1, x1, x2, by rw [hu, e3'], ?_, ?_⟩
    · rw [w1]; exact congrArg nI (by omega)
    · rw [w2]; exact congrArg nI (by omega)
  · obtain ⟨x1, x2, -⟩ := hs3.1 i hi
    have e5 : ∀ s, s < 4 → gi S7 11 (4 + 4 * i + s) = nI (xN S3 1 i s) := fun s hs => by
      have := i15 1 (by omega) i hi s hs
      rwa [show 4 * (fiN 1 + i) + s = 4 + 4 * i + s by show 4 * (1 + i) + s = _; omega] at this
    exact ⟨xN S3 1 i 0, xN S3 1 i 1, x1, x2, rfl, e5 0 (by omega), e5 1 (by omega)⟩
  · show (List.range (m 1)).filterMap _ = (List.range (m 1)).filterMap _
    refine fm_congr _ fun e he => ?_
    have he := List.mem_range.mp he
    by_cases z : xN S3 1 e 2 = 8
    · rw [if_pos z, if_pos (unk_mem.mpr ⟨e, he, z, rfl⟩)]
    · rw [if_neg z, if_neg fun hm => ?_]
      obtain ⟨e', e1, e2, e3⟩ := unk_mem.mp hm
      by_cases y : e' = e
      · subst y; exact z e2
      · rcases Nat.lt_or_gt_of_ne y with q | q
        · exact dk_ne hd3 hs3 he q e3
        · exact dk_ne hd3 hs3 e1 q e3.symm
  · refine ⟨fun g hg => ⟨_, gcnt g, t19 g hg, (n2x 28 g (by omega) (by omega)).trans (g9 g hg)⟩, by omega, by omega, by omega, ⟨t15, (n2x 25 4 (by omega) (by omega)).trans g2⟩, ⟨t16, (n2x 25 5 (by omega) (by omega)).trans g3⟩, t17.trans ((n2x 25 6 (by omega) (by omega)).trans g4).symm, ⟨t18, (n2x 25 7 (by omega) (by omega)).trans g5⟩, fun r hr => ?_, fun i hi => absurd hi (by omega)⟩
    obtain ⟨x1, x2⟩ := hs3.2.2.1 r hr
    have a := nd_x hd3 (k := 2) (e := r) (s := 2) (by omega) hr (by decide)
    have c := nd_x hd3 (k := 2) (e := r) (s := 3) (by omega) hr (by decide)
    have a2 : xN S3 2 r 2 ≤ 99 := a.2.1
    have c2 : xN S3 2 r 3 ≤ 9 := c.2.1
    obtain ⟨y0, y1, y2, y3, y4, y5⟩ := t20 r hr
    obtain ⟨z0, z1, z2, z3, z4, z5⟩ := g8 r hr
    have q26 : ∀ j v, gi S5 26 j = v → gi S7 26 j = v := fun j v e => (n2x 26 j (by omega) (by omega)).trans e
    exact ⟨xN S3 2 r 0, xN S3 2 r 1, xN S3 0 0 2 + xN S3 2 r 2, xN S3 0 0 2 + xN S3 2 r 2, xN S3 2 r 3, x1, x2.symm, by omega, by omega, c2, ⟨y0, q26 _ _ z0⟩, ⟨y1, q26 _ _ z1⟩, ⟨y2, q26 _ _ z3⟩, ⟨y3, q26 _ _ z2⟩, ⟨y4, q26 _ _ z4⟩, Or.inl ⟨y5, q26 _ _ z5⟩⟩
  · exact h5.of (old 31 (by omega) (by omega) (by omega) (by omega) (by omega) (by omega) (by omega) (by omega) (by omega) (by omega) fun _ => rfl)
  · obtain ⟨a, x, -, x40, -, -, x5, -⟩ := h6
    exact ⟨0, x, by omega, x40, t7, r30.2.1, (r30.2.2 5 (by omega) (by omega)).trans ((g1 30 5 (by omega) (by omega) (by omega) (by omega)).trans ((f1 30 5 (by omega) (by omega) (by omega)).trans ((s3 30 5 fun e => absurd e.1 (by decide)).trans ((sS 30 5 rfl).trans x5)))), fun j z => absurd z (by omega)⟩
  · refine (r7 8 1 (by omega) (by omega)).trans ((g1 8 1 (by omega) (by omega) (by omega) (by omega)).trans ((f1 8 1 (by omega) (by omega) (by omega)).trans ?_))
    subst hS3
    exact tb_h
  · obtain ⟨f, x1, x2, x3⟩ := h10
    exact ⟨f, x1, (tT53 32 (by omega) (by omega) (by omega) (by omega) (by omega) (by omega) rfl).trans x2, (congrFun (old 40 (by omega) (by omega) (by omega) (by omega) (by omega) (by omega) (by omega) (by omega) (by omega) (by omega) fun _ => rfl) 5).trans x3⟩
  · have o : ∀ b j, b ≠ 8 → b ≠ 11 → b ≠ 12 → b ≠ 13 → b ≠ 25 → b ≠ 26 → b ≠ 27 → b ≠ 28 → b ≠ 30 → b ≠ 42 → scS b j = false → S7.1 b j = S.1 b j := fun b j a1 a2 a3 a4 a5 a6 a7 a8 a9 a10 hsc => (r7 b j a9 a10).trans ((g1 b j a5 a6 a7 a8).trans ((f1 b j a2 a3 a4).trans ((s3 b j fun e => a1 e.1).trans (sS b j hsc))))
    have o20 : ∀ j, j ≠ 3 → S7.1 20 j = S.1 20 j := fun j hj => o 20 j (by omega) (by omega) (by omega) (by omega) (by omega) (by omega) (by omega) (by omega) (by omega) (by omega) (by
      show ((20 == 8 && (j == 2 || j == 3)) || 20 == 14 || 20 == 15 || 20 == 16 || 20 == 17 || 20 == 19 || 20 == 23 || (20 == 20 && j == 3) || 20 == 38 || 20 == 39 || 20 == 41 || 20 == 44 || 20 == 45 || 20 == 46 || (20 == 42 && j == 7) || 20 == 48 || 20 == 49 || 20 == 50 || 20 == 51 || 20 == 52 || 20 == 47 || 20 == 90) = false
      have : (j == 3) = false := beq_eq_false_iff_ne.mpr hj
      rw [this]; rfl)
    have o21 := old 21 (by omega) (by omega) (by omega) (by omega) (by omega) (by omega) (by omega) (by omega) (by omega) (by omega) fun _ => rfl
    have o22 := old 22 (by omega) (by omega) (by omega) (by omega) (by omega) (by omega) (by omega) (by omega) (by omega) (by omega) fun _ => rfl
    have u : ∀ b, 55 ≤ b → b ≤ 61 → b ≠ 57 → T7.1 b = T.1 b := fun b h1 h2 h3 => tT b (by omega) (by omega) (by omega) (by omega) (by omega) (by omega) fun j => by
      have b6 : b = 55 ∨ b = 56 ∨ b = 58 ∨ b = 59 ∨ b = 60 ∨ b = 61 := by omega
      rcases b6 with rfl | rfl | rfl | rfl | rfl | rfl <;> rfl
    simp only [LawsR, LawC, LawT, gi, o20 4 (by omega), o20 5 (by omega), o21, o22, show T7.1 53 13 = T.1 53 13 from tT53 13 (by omega) (by omega) (by omega) (by omega) (by omega) (by omega) rfl, show T7.1 53 31 = T.1 53 31 from tT53 31 (by omega) (by omega) (by omega) (by omega) (by omega) (by omega) rfl, u 55 (by omega) (by omega) (by omega), u 56 (by omega) (by omega) (by omega), u 58 (by omega) (by omega) (by omega), u 59 (by omega) (by omega) (by omega), u 60 (by omega) (by omega) (by omega), u 61 (by omega) (by omega) (by omega)] at h11 ⊢
    exact h11
end TX
