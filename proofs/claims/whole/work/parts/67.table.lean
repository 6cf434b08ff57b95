/-! ===== timetables: where the trains come out ===== -/
theorem tb_h {S : Sm} {i j : Nat} {v : Int32} : gi (si S i j v) i j = v := if_pos ⟨rfl, rfl⟩
theorem tb_n {S : Sm} {i j a b : Nat} {v : Int32} (h : ¬ (a = i ∧ b = j)) : gi (si S i j v) a b = gi S a b := if_neg h
def tbD (T : Sm) (r k : Nat) : Nat := ix (gi T 69 (4 * r + k))
def tbW (T : Sm) (F r i : Nat) : Nat × Nat := itr (fun p => (Ld (T.1 70) p.1 (fd (tbD T r 1) p.2 F), p.2 + Ln (T.1 70) p.1 (fd (tbD T r 1) p.2 F))) i (tbD T r 0, 0)
def tbN (T : Sm) (r : Nat) : Nat := min 3 (tbD T r 3)
def tbH (T : Sm) (F r i : Nat) : Nat := tbD T r 2 + (tbW T F r (i + 1)).2
def tbM (T : Sm) (F r i : Nat) : Nat := (tbW T F r (i + 1)).1
def tbL (T : Sm) (F r i : Nat) : Nat := fd (tbD T r 1) (tbW T F r (i + 1)).2 F
def TbS (T : Sm) (F k : Nat) (S : Sm) : Prop := ∀ r, r < k → gi S 48 r = nI (tbN T r) ∧ ∀ i, i < tbN T r → gi S 49 (3 * r + i) = nI (tbH T F r i) ∧ gi S 50 (3 * r + i) = nI (tbM T F r i * 6 + tbL T F r i)
section TB
variable {N K F R w : Nat} {U : List Nat} {X : List (List Cl)} {T S : Sm}
theorem tb_d (h : RelP N K F R U X w T S) {r : Nat} (hr : r < R) : R ≤ 6 ∧ tbD T r 0 < N ∧ (tbD T r 1 < K ∨ tbD T r 1 = 5) ∧ tbD T r 2 ≤ 99 ∧ tbD T r 3 ≤ 9 ∧ (∀ k, k < 4 → gi T 69 (4 * r + k) = nI (tbD T r k)) ∧ ∀ k, k < 4 → gi S 11 (76 + 4 * r + k) = nI (tbD T r k) := by
  obtain ⟨hn, ⟨h6, -, -, ht⟩, -⟩ := h
  have h8 := hn.2.2.2.2.2.2.1
  have h5 := hn.2.2.2.2.2.2.2.1
  obtain ⟨m, c, s, d, hm, hc, hs, hd, ⟨a1, a2⟩, ⟨b1, b2⟩, ⟨c1, c2⟩, d1, d2⟩ := ht r hr
  have e0 : tbD T r 0 = m := by show ix (gi T 69 (4 * r)) = m; rw [a2, q_ix (by omega)]
  have e1 : tbD T r 1 = c := by show ix (gi T 69 (4 * r + 1)) = c; rw [b2, q_ix (by omega)]
  have e2 : tbD T r 2 = s := by show ix (gi T 69 (4 * r + 2)) = s; rw [c2, q_ix (by omega)]
  have e3 : tbD T r 3 = d := by show ix (gi T 69 (4 * r + 3)) = d; rw [d2, q_ix (by omega)]
  refine ⟨h6, by omega, by omega, by omega, by omega, fun k hk => ?_, fun k hk => ?_⟩
  · have k4 : k = 0 ∨ k = 1 ∨ k = 2 ∨ k = 3 := by omega
    rcases k4 with rfl | rfl | rfl | rfl
    · rw [e0]; exact a2
    · rw [e1]; exact b2
    · rw [e2]; exact c2
    · rw [e3]; exact d2
  · have k4 : k = 0 ∨ k = 1 ∨ k = 2 ∨ k = 3 := by omega
    rcases k4 with rfl | rfl | rfl | rfl
    · rw [e0]; exact a1
    · rw [e1]; exact b1
    · rw [e2]; exact c1
    · rw [e3]; exact d1
theorem tb_w (h : RelP N K F R U X w T S) (hN : 0 < N) {r : Nat} (hr : r < R) : ∀ i, (tbW T F r i).1 < N ∧ (tbW T F r i).2 ≤ 9 * i
  | 0 => ⟨(tb_d h hr).2.1, Nat.le_refl _⟩
  | i + 1 => by
    obtain ⟨h1, h2⟩ := tb_w h hN hr i
    have hc := (tb_d h hr).2.2.1
    obtain ⟨p1, p2, p3⟩ := (way_of h hN).1.2.2.2.2 (tbW T F r i).1 (fd (tbD T r 1) (tbW T F r i).2 F) h1 (fd_lamp hc)
    refine ⟨p1, ?_⟩
    show (tbW T F r i).2 + Ln (T.1 70) (tbW T F r i).1 (fd (tbD T r 1) (tbW T F r i).2 F) ≤ 9 * (i + 1)
    omega
theorem pl_ft (h : RelP N K F R U X w T S) (hN : 0 < N) {r : Nat} (hr : r < R) {S1 : Sm} (g : SamS S S1) (b : TbS T F r S1) : ∃ S2, Pl_followTrain (nI r) S1 = some S2 ∧ SamS S S2 ∧ TbS T F (r + 1) S2 := by
  obtain ⟨h6, hm, hc, hs, hd, -, hi⟩ := tb_d (h.same g (SamT.rfl T)) hr
  obtain ⟨hW, -⟩ := hours_S h hN
  obtain ⟨hP, -⟩ := way_of h hN
  have hF : F ≤ 9 := h.1.2.2.2.2.2.2.2.2.1
  have h8 := hP.1
  have hc6 : tbD T r 1 < 6 := by have := hP.2.1; omega
  have nf : ∀ S', SamS S S' → Nt_fade S' = nI F := fun S' g' => n_f (h.same g' (SamT.rfl T)).1
  have i0 : Nt_item 2 (nI r) 0 S1 = nI (tbD T r 0) := (it_2 (s := 0) (by omega) (by omega)).trans (hi 0 (by omega))
  have i1 : Nt_item 2 (nI r) 1 S1 = nI (tbD T r 1) := (it_2 (s := 1) (by omega) (by omega)).trans (hi 1 (by omega))
  have i2 : Nt_item 2 (nI r) 2 S1 = nI (tbD T r 2) := (it_2 (s := 2) (by omega) (by omega)).trans (hi 2 (by omega))
  have i3 : Nt_item 2 (nI r) 3 S1 = nI (tbD T r 3) := (it_2 (s := 3) (by omega) (by omega)).trans (hi 3 (by omega))
  have e3 : iMin 3 (nI (tbD T r 3)) = nI (tbN T r) := q_min (a := 3) (by omega) (by omega)
  have n3 : tbN T r ≤ 3 := Nat.min_le_left _ _
  unfold Pl_followTrain
  rw [i0, i1, i2, i3, e3]
  suffices hl : ∃ q, lpN (Pl_followTrain_L56 (nI r) (nI (tbD T r 1)) (nI (tbD T r 2)) (nI (tbN T r))) FU (nI (tbD T r 0), 0, 0, S1) = some q ∧ SamS S q ∧ gi q 48 = gi S1 48 ∧ (∀ j, j < 3 * r → gi q 49 j = gi S1 49 j ∧ gi q 50 j = gi S1 50 j) ∧ ∀ i, i < tbN T r → gi q 49 (3 * r + i) = nI (tbH T F r i) ∧ gi q 50 (3 * r + i) = nI (tbM T F r i * 6 + tbL T F r i) by
    obtain ⟨q, e, k1, k2, k3, k4⟩ := hl
    rw [e]
    refine ⟨si q 48 r (nI (tbN T r)), ?_, k1.si rfl, fun x hx => ?_⟩
    · simp (disch := omega) only [q_bind, q_app, q_pu]
    · by_cases y : x = r
      · subst y
        refine ⟨tb_h, fun i hi => ?_⟩
        rw [tb_n (fun e => absurd e.1 (by decide)), tb_n (fun e => absurd e.1 (by decide))]
        exact k4 i hi
      · obtain ⟨b1, b2⟩ := b x (by omega)
        rw [tb_n (fun e => y e.2)]
        refine ⟨(congrFun k2 x).trans b1, fun i hi => ?_⟩
        have hi3 : i < 3 := Nat.lt_of_lt_of_le hi (Nat.min_le_left _ _)
        obtain ⟨c1, c2⟩ := k3 (3 * x + i) (by omega)
        rw [tb_n (fun e => absurd e.1 (by decide)), tb_n (fun e => absurd e.1 (by decide)), c1, c2]
        exact b2 i hi
  refine lp_inv (fun i (q : Int32 × Int32 × Int32 × Sm) => q.1 = nI (tbW T F r i).1 ∧ q.2.1 = nI (tbW T F r i).2 ∧ q.2.2.1 = nI i ∧ SamS S q.2.2.2 ∧ gi q.2.2.2 48 = gi S1 48 ∧ (∀ j, j < 3 * r → gi q.2.2.2 49 j = gi S1 49 j ∧ gi q.2.2.2 50 j = gi S1 50 j) ∧ ∀ j, j < i → gi q.2.2.2 49 (3 * r + j) = nI (tbH T F r j) ∧ gi q.2.2.2 50 (3 * r + j) = nI (tbM T F r j * 6 + tbL T F r j)) (tbN T r) (by omega) ⟨rfl, rfl, rfl, g, rfl, fun j _ => ⟨rfl, rfl⟩, fun j z => absurd z (by omega)⟩ (fun i q hi hq => ?_) (fun q hq => ?_)
  · obtain ⟨m', a', k', S2⟩ := q
    obtain ⟨(e1 : m' = _), (e2 : a' = _), (e4 : k' = _), (k1 : SamS S S2), (k2 : gi S2 48 = _), k3, k4⟩ := hq
    subst e1 e2 e4
    have k3 : ∀ j, j < 3 * r → gi S2 49 j = gi S1 49 j ∧ gi S2 50 j = gi S1 50 j := k3
    have k4 : ∀ j, j < i → gi S2 49 (3 * r + j) = nI (tbH T F r j) ∧ gi S2 50 (3 * r + j) = nI (tbM T F r j * 6 + tbL T F r j) := k4
    obtain ⟨b1, b2⟩ := tb_w h hN hr i
    have es : tbW T F r (i + 1) = (Ld (T.1 70) (tbW T F r i).1 (fd (tbD T r 1) (tbW T F r i).2 F), (tbW T F r i).2 + Ln (T.1 70) (tbW T F r i).1 (fd (tbD T r 1) (tbW T F r i).2 F)) := rfl
    have es1 : tbM T F r i = Ld (T.1 70) (tbW T F r i).1 (fd (tbD T r 1) (tbW T F r i).2 F) := rfl
    have es2 : tbH T F r i = tbD T r 2 + ((tbW T F r i).2 + Ln (T.1 70) (tbW T F r i).1 (fd (tbD T r 1) (tbW T F r i).2 F)) := rfl
    have es3 : tbL T F r i = fd (tbD T r 1) ((tbW T F r i).2 + Ln (T.1 70) (tbW T F r i).1 (fd (tbD T r 1) (tbW T F r i).2 F)) F := rfl
    obtain ⟨w1, w2⟩ := (hW S2 k1).2.2 (tbW T F r i).1 (fd (tbD T r 1) (tbW T F r i).2 F) b1 (fd_lamp hc)
    obtain ⟨p1, p2, p3⟩ := hP.2.2.2.2 (tbW T F r i).1 (fd (tbD T r 1) (tbW T F r i).2 F) b1 (fd_lamp hc)
    have f1 := dk_fd (a := (tbW T F r i).2) (F := F) hc6 (by omega) hF
    have f2 := dk_fd (a := (tbW T F r i).2 + Ln (T.1 70) (tbW T F r i).1 (fd (tbD T r 1) (tbW T F r i).2 F)) (F := F) hc6 (by omega) hF
    have nf2 : ∀ v, Nt_fade (si S2 49 (r * 3 + i) v) = nI F := fun v => nf _ (k1.si rfl)
    refine Or.inl ⟨(nI (tbM T F r i), nI (tbW T F r (i + 1)).2, nI (i + 1), si (si S2 49 (r * 3 + i) (nI (tbH T F r i))) 50 (r * 3 + i) (nI (tbM T F r i * 6 + tbL T F r i))), ?_, rfl, rfl, rfl, (k1.si rfl).si rfl, k2, fun j hj => ?_, fun j hj => ?_⟩
    · rw [es1, es2, es3, es]
      unfold Pl_followTrain_L56
      simp (disch := omega) only [q_lit, q_m1, q_m2, q_hid, q_add, q_mul, q_sub, q_le, q_lt, q_eq, q_mlt, q_mle, q_ltm, q_lem, q_meq, q_eqm, q_m2lt, q_m2le, q_ltm2, q_lem2, q_eqm2, q_mm2, q_m2m, q_mm, q_mnm, q_ix, q_inb, q_a0, q_a1, q_app, q_bind, if_true, if_false, if_pos, if_neg, nf S2 k1, f1, w1, w2, q_pu, nf2, f2]
    · show gi (si (si S2 49 _ _) 50 _ _) 49 j = _ ∧ gi (si (si S2 49 _ _) 50 _ _) 50 j = _
      rw [tb_n (fun e => absurd e.1 (by decide)), tb_n (fun e => by omega), tb_n (fun e => by omega), tb_n (fun e => absurd e.1 (by decide))]
      exact k3 j hj
    · show gi (si (si S2 49 _ _) 50 _ _) 49 _ = _ ∧ gi (si (si S2 49 _ _) 50 _ _) 50 _ = _
      by_cases y : j = i
      · subst y
        rw [Nat.mul_comm r 3, tb_n (fun e => absurd e.1 (by decide)), tb_h, tb_h]
        exact ⟨rfl, rfl⟩
      · rw [tb_n (fun e => absurd e.1 (by decide)), tb_n (fun e => by omega), tb_n (fun e => by omega), tb_n (fun e => absurd e.1 (by decide))]
        exact k4 j (by omega)
  · obtain ⟨m', a', k', S2⟩ := q
    obtain ⟨-, -, (e4 : k' = _), (k1 : SamS S S2), k2, k3, k4⟩ := hq
    subst e4
    refine ⟨S2, ?_, k1, k2, k3, k4⟩
    unfold Pl_followTrain_L56
    simp (disch := omega) only [q_lit, q_m1, q_m2, q_hid, q_add, q_mul, q_sub, q_le, q_lt, q_eq, q_mlt, q_mle, q_ltm, q_lem, q_meq, q_eqm, q_m2lt, q_m2le, q_ltm2, q_lem2, q_eqm2, q_mm2, q_m2m, q_mm, q_mnm, q_ix, q_inb, q_a0, q_a1, q_app, q_bind, if_true, if_false, if_pos, if_neg, Nat.le_refl]
theorem pl_n (h : RelP N K F R U X w T S) {S1 : Sm} (g : SamS S S1) : Pl_trains S1 = nI R := by
  obtain ⟨-, ⟨-, h2, -⟩, -⟩ := h.same g (SamT.rfl T)
  unfold Pl_trains Nt_many
  simp (disch := omega) only [q_lit, q_m1, q_m2, q_hid, q_add, q_mul, q_sub, q_le, q_lt, q_eq, q_mlt, q_mle, q_ltm, q_lem, q_meq, q_eqm, q_m2lt, q_m2le, q_ltm2, q_lem2, q_eqm2, q_mm2, q_m2m, q_mm, q_mnm, q_ix, q_inb, q_a0, q_a1, q_app, q_bind, if_true, if_false, if_pos, if_neg, q_at, h2]
theorem pl_fts (h : RelP N K F R U X w T S) (hN : 0 < N) : ∃ S2, Pl_followTrains S = some S2 ∧ SamS S S2 ∧ TbS T F R S2 := by
  have h6 : R ≤ 6 := h.2.1.1
  suffices hl : ∃ q, lpN Pl_followTrains_L2 FU (0, S) = some q ∧ SamS S q ∧ TbS T F R q by
    obtain ⟨q, e, k⟩ := hl
    refine ⟨q, ?_, k⟩
    unfold Pl_followTrains
    rw [e]; rfl
  refine lp_inv (fun i (q : Int32 × Sm) => q.1 = nI i ∧ SamS S q.2 ∧ TbS T F i q.2) R (by omega) ⟨rfl, SamS.rfl S, fun r z => absurd z (by omega)⟩ (fun i q hi hq => ?_) (fun q hq => ?_)
  · obtain ⟨k', S2⟩ := q
    obtain ⟨(e4 : k' = _), (k1 : SamS S S2), k2⟩ := hq
    subst e4
    obtain ⟨S3, e, k3, k4⟩ := pl_ft h hN hi k1 k2
    refine Or.inl ⟨(nI (i + 1), S3), ?_, rfl, k3, k4⟩
    unfold Pl_followTrains_L2
    simp (disch := omega) only [q_lit, q_m1, q_m2, q_hid, q_add, q_mul, q_sub, q_le, q_lt, q_eq, q_mlt, q_mle, q_ltm, q_lem, q_meq, q_eqm, q_m2lt, q_m2le, q_ltm2, q_lem2, q_eqm2, q_mm2, q_m2m, q_mm, q_mnm, q_ix, q_inb, q_a0, q_a1, q_app, q_bind, if_true, if_false, if_pos, if_neg, pl_n h k1, e]
  · obtain ⟨k', S2⟩ := q
    obtain ⟨(e4 : k' = _), (k1 : SamS S S2), k2⟩ := hq
    subst e4
    refine ⟨S2, ?_, k1, k2⟩
    unfold Pl_followTrains_L2
    simp (disch := omega) only [q_lit, q_m1, q_m2, q_hid, q_add, q_mul, q_sub, q_le, q_lt, q_eq, q_mlt, q_mle, q_ltm, q_lem, q_meq, q_eqm, q_m2lt, q_m2le, q_ltm2, q_lem2, q_eqm2, q_mm2, q_m2m, q_mm, q_mnm, q_ix, q_inb, q_a0, q_a1, q_app, q_bind, if_true, if_false, if_pos, if_neg, pl_n h k1, Nat.le_refl]
end TB
