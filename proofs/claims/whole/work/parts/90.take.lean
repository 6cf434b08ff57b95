/-! ===== a net begins: the reference ===== -/
section TK
variable {T S : Sm}
/-- the darks not known, in order -/
def Unk (S : Sm) (i : Nat) : List Nat := (List.range i).filterMap fun e => if xN S 1 e 2 = 8 then some (dkN S e) else none
theorem unk_s (S : Sm) (i : Nat) : Unk S (i + 1) = Unk S i ++ if xN S 1 i 2 = 8 then [dkN S i] else [] := by
  unfold Unk
  rw [List.range_succ, List.filterMap_append]
  by_cases y : xN S 1 i 2 = 8
  · rw [if_pos y]
    congr 1
    simp only [List.filterMap_cons, List.filterMap_nil, if_pos y]
  · rw [if_neg y]
    congr 1
    simp only [List.filterMap_cons, List.filterMap_nil, if_neg y]
theorem unk_len (S : Sm) : ∀ i, (Unk S i).length = unN S i
  | 0 => rfl
  | i + 1 => by
    rw [unk_s, List.length_append, unk_len S i]
    have us : unN S (i + 1) = if decide (xN S 1 i 2 = 8) = true then unN S i + 1 else unN S i := cnt_s _ i
    rw [us]
    by_cases y : xN S 1 i 2 = 8
    · rw [if_pos y, if_pos (decide_eq_true y)]; rfl
    · rw [if_neg y, if_neg fun e => y (of_decide_eq_true e)]; rfl
theorem unk_mem {S : Sm} {i d : Nat} : d ∈ Unk S i ↔ ∃ e, e < i ∧ xN S 1 e 2 = 8 ∧ dkN S e = d := by
  unfold Unk
  rw [List.mem_filterMap]
  constructor
  · rintro ⟨e, h1, h2⟩
    by_cases y : xN S 1 e 2 = 8
    · rw [if_pos y] at h2
      exact ⟨e, List.mem_range.mp h1, y, Option.some.inj h2⟩
    · rw [if_neg y] at h2; cases h2
  · rintro ⟨e, h1, h2, h3⟩
    exact ⟨e, List.mem_range.mpr h1, by rw [if_pos h2, h3]⟩
theorem unk_nd {m : Nat → Nat} (h : NdO m T S) (hs : SndN m S) : ∀ i, i ≤ m 1 → (Unk S i).Nodup
  | 0, _ => List.nodup_nil
  | i + 1, hi => by
    rw [unk_s, List.nodup_append]
    refine ⟨unk_nd h hs i (by omega), ?_, fun a ha b hb => ?_⟩
    · split
      · exact List.nodup_cons.mpr ⟨List.not_mem_nil, List.nodup_nil⟩
      · exact List.nodup_nil
    · split at hb
      · obtain ⟨e, e1, e2, e3⟩ := unk_mem.mp ha
        rw [List.mem_singleton.mp hb, ← e3]
        exact dk_ne h hs (show i < m 1 by omega) e1
      · exact absurd hb List.not_mem_nil
theorem md_tun {m : Nat → Nat} (h : NdO m T S) (hs : SndN m S) {T1 : Sm} (h65 : ∀ j, T1.1 65 j = T.1 65 j) (h21 : gi T1 53 21 = gi T 53 21) : ∃ T', Md_takeTunnels T1 = some T' ∧ (∀ i j, i ≠ 53 → i ≠ 70 → i ≠ 71 → i ≠ 72 → T'.1 i j = T1.1 i j) ∧ (∀ j, j ≠ 30 → T'.1 53 j = T1.1 53 j) ∧ (∀ j, 80 ≤ j → gi T' 70 j = gi T1 70 j) ∧ gi T' 53 30 = nI (Unk S (m 1)).length ∧ (∀ d, d < 40 → (∀ e, e < m 1 → dkN S e ≠ d) → gi T' 70 d = mI ∧ gi T' 70 (40 + d) = nI 1) ∧ (∀ e, e < m 1 → gi T' 70 (dkN S e) = (if xN S 1 e 2 = 8 then mI2 else nI (xN S 1 e 2)) ∧ gi T' 70 (40 + dkN S e) = nI (xN S 1 e 3)) ∧ ∀ j u, (Unk S (m 1))[j]? = some u → gi T' 71 j = nI (u / 5) ∧ gi T' 72 j = nI (u % 5) := by
  have m18 : m 1 ≤ 18 := (h.1 1 (by omega)).1
  have m21 : gi T1 53 21 = nI (m 1) := h21.trans h.2.1.1
  have un4 := hs.2.1
  have mono : ∀ i, i ≤ m 1 → unN S i ≤ unN S (m 1) := fun i hi => by
    have := cnt_add (fun e => decide (xN S 1 e 2 = 8)) i (m 1 - i)
    rw [show i + (m 1 - i) = m 1 by omega] at this
    have h1 : unN S (m 1) = cntN (fun e => decide (xN S 1 e 2 = 8)) (m 1) := rfl
    have h2 : unN S i = cntN (fun e => decide (xN S 1 e 2 = 8)) i := rfl
    omega
  have x65 : ∀ e, e < m 1 → ∀ s, s < 4 → gi T 65 (4 * e + s) = nI (xN S 1 e s) := fun e he s hs => (nd_x h (k := 1) (e := e) (s := s) (by omega) he hs).2.2.2
  obtain ⟨T2, e2, a1, a2, a3, a4⟩ : ∃ T2, lpN Md_takeTunnels_L7 FU (0, si T1 53 30 0) = some T2 ∧ (∀ i j, i ≠ 70 → T2.1 i j = (si T1 53 30 0).1 i j) ∧ (∀ j, 80 ≤ j → gi T2 70 j = gi T1 70 j) ∧ (∀ d, d < 40 → gi T2 70 d = mI) ∧ ∀ d, d < 40 → gi T2 70 (40 + d) = nI 1 := by
    refine lp_inv (fun i (q : Int32 × Sm) => q.1 = nI i ∧ (∀ i j, i ≠ 70 → q.2.1 i j = (si T1 53 30 0).1 i j) ∧ (∀ j, 80 ≤ j → gi q.2 70 j = gi T1 70 j) ∧ (∀ d, d < i → gi q.2 70 d = mI) ∧ ∀ d, d < i → gi q.2 70 (40 + d) = nI 1) 40 (by omega) ⟨rfl, fun _ _ _ => rfl, fun j _ => tb_n fun e => absurd e.1 (by decide), fun d z => absurd z (by omega), fun d z => absurd z (by omega)⟩ (fun i q hi hq => ?_) (fun q hq => ?_)
    · obtain ⟨k', T2⟩ := q
      obtain ⟨(e : k' = nI i), g1, g2, g3, g4⟩ := hq
      subst e
      refine Or.inl ⟨(nI (i + 1), si (si T2 70 i mI) 70 (40 + i) (nI 1)), ?_, rfl, fun i' j a => (tb_n fun e => a e.1).trans ((tb_n fun e => a e.1).trans (g1 i' j a)), fun j hj => (tb_n fun e => by omega).trans ((tb_n fun e => by omega).trans (g2 j hj)), fun d hd => ?_, fun d hd => ?_⟩
      · unfold Md_takeTunnels_L7
        dsimp only
        rw [if_neg (show ¬ (40 : Int32) ≤ nI i from fun z => by have := (q_le (a := 40) (by omega) (by omega)).mp z; omega), show (0 : Int32) + nI i = nI i by rw [show (0 : Int32) = nI 0 from rfl, q_add, Nat.zero_add], show (40 : Int32) + nI i = nI (40 + i) from q_add 40 i, if_pos (nI_in (by omega) (by omega)), if_pos (nI_in (by omega) (by omega)), q_ix (by omega), q_ix (by omega), show nI i + 1 = nI (i + 1) from q_add i 1]; rfl
      · by_cases y : d = i
        · subst y; exact (tb_n fun e => by omega).trans tb_h
        · exact (tb_n fun e => by omega).trans ((tb_n fun e => y e.2).trans (g3 d (by omega)))
      · by_cases y : d = i
        · subst y; exact tb_h
        · exact (tb_n fun e => by omega).trans ((tb_n fun e => by omega).trans (g4 d (by omega)))
    · obtain ⟨k', T2⟩ := q
      obtain ⟨(e : k' = nI 40), g⟩ := hq
      subst e
      exact ⟨T2, rfl, g⟩
  have a53 : ∀ j, j ≠ 30 → gi T2 53 j = gi T1 53 j := fun j hj => (a1 53 j (by omega)).trans (tb_n fun e => hj e.2)
  have a30 : gi T2 53 30 = nI 0 := (a1 53 30 (by omega)).trans tb_h
  obtain ⟨T3, e3, b1, b2, b3, b4, b5, b6, b7⟩ : ∃ T3, lpN Md_takeTunnels_L40 FU (0, T2) = some T3 ∧ (∀ i j, i ≠ 53 → i ≠ 70 → i ≠ 71 → i ≠ 72 → T3.1 i j = T2.1 i j) ∧ (∀ j, j ≠ 30 → T3.1 53 j = T2.1 53 j) ∧ (∀ j, 80 ≤ j → gi T3 70 j = gi T2 70 j) ∧ gi T3 53 30 = nI (unN S (m 1)) ∧ ByD S (m 1) (fun e => if xN S 1 e 2 = 8 then mI2 else nI (xN S 1 e 2)) (fun d => if d < 40 then gi T2 70 d else nI 0) (fun d => if d < 40 then gi T3 70 d else nI 0) ∧ ByD S (m 1) (fun e => nI (xN S 1 e 3)) (fun d => gi T2 70 (40 + d)) (fun d => gi T3 70 (40 + d)) ∧ ∀ j u, (Unk S (m 1))[j]? = some u → gi T3 71 j = nI (u / 5) ∧ gi T3 72 j = nI (u % 5) := by
    refine lp_inv (fun i (q : Int32 × Sm) => q.1 = nI i ∧ (∀ i j, i ≠ 53 → i ≠ 70 → i ≠ 71 → i ≠ 72 → q.2.1 i j = T2.1 i j) ∧ (∀ j, j ≠ 30 → q.2.1 53 j = T2.1 53 j) ∧ (∀ j, 80 ≤ j → gi q.2 70 j = gi T2 70 j) ∧ gi q.2 53 30 = nI (unN S i) ∧ ByD S i (fun e => if xN S 1 e 2 = 8 then mI2 else nI (xN S 1 e 2)) (fun d => if d < 40 then gi T2 70 d else nI 0) (fun d => if d < 40 then gi q.2 70 d else nI 0) ∧ ByD S i (fun e => nI (xN S 1 e 3)) (fun d => gi T2 70 (40 + d)) (fun d => gi q.2 70 (40 + d)) ∧ ∀ j u, (Unk S i)[j]? = some u → gi q.2 71 j = nI (u / 5) ∧ gi q.2 72 j = nI (u % 5)) (m 1) (by omega) ⟨rfl, fun _ _ _ _ _ _ => rfl, fun _ _ => rfl, fun _ _ => rfl, a30, ⟨fun e z => absurd z (by omega), fun _ _ => rfl⟩, ⟨fun e z => absurd z (by omega), fun _ _ => rfl⟩, fun j u hj => by cases hj⟩ (fun i q hi hq => ?_) (fun q hq => ?_)
    · obtain ⟨k', Tq⟩ := q
      obtain ⟨(e : k' = nI i), g1, g2, g3, (g4 : gi Tq 53 30 = nI (unN S i)), g5, g6, g7⟩ := hq
      subst e
      have g1 : ∀ i j, i ≠ 53 → i ≠ 70 → i ≠ 71 → i ≠ 72 → Tq.1 i j = T2.1 i j := g1
      have g2 : ∀ j, j ≠ 30 → Tq.1 53 j = T2.1 53 j := g2
      obtain ⟨p0, p1, p2, p3, p4, p5⟩ := dk_lt h hi
      have q65 : ∀ s, s < 4 → gi Tq 65 (4 * i + s) = nI (xN S 1 i s) := fun s hs => (g1 65 _ (by omega) (by omega) (by omega) (by omega)).trans ((a1 65 _ (by omega)).trans ((tb_n fun e => absurd e.1 (by decide)).trans ((h65 _).trans (x65 i hi s hs))))
      have q0 : gi Tq 65 (4 * i) = nI (xN S 1 i 0) := q65 0 (by omega)
      have q1 := q65 1 (by omega)
      have q2 := q65 2 (by omega)
      have q3 := q65 3 (by omega)
      have q21 : gi Tq 53 21 = nI (m 1) := (g2 21 (by omega)).trans ((a53 21 (by omega)).trans m21)
      have mi := mono i (by omega)
      have us : unN S (i + 1) = if decide (xN S 1 i 2 = 8) = true then unN S i + 1 else unN S i := cnt_s _ i
      have i1 : nI i + 1 = nI (i + 1) := q_add i 1
      have m4 : (4 : Int32) * nI i = nI (4 * i) := q_mul 4 i
      have n1 : nI (4 * i) + 1 = nI (4 * i + 1) := q_add _ 1
      have n2 : nI (4 * i) + 2 = nI (4 * i + 2) := q_add _ 2
      have n3 : nI (4 * i) + 3 = nI (4 * i + 3) := q_add _ 3
      have dk : (5 : Int32) * nI (xN S 1 i 0) + nI (xN S 1 i 1) = nI (dkN S i) := by rw [show (5 : Int32) = nI 5 from rfl, q_mul, q_add]; rfl
      have z0 : (0 : Int32) + nI (dkN S i) = nI (dkN S i) := by rw [show (0 : Int32) = nI 0 from rfl, q_add, Nat.zero_add]
      have n40 : (40 : Int32) + nI (dkN S i) = nI (40 + dkN S i) := q_add 40 _
      have ib : ∀ a c : Nat, a < c → c ≤ 400 → inb (nI a) c := fun a c h1 h2 => nI_in (by omega) (by omega)
      have dm : dkN S i / 5 = xN S 1 i 0 ∧ dkN S i % 5 = xN S 1 i 1 := by
        have : dkN S i = 5 * xN S 1 i 0 + xN S 1 i 1 := rfl
        omega
      generalize hv : (if xN S 1 i 2 = 8 then mI2 else nI (xN S 1 i 2)) = v at g5
      have f65 : gi (si Tq 70 (dkN S i) v) 65 (4 * i + 3) = nI (xN S 1 i 3) := (tb_n fun e => absurd e.1 (by decide)).trans q3
      have step : ∀ T4 : Sm, (∀ d, gi T4 70 d = gi (si (si Tq 70 (dkN S i) v) 70 (40 + dkN S i) (nI (xN S 1 i 3))) 70 d) → ByD S (i + 1) (fun e => if xN S 1 e 2 = 8 then mI2 else nI (xN S 1 e 2)) (fun d => if d < 40 then gi T2 70 d else nI 0) (fun d => if d < 40 then gi T4 70 d else nI 0) ∧ ByD S (i + 1) (fun e => nI (xN S 1 e 3)) (fun d => gi T2 70 (40 + d)) (fun d => gi T4 70 (40 + d)) ∧ ∀ j, 80 ≤ j → gi T4 70 j = gi T2 70 j := fun T4 e4 => by
        refine ⟨g5.step h hs hi ?_ fun d hd => ?_, g6.step h hs hi ?_ fun d hd => ?_, fun j hj => ?_⟩
        · show (if dkN S i < 40 then gi T4 70 (dkN S i) else nI 0) = (if xN S 1 i 2 = 8 then mI2 else nI (xN S 1 i 2))
          rw [if_pos p5, e4, tb_n (fun e => by omega), tb_h, hv]
        · show (if d < 40 then gi T4 70 d else nI 0) = if d < 40 then gi Tq 70 d else nI 0
          by_cases y : d < 40
          · rw [if_pos y, if_pos y, e4, tb_n (fun e => by omega), tb_n (fun e => hd e.2)]
          · rw [if_neg y, if_neg y]
        · show gi T4 70 (40 + dkN S i) = _
          rw [e4, tb_h]
        · show gi T4 70 (40 + d) = gi Tq 70 (40 + d)
          rw [e4, tb_n (fun e => by omega), tb_n (fun e => by omega)]
        · rw [e4, tb_n (fun e => by omega), tb_n (fun e => by omega)]; exact g3 j hj
      by_cases y : xN S 1 i 2 = 8
      · rw [if_pos y] at hv
        rw [if_pos (decide_eq_true y)] at us
        have u4 : unN S i < 4 := by have := mono (i + 1) (by omega); omega
        generalize hT4 : si (si (si (si (si Tq 70 (dkN S i) v) 70 (40 + dkN S i) (nI (xN S 1 i 3))) 71 (unN S i) (nI (xN S 1 i 0))) 72 (unN S i) (nI (xN S 1 i 1))) 53 30 (nI (unN S i + 1)) = T4
        have f30 : gi (si (si Tq 70 (dkN S i) v) 70 (40 + dkN S i) (nI (xN S 1 i 3))) 53 30 = nI (unN S i) := (tb_n fun e => absurd e.1 (by decide)).trans ((tb_n fun e => absurd e.1 (by decide)).trans g4)
        have f0 : gi (si (si Tq 70 (dkN S i) v) 70 (40 + dkN S i) (nI (xN S 1 i 3))) 65 (4 * i) = nI (xN S 1 i 0) := (tb_n fun e => absurd e.1 (by decide)).trans ((tb_n fun e => absurd e.1 (by decide)).trans q0)
        have f31 : gi (si (si (si Tq 70 (dkN S i) v) 70 (40 + dkN S i) (nI (xN S 1 i 3))) 71 (unN S i) (nI (xN S 1 i 0))) 53 30 = nI (unN S i) := (tb_n fun e => absurd e.1 (by decide)).trans f30
        have f1 : gi (si (si (si Tq 70 (dkN S i) v) 70 (40 + dkN S i) (nI (xN S 1 i 3))) 71 (unN S i) (nI (xN S 1 i 0))) 65 (4 * i + 1) = nI (xN S 1 i 1) := (tb_n fun e => absurd e.1 (by decide)).trans ((tb_n fun e => absurd e.1 (by decide)).trans ((tb_n fun e => absurd e.1 (by decide)).trans q1))
        have f32 : gi (si (si (si (si Tq 70 (dkN S i) v) 70 (40 + dkN S i) (nI (xN S 1 i 3))) 71 (unN S i) (nI (xN S 1 i 0))) 72 (unN S i) (nI (xN S 1 i 1))) 53 30 = nI (unN S i) := (tb_n fun e => absurd e.1 (by decide)).trans f31
        have o70 : ∀ d, gi T4 70 d = gi (si (si Tq 70 (dkN S i) v) 70 (40 + dkN S i) (nI (xN S 1 i 3))) 70 d := fun d => by
          subst hT4
          rw [tb_n (fun e => absurd e.1 (by decide)), tb_n (fun e => absurd e.1 (by decide)), tb_n (fun e => absurd e.1 (by decide))]
        obtain ⟨s1, s2, s3⟩ := step T4 o70
        have t71 : ∀ j, gi T4 71 j = if j = unN S i then nI (xN S 1 i 0) else gi Tq 71 j := fun j => by
          subst hT4
          rw [tb_n (fun e => absurd e.1 (by decide)), tb_n (fun e => absurd e.1 (by decide))]
          by_cases z : j = unN S i
          · rw [if_pos z, z]; exact tb_h
          · rw [if_neg z, tb_n (fun e => z e.2), tb_n (fun e => absurd e.1 (by decide)), tb_n (fun e => absurd e.1 (by decide))]
        have t72 : ∀ j, gi T4 72 j = if j = unN S i then nI (xN S 1 i 1) else gi Tq 72 j := fun j => by
          subst hT4
          rw [tb_n (fun e => absurd e.1 (by decide))]
          by_cases z : j = unN S i
          · rw [if_pos z, z]; exact tb_h
          · rw [if_neg z, tb_n (fun e => z e.2), tb_n (fun e => absurd e.1 (by decide)), tb_n (fun e => absurd e.1 (by decide)), tb_n (fun e => absurd e.1 (by decide))]
        have to : ∀ i' j, i' ≠ 53 → i' ≠ 70 → i' ≠ 71 → i' ≠ 72 → T4.1 i' j = Tq.1 i' j := fun i' j a c d e => by
          subst hT4
          rw [si_row a, si_row e, si_row d, si_row c, si_row c]
        have t53 : ∀ j, j ≠ 30 → gi T4 53 j = gi Tq 53 j := fun j hj => by
          subst hT4
          rw [tb_n (fun e => hj e.2), tb_n (fun e => absurd e.1 (by decide)), tb_n (fun e => absurd e.1 (by decide)), tb_n (fun e => absurd e.1 (by decide)), tb_n (fun e => absurd e.1 (by decide))]
        have t30 : gi T4 53 30 = nI (unN S i + 1) := by subst hT4; exact tb_h
        refine Or.inl ⟨(nI (i + 1), T4), ?_, rfl, fun i' j a c d e => (to i' j a c d e).trans (g1 i' j a c d e), fun j hj => (t53 j hj).trans (g2 j hj), s3, t30.trans (by rw [us]), s1, s2, fun j u hj => ?_⟩
        · unfold Md_takeTunnels_L40 Md_takeTunnels_100_L40 Md_takeTunnels_172_L40
          dsimp only
          rw [q21, if_neg (nI_ge hi (by omega)), m4, n1, n2, n3, q_ix (by omega), q_ix (by omega), q_ix (by omega), q_ix (by omega), q0, q1, q2, if_pos (ib _ _ (by omega) (by omega)), if_pos (ib _ _ (by omega) (by omega)), if_pos (ib _ _ (by omega) (by omega)), y, if_pos (show nI 8 = 8 from rfl), dk, z0, n40, q_ix (by omega), q_ix (by omega), if_pos (ib _ _ (by omega) (by omega)), if_pos (ib _ _ (by omega) (by omega)), if_pos (ib _ _ (by omega) (by omega)), show (-2 : Int32) = v from hv, f65, f30, f0, q_ix (by omega), f31, f1, q_ix (by omega), f32]
          repeat (first | rw [if_pos (ib _ _ (by omega) (by omega))] | rw [q_ix (by omega)])
          rw [if_pos (show nI 8 = 8 from rfl), i1, show nI (unN S i) + 1 = nI (unN S i + 1) from q_add _ 1, hT4]
        · rw [unk_s, if_pos y] at hj
          have lu := unk_len S i
          by_cases z : j < (Unk S i).length
          · rw [List.getElem?_append_left z] at hj
            rw [show gi (nI (i + 1), T4).2 71 j = gi T4 71 j from rfl, show gi (nI (i + 1), T4).2 72 j = gi T4 72 j from rfl, t71, t72, if_neg (by omega), if_neg (by omega)]
            exact g7 j u hj
          · rw [List.getElem?_append_right (by omega)] at hj
            by_cases z2 : j = (Unk S i).length
            · rw [z2, Nat.sub_self] at hj
              have hj : dkN S i = u := Option.some.inj hj
              rw [show gi (nI (i + 1), T4).2 71 j = gi T4 71 j from rfl, show gi (nI (i + 1), T4).2 72 j = gi T4 72 j from rfl, t71, t72, if_pos (by omega), if_pos (by omega), ← hj, dm.1, dm.2]
              exact ⟨rfl, rfl⟩
            · obtain ⟨d, hd⟩ : ∃ d, j - (Unk S i).length = d + 1 := ⟨j - (Unk S i).length - 1, by omega⟩
              rw [hd] at hj; cases hj
      · rw [if_neg y] at hv
        rw [if_neg (show ¬ decide (xN S 1 i 2 = 8) = true from fun e => y (of_decide_eq_true e))] at us
        obtain ⟨s1, s2, s3⟩ := step (si (si Tq 70 (dkN S i) v) 70 (40 + dkN S i) (nI (xN S 1 i 3))) fun _ => rfl
        refine Or.inl ⟨(nI (i + 1), si (si Tq 70 (dkN S i) v) 70 (40 + dkN S i) (nI (xN S 1 i 3))), ?_, rfl, fun i' j a c d e => (tb_n fun e => c e.1).trans ((tb_n fun e => c e.1).trans (g1 i' j a c d e)), fun j hj => (tb_n fun e => absurd e.1 (by decide)).trans ((tb_n fun e => absurd e.1 (by decide)).trans (g2 j hj)), s3, (tb_n fun e => absurd e.1 (by decide)).trans ((tb_n fun e => absurd e.1 (by decide)).trans (g4.trans (by rw [us]))), s1, s2, fun j u hj => ?_⟩
        · unfold Md_takeTunnels_L40 Md_takeTunnels_100_L40 Md_takeTunnels_172_L40
          dsimp only
          have y8 : ¬ nI (xN S 1 i 2) = 8 := fun e => y ((q_eq (b := 8) (by omega) (by omega)).mp e)
          rw [q21, if_neg (nI_ge hi (by omega)), m4, n1, n2, n3, q_ix (by omega), q_ix (by omega), q_ix (by omega), q_ix (by omega), q0, q1, q2, if_pos (ib _ _ (by omega) (by omega)), if_pos (ib _ _ (by omega) (by omega)), if_pos (ib _ _ (by omega) (by omega)), if_neg y8, dk, z0, n40, q_ix (by omega), q_ix (by omega), if_pos (ib _ _ (by omega) (by omega)), if_pos (ib _ _ (by omega) (by omega)), if_pos (ib _ _ (by omega) (by omega)), if_neg y8, hv, f65, i1]
        · rw [unk_s, if_neg y, List.append_nil] at hj
          obtain ⟨w1, w2⟩ := g7 j u hj
          exact ⟨(tb_n fun e => absurd e.1 (by decide)).trans ((tb_n fun e => absurd e.1 (by decide)).trans w1), (tb_n fun e => absurd e.1 (by decide)).trans ((tb_n fun e => absurd e.1 (by decide)).trans w2)⟩
    · obtain ⟨k', Tq⟩ := q
      obtain ⟨(e : k' = nI (m 1)), g1, g2, g⟩ := hq
      subst e
      have q21 : gi Tq 53 21 = nI (m 1) := (g2 21 (by omega)).trans ((a53 21 (by omega)).trans m21)
      refine ⟨Tq, ?_, g1, g2, g⟩
      unfold Md_takeTunnels_L40
      exact if_pos (by show gi Tq 53 21 ≤ nI (m 1); rw [q21]; exact nI_le (Nat.le_refl _) (by omega))
  have lk := unk_len S (m 1)
  refine ⟨T3, ?_, fun i j a c d e => (b1 i j a c d e).trans ((a1 i j c).trans (tb_n fun z => a z.1)), fun j hj => (b2 j hj).trans (a53 j hj), fun j hj => (b3 j hj).trans (a2 j hj), by rw [lk]; exact b4, fun d hd hn => ⟨?_, (b6.2 d hn).trans (a4 d hd)⟩, fun e he => ⟨?_, b6.1 e he⟩, b7⟩
  · unfold Md_takeTunnels
    rw [e2, q_bind, e3]; rfl
  · have this : (if d < 40 then gi T3 70 d else nI 0) = if d < 40 then gi T2 70 d else nI 0 := b5.2 d hn
    rw [if_pos hd, if_pos hd] at this
    exact this.trans (a3 d hd)
  · have this : (if dkN S e < 40 then gi T3 70 (dkN S e) else nI 0) = if xN S 1 e 2 = 8 then mI2 else nI (xN S 1 e 2) := b5.1 e he
    rw [if_pos (dk_lt h he).2.2.2.2.2] at this
    exact this
end TK
