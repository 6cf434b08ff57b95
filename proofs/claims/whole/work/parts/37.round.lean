/-! ===== comes, round ===== -/
theorem wk_add (L : Nat → Nat → Nat) (c a b m : Nat) : wk L c (a + b) m = wk L c a (wk L c b m) := itr_add _ a b m
theorem wk_1 (L : Nat → Nat → Nat) (c m : Nat) : wk L c 1 m = L m c := rfl
theorem wk_s (L : Nat → Nat → Nat) (c n m : Nat) : wk L c (n + 1) m = L (wk L c n m) c := rfl
/-- where a walk comes again: through mu to the first place that it is at twice, la round -/
theorem rho {N : Nat} (hN : N ≤ 8) {L : Nat → Nat → Nat} {c m : Nat} (hx : ∀ n, wk L c n m < N) : ∃ n mu, mu < n ∧ n ≤ 8 ∧ wk L c n m = wk L c mu m ∧ (∀ i j, i < j → j < n → wk L c i m ≠ wk L c j m) ∧ (∀ p, 1 ≤ p → p < n - mu → wk L c (8 + p) m ≠ wk L c 8 m) ∧ wk L c (8 + (n - mu)) m = wk L c 8 m ∧ (∀ s, s < mu → wk L c s m ≠ wk L c (s + (n - mu)) m) ∧ wk L c mu m = wk L c (mu + (n - mu)) m := by
  obtain ⟨n, h1, h2, h3⟩ := first_ex (fun n => ∃ i, i < n ∧ wk L c i m = wk L c n m) 9
  have hn : n ≤ 8 := by
    rcases Nat.lt_or_ge n 9 with q | q
    · omega
    · exfalso
      obtain ⟨i, j, a, b, d⟩ := php N (fun i => wk L c i m) (fun i _ => hx i)
      exact h2 j (by omega) ⟨i, a, d⟩
  obtain ⟨i0, hi0, he0⟩ := h3 (by omega)
  have hdist : ∀ i j, i < j → j < n → wk L c i m ≠ wk L c j m := fun i j a b e => h2 j b ⟨i, a, e⟩
  have hmu : wk L c n m = wk L c i0 m := he0.symm
  have hper : ∀ t, wk L c (i0 + t + (n - i0)) m = wk L c (i0 + t) m := fun t => by
    rw [show i0 + t + (n - i0) = t + n by omega, wk_add, hmu, ← wk_add, Nat.add_comm t i0]
  have hmul : ∀ k, wk L c (i0 + (n - i0) * k) m = wk L c i0 m := fun k => by
    induction k with
    | zero => rw [Nat.mul_zero, Nat.add_zero]
    | succ k ih => rw [Nat.mul_succ, ← Nat.add_assoc, hper, ih]
  refine ⟨n, i0, hi0, hn, hmu, hdist, fun p hp1 hp2 e => ?_, ?_, fun s hs e => ?_, ?_⟩
  · have h8 : 8 ≤ (n - i0) * 8 := by
      have : 1 * 8 ≤ (n - i0) * 8 := Nat.mul_le_mul_right 8 (by omega)
      omega
    have e2 : wk L c (i0 + (n - i0) * 8 - 8 + (8 + p)) m = wk L c (i0 + (n - i0) * 8 - 8 + 8) m := by
      rw [wk_add, e, ← wk_add]
    rw [show i0 + (n - i0) * 8 - 8 + 8 = i0 + (n - i0) * 8 by omega, hmul, show i0 + (n - i0) * 8 - 8 + (8 + p) = p + (i0 + (n - i0) * 8) by omega, wk_add, hmul, ← wk_add] at e2
    exact hdist i0 (p + i0) (by omega) (by omega) e2.symm
  · have := hper (8 - i0)
    rw [show i0 + (8 - i0) = 8 by omega] at this
    exact this
  · exact hdist s (s + (n - i0)) (by omega) (by omega) e
  · rw [show i0 + (n - i0) = n by omega]; exact hmu.symm
section RD
variable {N K : Nat} {L D : Nat → Nat → Nat} {T S : Sm}
theorem wy_circle (hP : WyP N K L D) (hS : WyS N K L D S) {m c la : Nat} (hm : m < N) (hc : c < K ∨ c = 5) (h0 : 1 ≤ la) (h8 : la ≤ 8) (h1 : ∀ p, 1 ≤ p → p < la → wk L c (8 + p) m ≠ wk L c 8 m) (h2 : wk L c (8 + la) m = wk L c 8 m) : Wy_circleLength (nI m) (nI c) S = some (nI la) := by
  have hN := hP.1
  unfold Wy_circleLength
  rw [show (8 : Int32) = nI 8 from rfl, wy_behind hP hS hm hc (by omega)]
  have e : lpN (Wy_circleLength_L20 (nI c) (nI (wk L c 8 m)) S) FU (Wy_leadsTo (nI (wk L c 8 m)) (nI c) S, 1) = some (nI la) := by
    refine lpN_run0 (fun i => (nI (wk L c (8 + (i + 1)) m), nI (i + 1))) (la - 1) (by omega) (fun i hi => ?_) ?_ ?_
    · have hx := (hS.2.2 (wk L c (8 + (i + 1)) m) c (wk_lt hP hc hm _) hc).1
      have a1 := wk_lt hP hc hm (8 + (i + 1))
      have a2 := wk_lt hP hc hm 8
      have hne := h1 (i + 1) (by omega) (by omega)
      unfold Wy_circleLength_L20
      simp (disch := omega) only [q_lit, q_m1, q_m2, q_hid, q_add, q_mul, q_sub, q_le, q_lt, q_eq, q_mlt, q_mle, q_ltm, q_lem, q_meq, q_eqm, q_m2lt, q_m2le, q_ltm2, q_lem2, q_eqm2, q_mm2, q_m2m, q_mm, q_mnm, q_ix, q_inb, q_a0, q_a1, q_app, q_bind, if_true, if_false, if_pos, if_neg, hx, hne]
      rfl
    · have a1 := wk_lt hP hc hm (8 + la)
      have a2 := wk_lt hP hc hm 8
      unfold Wy_circleLength_L20
      have e1 : la - 1 + 1 = la := by omega
      by_cases q : la = 8
      · simp (disch := omega) only [q_lit, q_m1, q_m2, q_hid, q_add, q_mul, q_sub, q_le, q_lt, q_eq, q_mlt, q_mle, q_ltm, q_lem, q_meq, q_eqm, q_m2lt, q_m2le, q_ltm2, q_lem2, q_eqm2, q_mm2, q_m2m, q_mm, q_mnm, q_ix, q_inb, q_a0, q_a1, q_app, q_bind, if_true, if_false, if_pos, if_neg, e1, q, Nat.le_refl]
      · simp (disch := omega) only [q_lit, q_m1, q_m2, q_hid, q_add, q_mul, q_sub, q_le, q_lt, q_eq, q_mlt, q_mle, q_ltm, q_lem, q_meq, q_eqm, q_m2lt, q_m2le, q_ltm2, q_lem2, q_eqm2, q_mm2, q_m2m, q_mm, q_mnm, q_ix, q_inb, q_a0, q_a1, q_app, q_bind, if_true, if_false, if_pos, if_neg, e1, h2]
    · show (Wy_leadsTo (nI (wk L c 8 m)) (nI c) S, nI 1) = (nI (wk L c (8 + (0 + 1)) m), nI (0 + 1))
      rw [(hS.2.2 _ c (wk_lt hP hc hm 8) hc).1]
      rfl
  show (lpN _ FU _).bind _ = _
  rw [e]; rfl
theorem wy_steps (hP : WyP N K L D) (hS : WyS N K L D S) {m c la mu : Nat} (hm : m < N) (hc : c < K ∨ c = 5) (h0 : la ≤ 8) (h8 : mu ≤ 8) (h1 : ∀ s, s < mu → wk L c s m ≠ wk L c (s + la) m) (h2 : wk L c mu m = wk L c (mu + la) m) : Wy_stepsToCircle (nI m) (nI c) (nI la) S = some (nI mu) := by
  have hN := hP.1
  unfold Wy_stepsToCircle
  rw [wy_behind hP hS hm hc (by omega)]
  have e : lpN (Wy_stepsToCircle_L15 (nI c) S) FU (nI m, nI (wk L c la m), 0) = some (nI mu) := by
    refine lpN_run0 (fun i => (nI (wk L c i m), nI (wk L c (i + la) m), nI i)) mu (by omega) (fun i hi => ?_) ?_ ?_
    · have hx := (hS.2.2 (wk L c i m) c (wk_lt hP hc hm _) hc).1
      have hy := (hS.2.2 (wk L c (i + la) m) c (wk_lt hP hc hm _) hc).1
      have a1 := wk_lt hP hc hm i
      have a2 := wk_lt hP hc hm (i + la)
      have hne := h1 i hi
      unfold Wy_stepsToCircle_L15
      simp (disch := omega) only [q_lit, q_m1, q_m2, q_hid, q_add, q_mul, q_sub, q_le, q_lt, q_eq, q_mlt, q_mle, q_ltm, q_lem, q_meq, q_eqm, q_m2lt, q_m2le, q_ltm2, q_lem2, q_eqm2, q_mm2, q_m2m, q_mm, q_mnm, q_ix, q_inb, q_a0, q_a1, q_app, q_bind, if_true, if_false, if_pos, if_neg, hx, hy, hne]
      rw [show i + 1 + la = i + la + 1 by omega]
      rfl
    · have a1 := wk_lt hP hc hm mu
      unfold Wy_stepsToCircle_L15
      by_cases q : mu = 8
      · simp (disch := omega) only [q_lit, q_m1, q_m2, q_hid, q_add, q_mul, q_sub, q_le, q_lt, q_eq, q_mlt, q_mle, q_ltm, q_lem, q_meq, q_eqm, q_m2lt, q_m2le, q_ltm2, q_lem2, q_eqm2, q_mm2, q_m2m, q_mm, q_mnm, q_ix, q_inb, q_a0, q_a1, q_app, q_bind, if_true, if_false, if_pos, if_neg, q, Nat.le_refl]
      · simp (disch := omega) only [q_lit, q_m1, q_m2, q_hid, q_add, q_mul, q_sub, q_le, q_lt, q_eq, q_mlt, q_mle, q_ltm, q_lem, q_meq, q_eqm, q_m2lt, q_m2le, q_ltm2, q_lem2, q_eqm2, q_mm2, q_m2m, q_mm, q_mnm, q_ix, q_inb, q_a0, q_a1, q_app, q_bind, if_true, if_false, if_pos, if_neg, ← h2]
    · show _ = (nI m, nI (wk L c (0 + la) m), nI 0)
      rw [Nat.zero_add]; rfl
  show (lpN _ FU _).bind _ = _
  rw [e]; rfl
/-- the mouths seen, as bits -/
def sn (x : Nat → Nat) (n : Nat) : Nat := fld (fun i s => s ||| 2 ^ x i) n 0
theorem sn_lt {x : Nat → Nat} (h : ∀ i, x i < 8) : ∀ n, sn x n < 256
  | 0 => show 0 < 256 by decide
  | n + 1 => mask_lt (n := 8) (sn_lt h n) (bit_lt (h n))
theorem sn_bit (x : Nat → Nat) (j : Nat) : ∀ n, (sn x n).testBit j = true ↔ ∃ i, i < n ∧ x i = j
  | 0 => by
    rw [show sn x 0 = 0 from rfl, Nat.zero_testBit]
    exact ⟨fun h => (by cases h), fun ⟨i, h, _⟩ => absurd h (Nat.not_lt_zero _)⟩
  | n + 1 => by
    rw [show sn x (n + 1) = sn x n ||| 2 ^ x n from rfl, Nat.testBit_or, tb_pow, Bool.or_eq_true, sn_bit x j n, decide_eq_true_iff]
    constructor
    · rintro (⟨i, a, b⟩ | a)
      · exact ⟨i, by omega, b⟩
      · exact ⟨n, by omega, a⟩
    · rintro ⟨i, a, b⟩
      by_cases q : i = n
      · subst q; exact Or.inr b
      · exact Or.inl ⟨i, by omega, b⟩
theorem md_seen (hP : WyP N K L D) (hT : WyT N K L D T) {m c n mu : Nat} {v3 : Int32} (hm : m < N) (hc : c < K ∨ c = 5) (hn : n ≤ 8) (hmu : mu < n) (h1 : ∀ i j, i < j → j < n → wk L c i m ≠ wk L c j m) (h2 : wk L c n m = wk L c mu m) : lpN (Md_round_L36 (nI m) (nI c) v3 T) FU (0, 0, nI m) = some (nI n, nI (wk L c mu m)) := by
  have hN := hP.1
  have hx : ∀ i, wk L c i m < 8 := fun i => Nat.lt_of_lt_of_le (wk_lt hP hc hm i) hN
  refine lpN_run0 (fun i => (nI (sn (fun i => wk L c i m) i), nI i, nI (wk L c i m))) n (by omega) (fun i hi => ?_) ?_ rfl
  · have e := (hT.2.2 (wk L c i m) c (wk_lt hP hc hm _) hc).1
    have a1 := sn_lt hx i
    have a2 := hx i
    have b : (sn (fun i => wk L c i m) i).testBit (wk L c i m) = false := by
      rw [← Bool.not_eq_true]
      intro q
      obtain ⟨j, a, b⟩ := (sn_bit _ _ i).mp q
      exact h1 j i a hi b
    unfold Md_round_L36
    simp (disch := omega) only [q_lit, q_m1, q_m2, q_hid, q_add, q_mul, q_sub, q_le, q_lt, q_eq, q_mlt, q_mle, q_ltm, q_lem, q_meq, q_eqm, q_m2lt, q_m2le, q_ltm2, q_lem2, q_eqm2, q_mm2, q_m2m, q_mm, q_mnm, q_ix, q_inb, q_a0, q_a1, q_app, q_bind, if_true, if_false, if_pos, if_neg, q_has, b, bI_f, e, q_shl, q_or]
    rfl
  · have a1 := sn_lt hx n
    have a2 := hx n
    have b : (sn (fun i => wk L c i m) n).testBit (wk L c n m) = true := (sn_bit _ _ n).mpr ⟨mu, hmu, h2.symm⟩
    unfold Md_round_L36
    simp (disch := omega) only [q_lit, q_m1, q_m2, q_hid, q_add, q_mul, q_sub, q_le, q_lt, q_eq, q_mlt, q_mle, q_ltm, q_lem, q_meq, q_eqm, q_m2lt, q_m2le, q_ltm2, q_lem2, q_eqm2, q_mm2, q_m2m, q_mm, q_mnm, q_ix, q_inb, q_a0, q_a1, q_app, q_bind, if_true, if_false, if_pos, if_neg, q_has, b, bI_t]
    rw [h2]
theorem md_first (hP : WyP N K L D) (hT : WyT N K L D T) {m c n mu : Nat} {v1 v3 v5 : Int32} (hm : m < N) (hc : c < K ∨ c = 5) (hn : n ≤ 8) (hmu : mu < n) (h1 : ∀ i j, i < j → j < n → wk L c i m ≠ wk L c j m) : lpN (Md_round_L73 (nI m) (nI c) v3 v5 (nI (wk L c mu m)) T) FU 0 = some (nI mu) := by
  have hN := hP.1
  have hx : ∀ i, wk L c i m < 8 := fun i => Nat.lt_of_lt_of_le (wk_lt hP hc hm i) hN
  refine lpN_run0 (fun i => nI i) mu (by omega) (fun i hi => ?_) ?_ rfl
  · have a1 := hx i
    have a2 := hx mu
    have hne := h1 i mu hi hmu
    show Md_round_L73 _ _ _ _ _ _ (nI i) = _
    unfold Md_round_L73
    rw [md_through hP hT hm hc (by omega)]
    simp (disch := omega) only [q_lit, q_m1, q_m2, q_hid, q_add, q_mul, q_sub, q_le, q_lt, q_eq, q_mlt, q_mle, q_ltm, q_lem, q_meq, q_eqm, q_m2lt, q_m2le, q_ltm2, q_lem2, q_eqm2, q_mm2, q_m2m, q_mm, q_mnm, q_ix, q_inb, q_a0, q_a1, q_app, q_bind, if_true, if_false, if_pos, if_neg, hne]
  · show Md_round_L73 _ _ _ _ _ _ (nI mu) = _
    unfold Md_round_L73
    rw [md_through hP hT hm hc (by omega)]
    simp (disch := omega) only [q_lit, q_m1, q_m2, q_hid, q_add, q_mul, q_sub, q_le, q_lt, q_eq, q_mlt, q_mle, q_ltm, q_lem, q_meq, q_eqm, q_m2lt, q_m2le, q_ltm2, q_lem2, q_eqm2, q_mm2, q_m2m, q_mm, q_mnm, q_ix, q_inb, q_a0, q_a1, q_app, q_bind, if_true, if_false, if_pos, if_neg]
end RD
section RO
variable {N K F R w : Nat} {U : List Nat} {X : List (List Cl)} {T S : Sm}
theorem pos_of {m N : Nat} (h : m < N) : 0 < N := by omega
theorem op_comes (h : RelP N K F R U X w T S) (v1 v2 v3 : Int32) : ∃ v, Dk_comes v1 v2 v3 S = some v ∧ Md_comes v1 v2 v3 T = some v := by
  unfold Dk_comes Md_comes Dk_comes_32 Md_comes_36 Md_comes_37
  rcases mouthC h.1 v1 with ⟨a, b⟩ | ⟨m, hm, rfl, a, b⟩
  · rw [a, b]; exact ⟨mI, rfl, rfl⟩
  · obtain ⟨hP, hS, hT⟩ := way_of h (pos_of hm)
    rcases lampC h.1 (pos_of hm) v2 with ⟨c, d⟩ | ⟨c, hc, hc6, rfl, c', d⟩
    · rw [a, b, c, d]; exact ⟨mI, rfl, rfl⟩
    · rw [a, b, c', d]
      rcases rngG v3 0 99 (by omega) (by omega) with ⟨q, e⟩ | ⟨n, -, hn, rfl, e⟩
      · rw [show Md_in v3 0 99 = nI 0 from e]
        refine ⟨mI, ?_, rfl⟩
        rw [if_neg (by decide), if_neg (by decide), rng_le (a := 0) (n := 99) q]; rfl
      · rw [show Md_in (nI n) 0 99 = nI 1 from e, wy_behind hP hS hm hc (by omega), md_through hP hT hm hc (by omega)]
        refine ⟨nI (wk (Ld (T.1 70)) c n m), ?_, rfl⟩
        simp (disch := omega) only [q_lit, q_m1, q_m2, q_hid, q_add, q_mul, q_sub, q_le, q_lt, q_eq, q_mlt, q_mle, q_ltm, q_lem, q_meq, q_eqm, q_m2lt, q_m2le, q_ltm2, q_lem2, q_eqm2, q_mm2, q_m2m, q_mm, q_mnm, q_ix, q_inb, q_a0, q_a1, q_app, q_bind, if_true, if_false, if_pos, if_neg]
theorem op_round (h : RelP N K F R U X w T S) (v1 v2 v3 : Int32) : ∃ v, Dk_round v1 v2 v3 S = some v ∧ Md_round v1 v2 v3 T = some v := by
  unfold Dk_round Md_round Dk_round_31 Md_round_25 Dk_round_65 Md_round_106
  rcases mouthC h.1 v1 with ⟨a, b⟩ | ⟨m, hm, rfl, a, b⟩
  · rw [a, b]; exact ⟨mI, rfl, rfl⟩
  · obtain ⟨hP, hS, hT⟩ := way_of h (pos_of hm)
    rcases lampC h.1 (pos_of hm) v2 with ⟨c, d⟩ | ⟨c, hc, hc6, rfl, c', d⟩
    · rw [a, b, c, d]; exact ⟨mI, rfl, rfl⟩
    · rw [a, b, c', d]
      rcases rngG v3 0 1 (by omega) (by omega) with ⟨q, e⟩ | ⟨n, -, hn, rfl, e⟩
      · rw [show Md_in v3 0 1 = nI 0 from e]
        refine ⟨mI, ?_, rfl⟩
        rw [if_neg (by decide), if_neg (by decide), rng_le (a := 0) (n := 1) q]; rfl
      · obtain ⟨k, mu, g1, g2, g3, g4, g5, g6, g7, g8⟩ := rho hP.1 (m := m) (fun n => wk_lt hP hc hm n)
        rw [show Md_in (nI n) 0 1 = nI 1 from e, md_seen hP hT hm hc g2 g1 g4 g3, wy_circle hP hS hm hc (by omega) (by omega) g5 g6]
        have e1 := wy_steps hP hS hm hc (la := k - mu) (mu := mu) (by omega) (by omega) g7 g8
        have e2 := md_first hP hT hm hc (v1 := 0) (v3 := nI n) (v5 := nI k) g2 g1 g4
        refine ⟨if n = 0 then nI mu else nI (k - mu), ?_, ?_⟩
        · by_cases z : n = 0
          · simp (disch := omega) only [q_lit, q_m1, q_m2, q_hid, q_add, q_mul, q_sub, q_le, q_lt, q_eq, q_mlt, q_mle, q_ltm, q_lem, q_meq, q_eqm, q_m2lt, q_m2le, q_ltm2, q_lem2, q_eqm2, q_mm2, q_m2m, q_mm, q_mnm, q_ix, q_inb, q_a0, q_a1, q_app, q_bind, if_true, if_false, if_pos, if_neg, z, e1, Nat.zero_le]
          · have z1 : n = 1 := by omega
            subst z1
            simp (disch := omega) only [q_lit, q_m1, q_m2, q_hid, q_add, q_mul, q_sub, q_le, q_lt, q_eq, q_mlt, q_mle, q_ltm, q_lem, q_meq, q_eqm, q_m2lt, q_m2le, q_ltm2, q_lem2, q_eqm2, q_mm2, q_m2m, q_mm, q_mnm, q_ix, q_inb, q_a0, q_a1, q_app, q_bind, if_true, if_false, if_pos, if_neg, Nat.le_refl]
        · have e2' : lpN (Md_round_L73 (nI m) (nI c) (nI n) (nI k) (nI (wk (Ld (T.1 70)) c mu m)) T) FU (nI 0) = some (nI mu) := e2
          by_cases z : n = 0
          · subst z
            simp (disch := omega) only [q_lit, q_m1, q_m2, q_hid, q_add, q_mul, q_sub, q_le, q_lt, q_eq, q_mlt, q_mle, q_ltm, q_lem, q_meq, q_eqm, q_m2lt, q_m2le, q_ltm2, q_lem2, q_eqm2, q_mm2, q_m2m, q_mm, q_mnm, q_ix, q_inb, q_a0, q_a1, q_app, q_bind, if_true, if_false, if_pos, if_neg, e2']
          · simp (disch := omega) only [q_lit, q_m1, q_m2, q_hid, q_add, q_mul, q_sub, q_le, q_lt, q_eq, q_mlt, q_mle, q_ltm, q_lem, q_meq, q_eqm, q_m2lt, q_m2le, q_ltm2, q_lem2, q_eqm2, q_mm2, q_m2m, q_mm, q_mnm, q_ix, q_inb, q_a0, q_a1, q_app, q_bind, if_true, if_false, if_pos, if_neg, e2', z]
end RO
