/-! ===== image, back, undo ===== -/
def KpOp (N K F R : Nat) (U : List Nat) (X : List (List Cl)) (w : Nat) (S : Sm) (x y : Option (Int32 × Sm)) : Prop := ∃ q p, x = some q ∧ y = some p ∧ q.1 = p.1 ∧ gNs S ≤ gNs q.2 ∧ RelP N K F R U X w p.2 q.2
theorem im_c (S : Sm) : (∀ k, k < 56 → (Mo32_become_25 S).1 33 k = S.1 26 k) ∧ (∀ k, k < 40 → (Mo32_become_25 S).1 34 k = S.1 27 k) ∧ (∀ k, k < 8 → (Mo32_become_25 S).1 35 k = S.1 28 k) ∧ (∀ k, k < 60 → (Mo32_become_25 S).1 36 k = S.1 29 k) ∧ (∀ k, 4 ≤ k → k < 8 → (Mo32_become_25 S).1 32 k = S.1 25 k) ∧ ∀ i, i < 32 ∨ 37 ≤ i → (Mo32_become_25 S).1 i = S.1 i := by
  have e : Mo32_become_25 S = bcS S 32 25 := rfl
  rw [e]
  obtain ⟨a, b, c, d, f⟩ := bc_c (S := S) (a := 32) (b := 25) (by omega)
  exact ⟨a, b, c, d, f, fun i hi => bc_o (by omega) (by omega)⟩
theorem mi_c (S : Sm) : (∀ k, k < 56 → (Mo_become_32 S).1 26 k = S.1 33 k) ∧ (∀ k, k < 40 → (Mo_become_32 S).1 27 k = S.1 34 k) ∧ (∀ k, k < 8 → (Mo_become_32 S).1 28 k = S.1 35 k) ∧ (∀ k, k < 60 → (Mo_become_32 S).1 29 k = S.1 36 k) ∧ (∀ k, 4 ≤ k → k < 8 → (Mo_become_32 S).1 25 k = S.1 32 k) ∧ ∀ i, i < 25 ∨ 30 ≤ i → (Mo_become_32 S).1 i = S.1 i := by
  have e : Mo_become_32 S = bcS S 25 32 := rfl
  rw [e]
  obtain ⟨a, b, c, d, f⟩ := bc_c (S := S) (a := 25) (b := 32) (by omega)
  exact ⟨a, b, c, d, f, fun i hi => bc_o (by omega) (by omega)⟩
section AC
variable {N K F R w : Nat} {U : List Nat} {X : List (List Cl)} {T S : Sm}
theorem kp_nil (h : RelP N K F R U X w T S) : KpOp N K F R U X w S (some (mI, S)) (some (mI, T)) := ⟨_, _, rfl, rfl, rfl, Nat.le_refl _, h⟩
theorem op_image (h : RelP N K F R U X w T S) : ∃ p, Md_image T = some p ∧ (Dk_image S).1 = p.1 ∧ (Dk_image S).2.1 31 = S.1 31 ∧ RelP N K F R U X w p.2 (Dk_image S).2 := by
  unfold Md_image Dk_image
  rcases toldC h.1 with ⟨-, a, b⟩ | ⟨hN, a, b, c⟩
  · rw [a, b]
    exact ⟨(mI, T), rfl, rfl, rfl, h⟩
  · rw [a, if_neg (show ¬ nI 1 = 0 by decide), if_neg c]
    obtain ⟨h1, h2, h3, h4, h5, h6, h7, h8, h9, h10, h11⟩ := h
    have e1 : lpN Md_image_L13 FU (0, T) = some (kC T 70 0 89 0 320) := by
      refine lpN_run0 (fun k => (nI k, kC T 70 0 89 0 k)) 320 (by omega) (fun k hk => ?_) ?_ (by rw [kC_0]; rfl)
      · have s := kC_s (T := T) (pb := 0) (qb := 0) (k := k) (show (70 : Nat) ≠ 89 by decide)
        rw [Nat.zero_add] at s
        unfold Md_image_L13
        simp (disch := omega) only [q_lit, q_m1, q_m2, q_hid, q_add, q_mul, q_sub, q_le, q_lt, q_eq, q_mlt, q_mle, q_ltm, q_lem, q_meq, q_eqm, q_m2lt, q_m2le, q_ltm2, q_lem2, q_eqm2, q_mm2, q_m2m, q_mm, q_mnm, q_ix, q_inb, q_a0, q_a1, q_app, q_bind, if_true, if_false, if_pos, if_neg, s]
      · unfold Md_image_L13
        simp (disch := omega) only [q_lit, q_m1, q_m2, q_hid, q_add, q_mul, q_sub, q_le, q_lt, q_eq, q_mlt, q_mle, q_ltm, q_lem, q_meq, q_eqm, q_m2lt, q_m2le, q_ltm2, q_lem2, q_eqm2, q_mm2, q_m2m, q_mm, q_mnm, q_ix, q_inb, q_a0, q_a1, q_app, q_bind, if_true, if_false, if_pos, if_neg, Nat.le_refl]
    rw [e1]
    obtain ⟨i1, i2, i3, i4, i5, i6⟩ := im_c S
    have t89 : ∀ k, k < 320 → (kC T 70 0 89 0 320).1 89 k = T.1 70 k := fun k hk => kC_i ⟨rfl, by omega, by omega⟩
    have tt : ∀ b, b ≠ 89 → (kC T 70 0 89 0 320).1 b = T.1 b := fun b hb => funext fun j => kC_o fun e => hb e.1
    have h4' := h4
    obtain ⟨-, n, hh, q, o⟩ := h4'
    obtain ⟨-, -, -, -, -, ⟨d1, d2⟩, -⟩ := o
    refine ⟨_, rfl, ?_, ?_, ?_⟩
    · show gi (si (Mo32_become_25 S) 30 3 1) 25 5 = gi (si (kC T 70 0 89 0 320) 53 57 1) 70 137
      have x1 : gi (si (Mo32_become_25 S) 30 3 1) 25 5 = S.1 25 5 := congrFun (i6 25 (by omega)) 5
      have x2 : gi (si (kC T 70 0 89 0 320) 53 57 1) 70 137 = T.1 70 137 := congrFun (tt 70 (by omega)) 137
      rw [x1, x2, d1, d2]
    · show (si (Mo32_become_25 S) 30 3 1).1 31 = S.1 31
      rw [si_row (by omega), i6 31 (by omega)]
    · show RelP N K F R U X w (si (kC T 70 0 89 0 320) 53 57 1) (si (Mo32_become_25 S) 30 3 1)
      have sr : ∀ b, b < 30 ∨ b = 31 ∨ 37 ≤ b → (si (Mo32_become_25 S) 30 3 1).1 b = S.1 b := fun b hb => by rw [si_row (by omega), i6 b (by omega)]
      have tr : ∀ b, b ≠ 89 → b ≠ 53 → (si (kC T 70 0 89 0 320) 53 57 1).1 b = T.1 b := fun b h1 h2 => by rw [si_row h2, tt b h1]
      have t53 : ∀ j, j ≠ 57 → (si (kC T 70 0 89 0 320) 53 57 1).1 53 j = T.1 53 j := fun j hj => (if_neg fun e => hj e.2).trans (congrFun (tt 53 (by omega)) j)
      have e304 : (si (Mo32_become_25 S) 30 3 1).1 30 4 = S.1 30 4 := (tb_n (fun e => absurd e.2 (by decide))).trans (congrFun (i6 30 (by omega)) 4)
      have e305 : (si (Mo32_become_25 S) 30 3 1).1 30 5 = S.1 30 5 := (tb_n (fun e => absurd e.2 (by decide))).trans (congrFun (i6 30 (by omega)) 5)
      refine ⟨?_, ?_, ?_, ?_, h5.of (sr 31 (by omega)), h6.of2 h5 (fun b hb => sr b (by omega)) e304 e305 (fun k _ => congrFun (sr 31 (by omega)) k) (sr 13 (by omega)) (tr 73 (by omega) (by omega)) (t53 34 (by omega)), ⟨rfl, Or.inr ⟨rfl, hN, ?_⟩⟩, ?_, ?_, ?_, ?_⟩
      · simp only [NetR, gi, sr 11 (by omega), tr 68 (by omega) (by omega)] at h1 ⊢; exact h1
      · simp only [TldR, gi, sr 11 (by omega), sr 12 (by omega), tr 69 (by omega) (by omega), t53 26 (by omega)] at h2 ⊢; exact h2
      · simp only [UnkR, gi, sr 11 (by omega), sr 12 (by omega), tr 71 (by omega) (by omega), tr 72 (by omega) (by omega), t53 30 (by omega)] at h3 ⊢; exact h3
      · rw [tr 70 (by omega) (by omega), sr 13 (by omega), sr 25 (by omega), sr 26 (by omega), sr 27 (by omega), sr 28 (by omega), sr 29 (by omega)]; exact h4
      · rw [sr 13 (by omega), si_row (show (33 : Nat) ≠ 30 by decide), si_row (show (34 : Nat) ≠ 30 by decide), si_row (show (35 : Nat) ≠ 30 by decide), si_row (show (36 : Nat) ≠ 30 by decide), si_row (show (32 : Nat) ≠ 30 by decide), si_row (show (89 : Nat) ≠ 53 by decide)]
        exact h4.ext t89 i1 i2 i3 i4 i5 fun _ _ => rfl
      · simp only [StrR, gi, sr 43 (by omega), sr 42 (by omega), t53 49 (by omega), tr 81 (by omega) (by omega), tr 82 (by omega) (by omega), tr 83 (by omega) (by omega), tr 84 (by omega) (by omega)] at h8 ⊢; exact h8
      · simp only [TapR, gi, sr 9 (by omega), sr 8 (by omega), t53 2 (by omega), tr 54 (by omega) (by omega)] at h9 ⊢; exact h9
      · simp only [FogR, gi, sr 40 (by omega), t53 32 (by omega)] at h10 ⊢; exact h10
      · simp only [LawsR, LawC, LawT, gi, sr 20 (by omega), sr 21 (by omega), sr 22 (by omega), t53 13 (by omega), t53 31 (by omega), tr 55 (by omega) (by omega), tr 56 (by omega) (by omega), tr 58 (by omega) (by omega), tr 59 (by omega) (by omega), tr 60 (by omega) (by omega), tr 61 (by omega) (by omega)] at h11 ⊢; exact h11
theorem op_back (h : RelP N K F R U X w T S) : ∃ p, Md_back T = some p ∧ (Dk_back S).1 = p.1 ∧ (Dk_back S).2.1 31 = S.1 31 ∧ RelP N K F R U X w p.2 (Dk_back S).2 := by
  unfold Md_back Dk_back Ac_bringBack app Dk_back_21
  have h7 := h.2.2.2.2.2.2.1
  obtain ⟨a, b⟩ := h7
  rw [a]
  rcases b with b | ⟨b, hN, hm⟩
  · rw [b, if_pos (show nI 0 = 0 from rfl), if_pos (show nI 0 = 0 from rfl)]
    exact ⟨(mI, T), rfl, rfl, rfl, h⟩
  · rw [b, if_neg (show ¬ nI 1 = 0 by decide), if_neg (show ¬ nI 1 = 0 by decide)]
    have e1 : lpN Md_back_L11 FU (0, T) = some (kC T 89 0 70 0 320) := by
      refine lpN_run0 (fun k => (nI k, kC T 89 0 70 0 k)) 320 (by omega) (fun k hk => ?_) ?_ (by rw [kC_0]; rfl)
      · have s := kC_s (T := T) (pb := 0) (qb := 0) (k := k) (show (89 : Nat) ≠ 70 by decide)
        rw [Nat.zero_add] at s
        unfold Md_back_L11
        simp (disch := omega) only [q_lit, q_m1, q_m2, q_hid, q_add, q_mul, q_sub, q_le, q_lt, q_eq, q_mlt, q_mle, q_ltm, q_lem, q_meq, q_eqm, q_m2lt, q_m2le, q_ltm2, q_lem2, q_eqm2, q_mm2, q_m2m, q_mm, q_mnm, q_ix, q_inb, q_a0, q_a1, q_app, q_bind, if_true, if_false, if_pos, if_neg, s]
      · unfold Md_back_L11
        simp (disch := omega) only [q_lit, q_m1, q_m2, q_hid, q_add, q_mul, q_sub, q_le, q_lt, q_eq, q_mlt, q_mle, q_ltm, q_lem, q_meq, q_eqm, q_m2lt, q_m2le, q_ltm2, q_lem2, q_eqm2, q_mm2, q_m2m, q_mm, q_mnm, q_ix, q_inb, q_a0, q_a1, q_app, q_bind, if_true, if_false, if_pos, if_neg, Nat.le_refl]
    rw [e1]
    obtain ⟨i1, i2, i3, i4, i5, i6⟩ := mi_c S
    have t70 : ∀ k, k < 320 → (kC T 89 0 70 0 320).1 70 k = T.1 89 k := fun k hk => kC_i ⟨rfl, by omega, by omega⟩
    have tt : ∀ b, b ≠ 70 → (kC T 89 0 70 0 320).1 b = T.1 b := fun b hb => funext fun j => kC_o fun e => hb e.1
    have h4' := hm
    obtain ⟨-, n, hh, q, o⟩ := h4'
    obtain ⟨-, -, -, -, -, ⟨d1, d2⟩, -⟩ := o
    refine ⟨_, rfl, ?_, ?_, ?_⟩
    · show gi (si (Mo_become_32 S) 30 4 0) 25 5 = gi (si (kC T 89 0 70 0 320) 53 34 0) 70 137
      have x1 : gi (si (Mo_become_32 S) 30 4 0) 25 5 = S.1 32 5 := i5 5 (by omega) (by omega)
      have x2 : gi (si (kC T 89 0 70 0 320) 53 34 0) 70 137 = T.1 89 137 := t70 137 (by omega)
      rw [x1, x2, d1, d2]
    · show (si (Mo_become_32 S) 30 4 0).1 31 = S.1 31
      rw [si_row (by omega), i6 31 (by omega)]
    · show RelP N K F R U X w (si (kC T 89 0 70 0 320) 53 34 0) (si (Mo_become_32 S) 30 4 0)
      obtain ⟨ka, kx, c1, c2, c3, c4, c5, c6⟩ := h.2.2.2.2.2.1
      refine h.mom (fun b hb _ => by rw [si_row (by omega), i6 b (by omega)]) ((tb_n (fun e => absurd e.2 (by decide))).trans (congrFun (i6 30 (by omega)) 3)) (fun b h1 _ h3 => by rw [si_row h3, tt b h1]) (fun j hj => (if_neg fun e => hj e.2).trans (congrFun (tt 53 (by omega)) j)) ?_ ⟨0, kx, by omega, c2, rfl, rfl, ?_, fun j z => absurd z (by omega)⟩
      · rw [si_row (show (26 : Nat) ≠ 30 by decide), si_row (show (27 : Nat) ≠ 30 by decide), si_row (show (28 : Nat) ≠ 30 by decide), si_row (show (29 : Nat) ≠ 30 by decide), si_row (show (25 : Nat) ≠ 30 by decide), si_row (show (70 : Nat) ≠ 53 by decide)]
        exact hm.ext t70 i1 i2 i3 i4 i5 fun _ _ => rfl
      · exact ((tb_n (fun e => absurd e.2 (by decide))).trans (congrFun (i6 30 (by omega)) 5)).trans c5
theorem op_undo (h : RelP N K F R U X w T S) : KpOp N K F R U X w S (Dk_undo S) (Md_undo T) := by
  unfold Md_undo Dk_undo Ac_takeBack
  obtain ⟨a, x, ha, hx, m1, m2, m3, m4⟩ := h.2.2.2.2.2.1
  rw [m1, m2]
  by_cases c : a = 0
  · subst c
    rw [if_pos (show nI 0 = 0 from rfl), if_pos (show nI 0 = 0 from rfl)]
    exact kp_nil h
  · have c0 : ¬ nI a = 0 := fun z => c ((q_eq (b := 0) (by omega) (by omega)).mp z)
    rw [if_neg c0, if_neg c0]
    have ea : nI a - 1 = nI (a - 1) := q_sub (b := 1) (by omega)
    have e5 : iRem (gi S 30 5 + 40 - 1) 40 = nI ((x + 39) % 40) := by
      rw [m3, show (40 : Int32) = nI 40 from rfl, show (1 : Int32) = nI 1 from rfl, q_add, q_sub (by omega), q_rem (by omega) (by omega) (by omega)]
      exact congrArg nI (by omega)
    have sl : slot x a (a - 1) = (x + 39) % 40 := by unfold slot; omega
    have x9 : (x + 39) % 40 < 40 := Nat.mod_lt _ (by omega)
    obtain ⟨n1, n2⟩ := m4 (a - 1) (by omega)
    rw [sl] at n1 n2
    have ring := h.2.2.2.2.1
    have bb := (ring.1.2.2 _ x9 n1).1
    dsimp only
    rw [e5]
    have ix5 : ix (gi (si S 30 5 (nI ((x + 39) % 40))) 30 5) = (x + 39) % 40 := by
      rw [show gi (si S 30 5 (nI ((x + 39) % 40))) 30 5 = nI ((x + 39) % 40) from tb_h, q_ix (by omega)]
    have s31 : ∀ k, gi (si S 30 5 (nI ((x + 39) % 40))) 31 k = gi S 31 k := fun k => tb_n fun e => absurd e.1 (by decide)
    rw [ix5, s31]
    have r1 : RingOK (si S 30 5 (nI ((x + 39) % 40))) := ring.1
    have i1 : inb (gi (si S 30 5 (nI ((x + 39) % 40))) 30 5) 40 := by rw [show gi (si S 30 5 (nI ((x + 39) % 40))) 30 5 = nI ((x + 39) % 40) from tb_h]; exact nI_in (by omega) (by omega)
    rw [@if_pos _ (Classical.propDecidable _) ⟨r1, i1, n1⟩ _ _ _]
    generalize hb : ix (gi S 31 ((x + 39) % 40)) = b at n2 bb
    have hd : b + 5 ≤ 25 ∨ 25 + 5 ≤ b := Or.inr (by omega)
    obtain ⟨p1, p2, p3, p4, p5⟩ := bc_c (S := si S 30 5 (nI ((x + 39) % 40))) (a := 25) hd
    have po : ∀ i, i < 25 ∨ 30 ≤ i → (bcS (si S 30 5 (nI ((x + 39) % 40))) 25 b).1 i = (si S 30 5 (nI ((x + 39) % 40))).1 i := fun i hi => bc_o (by omega) (by omega)
    have g4 : gi (bcS (si S 30 5 (nI ((x + 39) % 40))) 25 b) 30 4 = nI a := by
      show (bcS (si S 30 5 (nI ((x + 39) % 40))) 25 b).1 30 4 = _
      rw [po 30 (by omega)]; exact m2
    simp only [g4, ea]
    have e1 : lpN Md_undo_L21 FU (0, si T 53 34 (nI (a - 1))) = some (kC (si T 53 34 (nI (a - 1))) 73 (320 * (a - 1)) 70 0 320) := by
      refine lpN_run0 (fun k => (nI k, kC (si T 53 34 (nI (a - 1))) 73 (320 * (a - 1)) 70 0 k)) 320 (by omega) (fun k hk => ?_) ?_ (by rw [kC_0]; rfl)
      · have s := kC_s (T := si T 53 34 (nI (a - 1))) (pb := 320 * (a - 1)) (qb := 0) (k := k) (show (73 : Nat) ≠ 70 by decide)
        rw [Nat.zero_add] at s
        have e34 : gi (kC (si T 53 34 (nI (a - 1))) 73 (320 * (a - 1)) 70 0 k) 53 34 = nI (a - 1) := rfl
        unfold Md_undo_L21
        simp (disch := omega) only [q_lit, q_m1, q_m2, q_hid, q_add, q_mul, q_sub, q_le, q_lt, q_eq, q_mlt, q_mle, q_ltm, q_lem, q_meq, q_eqm, q_m2lt, q_m2le, q_ltm2, q_lem2, q_eqm2, q_mm2, q_m2m, q_mm, q_mnm, q_ix, q_inb, q_a0, q_a1, q_app, q_bind, if_true, if_false, if_pos, if_neg, e34, s]
      · unfold Md_undo_L21
        simp (disch := omega) only [q_lit, q_m1, q_m2, q_hid, q_add, q_mul, q_sub, q_le, q_lt, q_eq, q_mlt, q_mle, q_ltm, q_lem, q_meq, q_eqm, q_m2lt, q_m2le, q_ltm2, q_lem2, q_eqm2, q_mm2, q_m2m, q_mm, q_mnm, q_ix, q_inb, q_a0, q_a1, q_app, q_bind, if_true, if_false, if_pos, if_neg, Nat.le_refl]
    rw [e1, q_bind]
    have t70 : ∀ k, k < 320 → (kC (si T 53 34 (nI (a - 1))) 73 (320 * (a - 1)) 70 0 320).1 70 k = T.1 73 (320 * (a - 1) + k) := fun k hk => by
      rw [kC_i ⟨rfl, by omega, by omega⟩, Nat.sub_zero, Nat.add_comm k]; rfl
    have tt : ∀ b, b ≠ 70 → (kC (si T 53 34 (nI (a - 1))) 73 (320 * (a - 1)) 70 0 320).1 b = (si T 53 34 (nI (a - 1))).1 b := fun b hb => funext fun j => kC_o fun e => hb e.1
    have fin31 : ∀ v, (si (bcS (si S 30 5 (nI ((x + 39) % 40))) 25 b) 30 4 v).1 31 = S.1 31 := fun v => by rw [si_row (by omega), po 31 (by omega), si_row (by omega)]
    refine ⟨_, _, rfl, rfl, ?_, ?_, ?_⟩
    · show nI (a - 1) = (kC (si T 53 34 (nI (a - 1))) 73 (320 * (a - 1)) 70 0 320).1 53 34
      rw [tt 53 (by omega)]; rfl
    · show gNs S ≤ ix ((si (bcS (si S 30 5 (nI ((x + 39) % 40))) 25 b) 30 4 _).1 31 40)
      rw [fin31]; exact Nat.le_refl _
    · refine h.mom (fun i hi _ => ?_) ?_ (fun i h1 _ h3 => ?_) (fun j hj => ?_) ?_ ⟨a - 1, (x + 39) % 40, by omega, x9, ?_, rfl, ?_, fun j hj => ?_⟩
      · show (si (bcS (si S 30 5 (nI ((x + 39) % 40))) 25 b) 30 4 _).1 i = _
        rw [si_row (by omega), po i (by omega), si_row (by omega)]
      · show gi (si (bcS (si S 30 5 (nI ((x + 39) % 40))) 25 b) 30 4 _) 30 3 = _
        rw [tb_n (fun e => absurd e.2 (by decide))]
        show (bcS (si S 30 5 (nI ((x + 39) % 40))) 25 b).1 30 3 = _
        rw [po 30 (by omega)]; rfl
      · show (kC (si T 53 34 (nI (a - 1))) 73 (320 * (a - 1)) 70 0 320).1 i = _
        rw [tt i h1, si_row h3]
      · show (kC (si T 53 34 (nI (a - 1))) 73 (320 * (a - 1)) 70 0 320).1 53 j = _
        rw [tt 53 (by omega)]
        exact if_neg fun e => hj e.2
      · show MoR N K U (S.1 13) ((kC (si T 53 34 (nI (a - 1))) 73 (320 * (a - 1)) 70 0 320).1 70) ((si (bcS (si S 30 5 (nI ((x + 39) % 40))) 25 b) 30 4 _).1 26) ((si (bcS (si S 30 5 (nI ((x + 39) % 40))) 25 b) 30 4 _).1 27) ((si (bcS (si S 30 5 (nI ((x + 39) % 40))) 25 b) 30 4 _).1 28) ((si (bcS (si S 30 5 (nI ((x + 39) % 40))) 25 b) 30 4 _).1 29) ((si (bcS (si S 30 5 (nI ((x + 39) % 40))) 25 b) 30 4 _).1 25)
        rw [si_row (show (26 : Nat) ≠ 30 by decide), si_row (show (27 : Nat) ≠ 30 by decide), si_row (show (28 : Nat) ≠ 30 by decide), si_row (show (29 : Nat) ≠ 30 by decide), si_row (show (25 : Nat) ≠ 30 by decide)]
        have rb : ∀ t, (si S 30 5 (nI ((x + 39) % 40))).1 (b + t) = S.1 (b + t) := fun t => si_row (by omega)
        rw [rb] at p1 p2 p3 p4
        have rb0 : (si S 30 5 (nI ((x + 39) % 40))).1 b = S.1 b := rb 0
        rw [rb0] at p5
        exact n2.ext t70 p1 p2 p3 p4 p5 fun _ _ => rfl
      · show (kC (si T 53 34 (nI (a - 1))) 73 (320 * (a - 1)) 70 0 320).1 53 34 = _
        rw [tt 53 (by omega)]; rfl
      · show gi (si (bcS (si S 30 5 (nI ((x + 39) % 40))) 25 b) 30 4 _) 30 5 = _
        rw [tb_n (fun e => absurd e.2 (by decide))]
        show (bcS (si S 30 5 (nI ((x + 39) % 40))) 25 b).1 30 5 = _
        rw [po 30 (by omega)]; rfl
      · have es : slot ((x + 39) % 40) (a - 1) j = slot x a j := by unfold slot; omega
        obtain ⟨q1, q2⟩ := m4 j (by omega)
        have hsl : slot x a j < 40 := Nat.mod_lt _ (by omega)
        have hb9 := (ring.1.2.2 _ hsl q1).1
        show gi (si (bcS (si S 30 5 (nI ((x + 39) % 40))) 25 b) 30 4 _) 31 _ ≠ 0 ∧ MoK N K U _ _ (si (bcS (si S 30 5 (nI ((x + 39) % 40))) 25 b) 30 4 _) (ix (gi (si (bcS (si S 30 5 (nI ((x + 39) % 40))) 25 b) 30 4 _) 31 _))
        have g31 : ∀ v k, gi (si (bcS (si S 30 5 (nI ((x + 39) % 40))) 25 b) 30 4 v) 31 k = gi S 31 k := fun v k => congrFun (fin31 v) k
        rw [es, g31]
        refine ⟨q1, ?_⟩
        generalize ix (gi S 31 (slot x a j)) = y at q2 hb9
        unfold MoK at q2 ⊢
        have ry : ∀ v i, 91 ≤ i → (si (bcS (si S 30 5 (nI ((x + 39) % 40))) 25 b) 30 4 v).1 i = S.1 i := fun v i hi => by rw [si_row (by omega), po i (by omega), si_row (by omega)]
        rw [ry _ (y + 1) (by omega), ry _ (y + 2) (by omega), ry _ (y + 3) (by omega), ry _ (y + 4) (by omega), ry _ y hb9]
        refine q2.ext (fun k hk => ?_) (fun _ _ => rfl) (fun _ _ => rfl) (fun _ _ => rfl) (fun _ _ => rfl) (fun _ _ _ => rfl) fun k _ => ?_
        · show (kC (si T 53 34 (nI (a - 1))) 73 (320 * (a - 1)) 70 0 320).1 73 _ = _
          rw [tt 73 (by omega)]; rfl
        · show (si (bcS (si S 30 5 (nI ((x + 39) % 40))) 25 b) 30 4 _).1 13 k = _
          rw [si_row (by omega), po 13 (by omega), si_row (by omega)]
end AC
