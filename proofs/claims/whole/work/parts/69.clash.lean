/-! ===== timetables: what clashes ===== -/
def tbC (T : Sm) (F a c b i j : Nat) : Bool := decide (i < tbN T a ∧ j < tbN T c ∧ tbH T F a i + b = tbH T F c j + 4 ∧ tbM T F a i = tbM T F c j ∧ tbL T F a i = tbL T F c j)
def tbR (T : Sm) (F a c b i x : Nat) : Nat := fld (fun j y => if tbC T F a c b i j = true then y + 1 else y) 3 x
def tbK (T : Sm) (F a c b : Nat) : Nat := fld (fun i x => tbR T F a c b i x) 3 0
theorem fld_fix {α : Type} {f : Nat → α → α} {n : Nat} {x : α} (h : ∀ i, n ≤ i → f i (fld f n x) = fld f n x) : ∀ m, fld f (n + m) x = fld f n x
  | 0 => rfl
  | m + 1 => by
    show f (n + m) (fld f (n + m) x) = _
    rw [fld_fix h m]
    exact h (n + m) (by omega)
theorem tbR_le (T : Sm) (F a c b i : Nat) : ∀ n x, fld (fun j y => if tbC T F a c b i j = true then y + 1 else y) n x ≤ x + n
  | 0, _ => Nat.le_refl _
  | n + 1, x => by
    have := tbR_le T F a c b i n x
    show (if tbC T F a c b i n = true then fld (fun j y => if tbC T F a c b i j = true then y + 1 else y) n x + 1 else fld (fun j y => if tbC T F a c b i j = true then y + 1 else y) n x) ≤ x + (n + 1)
    generalize fld (fun j y => if tbC T F a c b i j = true then y + 1 else y) n x = z at this ⊢
    split <;> omega
theorem tbK_le (T : Sm) (F a c b : Nat) : ∀ n, fld (fun i x => tbR T F a c b i x) n 0 ≤ 3 * n
  | 0 => Nat.le_refl _
  | n + 1 => by
    have h1 := tbK_le T F a c b n
    have h2 := tbR_le T F a c b n 3 (fld (fun i x => tbR T F a c b i x) n 0)
    show tbR T F a c b n (fld (fun i x => tbR T F a c b i x) n 0) ≤ _
    unfold tbR at h1 h2 ⊢
    omega
section TB
variable {N K F R w : Nat} {U : List Nat} {X : List (List Cl)} {T S : Sm}
theorem tb_b (h : RelP N K F R U X w T S) (hN : 0 < N) {r i : Nat} (hr : r < R) (hi : i < 3) : tbM T F r i < 8 ∧ tbL T F r i < 6 ∧ tbH T F r i ≤ 200 := by
  obtain ⟨h6, hm, hc, hs, hd, -, -⟩ := tb_d h hr
  have hP := (way_of h hN).1
  have h8 := hP.1
  have h5 := hP.2.1
  obtain ⟨b1, b2⟩ := tb_w h hN hr (i + 1)
  have := fd_lamp (a := (tbW T F r (i + 1)).2) (F := F) hc
  refine ⟨?_, ?_, ?_⟩
  · show (tbW T F r (i + 1)).1 < 8; omega
  · show fd (tbD T r 1) (tbW T F r (i + 1)).2 F < 6; omega
  · show tbD T r 2 + (tbW T F r (i + 1)).2 ≤ 200; omega
theorem pl_co (h : RelP N K F R U X w T S) (hN : 0 < N) {S1 : Sm} (b : TbS T F R S1) {a c d : Nat} (ha : a < R) (hc : c < R) {v : Int32} (hv : ∀ p q, p ≤ 200 → q ≤ 200 → (nI p + v = nI q ↔ p + d = q + 4)) : Pl_clashesOf (nI a) (nI c) v S1 = some (nI (tbK T F a c d)) := by
  have h6 : R ≤ 6 := h.2.1.1
  obtain ⟨a1, a2⟩ := b a ha
  obtain ⟨c1, c2⟩ := b c hc
  have na : tbN T a ≤ 3 := Nat.min_le_left _ _
  have nc : tbN T c ≤ 3 := Nat.min_le_left _ _
  have inner : ∀ i x, i < tbN T a → x ≤ 100 → lpN (Pl_clashesOf_L22 (nI a) (nI c) v (nI i) S1) FU (nI x, nI 0) = some (nI (tbR T F a c d i x)) := fun i x hi hx => by
    suffices hl : ∃ r, lpN (Pl_clashesOf_L22 (nI a) (nI c) v (nI i) S1) FU (nI x, nI 0) = some r ∧ r = nI (tbR T F a c d i x) by
      obtain ⟨r, e, rfl⟩ := hl
      exact e
    refine lp_inv (fun j (q : Int32 × Int32) => q = (nI (fld (fun j y => if tbC T F a c d i j = true then y + 1 else y) j x), nI j)) (tbN T c) (by omega) rfl (fun j q hj hq => ?_) (fun q hq => ?_)
    · subst hq
      refine Or.inl ⟨_, ?_, rfl⟩
      have hle := tbR_le T F a c d i j x
      show _ = some (Sum.inl (nI (if tbC T F a c d i j = true then fld (fun j y => if tbC T F a c d i j = true then y + 1 else y) j x + 1 else fld (fun j y => if tbC T F a c d i j = true then y + 1 else y) j x), nI (j + 1)))
      generalize fld (fun j y => if tbC T F a c d i j = true then y + 1 else y) j x = z at hle ⊢
      obtain ⟨u1, u2⟩ := a2 i hi
      obtain ⟨v1, v2⟩ := c2 j hj
      rw [Nat.mul_comm 3 a] at u1 u2
      rw [Nat.mul_comm 3 c] at v1 v2
      obtain ⟨m1, l1, h1⟩ := tb_b h hN ha (i := i) (by omega)
      obtain ⟨m2, l2, h2⟩ := tb_b h hN hc (i := j) (by omega)
      have hv' := hv _ _ h1 h2
      unfold Pl_clashesOf_L22 Pl_clashesOf_77_L22 Pl_clashesOf_114_L22 Pl_clashesOf_113_L22 Pl_clashesOf_114_L22
      by_cases y : tbM T F a i * 6 + tbL T F a i = tbM T F c j * 6 + tbL T F c j
      · have y1 : tbM T F a i = tbM T F c j := by omega
        have y2 : tbL T F a i = tbL T F c j := by omega
        by_cases t : tbH T F a i + d = tbH T F c j + 4
        · have ht := hv'.mpr t
          have ec : tbC T F a c d i j = true := decide_eq_true ⟨hi, hj, t, y1, y2⟩
          rw [ec, if_pos (show true = true from rfl)]
          simp (disch := omega) only [q_lit, q_m1, q_m2, q_hid, q_add, q_mul, q_sub, q_le, q_lt, q_eq, q_mlt, q_mle, q_ltm, q_lem, q_meq, q_eqm, q_m2lt, q_m2le, q_ltm2, q_lem2, q_eqm2, q_mm2, q_m2m, q_mm, q_mnm, q_ix, q_inb, q_a0, q_a1, q_app, q_bind, if_true, if_false, if_pos, if_neg, q_at, c1, u1, u2, v1, v2, y, ht]
        · have ht : ¬ nI (tbH T F a i) + v = nI (tbH T F c j) := fun e => t (hv'.mp e)
          have ec : tbC T F a c d i j = false := decide_eq_false (fun e => t (e).2.2.1)
          rw [ec, if_neg (show ¬ false = true from Bool.false_ne_true)]
          simp (disch := omega) only [q_lit, q_m1, q_m2, q_hid, q_add, q_mul, q_sub, q_le, q_lt, q_eq, q_mlt, q_mle, q_ltm, q_lem, q_meq, q_eqm, q_m2lt, q_m2le, q_ltm2, q_lem2, q_eqm2, q_mm2, q_m2m, q_mm, q_mnm, q_ix, q_inb, q_a0, q_a1, q_app, q_bind, if_true, if_false, if_pos, if_neg, q_at, c1, u1, u2, v1, v2, y, ht, Nat.add_zero]
      · have ec : tbC T F a c d i j = false := decide_eq_false (fun e => y (by obtain ⟨-, -, -, e1, e2⟩ := e; rw [e1, e2]))
        rw [ec, if_neg (show ¬ false = true from Bool.false_ne_true)]
        simp (disch := omega) only [q_lit, q_m1, q_m2, q_hid, q_add, q_mul, q_sub, q_le, q_lt, q_eq, q_mlt, q_mle, q_ltm, q_lem, q_meq, q_eqm, q_m2lt, q_m2le, q_ltm2, q_lem2, q_eqm2, q_mm2, q_m2m, q_mm, q_mnm, q_ix, q_inb, q_a0, q_a1, q_app, q_bind, if_true, if_false, if_pos, if_neg, q_at, c1, u1, u2, v1, v2, y, Nat.add_zero]
    · subst hq
      refine ⟨_, ?_, rfl⟩
      have e : tbR T F a c d i x = fld (fun j y => if tbC T F a c d i j = true then y + 1 else y) (tbN T c) x := by
        have := fld_fix (f := fun j y => if tbC T F a c d i j = true then y + 1 else y) (n := tbN T c) (x := x) (fun j hj => if_neg fun e => by have := (of_decide_eq_true e).2.1; omega) (3 - tbN T c)
        rw [show tbN T c + (3 - tbN T c) = 3 by omega] at this
        exact this
      rw [e]
      unfold Pl_clashesOf_L22
      simp (disch := omega) only [q_lit, q_m1, q_m2, q_hid, q_add, q_mul, q_sub, q_le, q_lt, q_eq, q_mlt, q_mle, q_ltm, q_lem, q_meq, q_eqm, q_m2lt, q_m2le, q_ltm2, q_lem2, q_eqm2, q_mm2, q_m2m, q_mm, q_mnm, q_ix, q_inb, q_a0, q_a1, q_app, q_bind, if_true, if_false, if_pos, if_neg, q_at, c1, Nat.le_refl]
  suffices hl : ∃ r, lpN (Pl_clashesOf_L6 (nI a) (nI c) v S1) FU (0, 0) = some r ∧ r = nI (tbK T F a c d) by
    obtain ⟨r, e, rfl⟩ := hl
    unfold Pl_clashesOf
    rw [e]; rfl
  refine lp_inv (fun i (q : Int32 × Int32) => q = (nI (fld (fun i x => tbR T F a c d i x) i 0), nI i)) (tbN T a) (by omega) rfl (fun i q hi hq => ?_) (fun q hq => ?_)
  · subst hq
    refine Or.inl ⟨_, ?_, rfl⟩
    have hle := tbK_le T F a c d i
    have e := inner i (fld (fun i x => tbR T F a c d i x) i 0) hi (by omega)
    show _ = some (Sum.inl (nI (tbR T F a c d i (fld (fun i x => tbR T F a c d i x) i 0)), nI (i + 1)))
    generalize fld (fun i x => tbR T F a c d i x) i 0 = z at e ⊢
    unfold Pl_clashesOf_L6
    simp (disch := omega) only [q_lit, q_m1, q_m2, q_hid, q_add, q_mul, q_sub, q_le, q_lt, q_eq, q_mlt, q_mle, q_ltm, q_lem, q_meq, q_eqm, q_m2lt, q_m2le, q_ltm2, q_lem2, q_eqm2, q_mm2, q_m2m, q_mm, q_mnm, q_ix, q_inb, q_a0, q_a1, q_app, q_bind, if_true, if_false, if_pos, if_neg, q_at, a1, e]
  · subst hq
    refine ⟨_, ?_, rfl⟩
    have e : tbK T F a c d = fld (fun i x => tbR T F a c d i x) (tbN T a) 0 := by
      have := fld_fix (f := fun i x => tbR T F a c d i x) (n := tbN T a) (x := 0) (fun i hi => by
        have := fld_fix (f := fun j y => if tbC T F a c d i j = true then y + 1 else y) (n := 0) (x := fld (fun i x => tbR T F a c d i x) (tbN T a) 0) (fun j _ => if_neg fun e => by have := (of_decide_eq_true e).1; omega) 3
        exact this) (3 - tbN T a)
      rw [show tbN T a + (3 - tbN T a) = 3 by omega] at this
      exact this
    rw [e]
    unfold Pl_clashesOf_L6
    simp (disch := omega) only [q_lit, q_m1, q_m2, q_hid, q_add, q_mul, q_sub, q_le, q_lt, q_eq, q_mlt, q_mle, q_ltm, q_lem, q_meq, q_eqm, q_m2lt, q_m2le, q_ltm2, q_lem2, q_eqm2, q_mm2, q_m2m, q_mm, q_mnm, q_ix, q_inb, q_a0, q_a1, q_app, q_bind, if_true, if_false, if_pos, if_neg, q_at, a1, Nat.le_refl]
theorem md_co (h : RelP N K F R U X w T S) (hN : 0 < N) {T1 : Sm} (b : TbT T F (5 * R) T1) {a c d la lc : Nat} (ha : a < R) (hc : c < R) (hla : la < 5) (hlc : lc < 5) (hd : d + lc = la + 4) : Md_clashesOf (nI a) (nI la) (nI c) (nI lc) T1 = some (nI (tbK T F a c d)) := by
  have h6 : R ≤ 6 := h.2.1.1
  have inner : ∀ i x, i < 3 → x ≤ 100 → lpN (Md_clashesOf_L15 (nI a) (nI la) (nI c) (nI lc) (nI i) T1) FU (nI x, nI 0) = some (nI (tbR T F a c d i x)) := fun i x hi hx => by
    suffices hl : ∃ r, lpN (Md_clashesOf_L15 (nI a) (nI la) (nI c) (nI lc) (nI i) T1) FU (nI x, nI 0) = some r ∧ r = nI (tbR T F a c d i x) by
      obtain ⟨r, e, rfl⟩ := hl
      exact e
    obtain ⟨a1, a2⟩ := b a la i hla (by omega) hi
    refine lp_inv (fun j (q : Int32 × Int32) => q = (nI (fld (fun j y => if tbC T F a c d i j = true then y + 1 else y) j x), nI j)) 3 (by omega) rfl (fun j q hj hq => ?_) (fun q hq => ?_)
    · subst hq
      refine Or.inl ⟨_, ?_, rfl⟩
      have hle := tbR_le T F a c d i j x
      show _ = some (Sum.inl (nI (if tbC T F a c d i j = true then fld (fun j y => if tbC T F a c d i j = true then y + 1 else y) j x + 1 else fld (fun j y => if tbC T F a c d i j = true then y + 1 else y) j x), nI (j + 1)))
      generalize fld (fun j y => if tbC T F a c d i j = true then y + 1 else y) j x = z at hle ⊢
      obtain ⟨c1, c2⟩ := b c lc j hlc (by omega) hj
      obtain ⟨m1, l1, h1⟩ := tb_b h hN ha (i := i) (by omega)
      obtain ⟨m2, l2, h2⟩ := tb_b h hN hc (i := j) (by omega)
      unfold Md_clashesOf_L15 Md_clashesOf_114_L15 Md_clashesOf_115_L15
      by_cases y : i < tbN T a
      · obtain ⟨u1, u2, u3⟩ := a1 y
        by_cases t : j < tbN T c
        · obtain ⟨v1, v2, v3⟩ := c1 t
          by_cases e1 : tbH T F a i + la = tbH T F c j + lc
          · by_cases e2 : tbM T F a i = tbM T F c j
            · by_cases e3 : tbL T F a i = tbL T F c j
              · have ec : tbC T F a c d i j = true := decide_eq_true ⟨y, t, by omega, e2, e3⟩
                rw [ec, if_pos (show true = true from rfl)]
                simp (disch := omega) only [q_lit, q_m1, q_m2, q_hid, q_add, q_mul, q_sub, q_le, q_lt, q_eq, q_mlt, q_mle, q_ltm, q_lem, q_meq, q_eqm, q_m2lt, q_m2le, q_ltm2, q_lem2, q_eqm2, q_mm2, q_m2m, q_mm, q_mnm, q_ix, q_inb, q_a0, q_a1, q_app, q_bind, if_true, if_false, if_pos, if_neg, u1, u2, u3, v1, v2, v3, e1, e2, e3]
              · have ec : tbC T F a c d i j = false := decide_eq_false (fun e => e3 (e).2.2.2.2)
                rw [ec, if_neg (show ¬ false = true from Bool.false_ne_true)]
                simp (disch := omega) only [q_lit, q_m1, q_m2, q_hid, q_add, q_mul, q_sub, q_le, q_lt, q_eq, q_mlt, q_mle, q_ltm, q_lem, q_meq, q_eqm, q_m2lt, q_m2le, q_ltm2, q_lem2, q_eqm2, q_mm2, q_m2m, q_mm, q_mnm, q_ix, q_inb, q_a0, q_a1, q_app, q_bind, if_true, if_false, if_pos, if_neg, u1, u2, u3, v1, v2, v3, e1, e2, e3, Nat.add_zero]
            · have ec : tbC T F a c d i j = false := decide_eq_false (fun e => e2 (e).2.2.2.1)
              rw [ec, if_neg (show ¬ false = true from Bool.false_ne_true)]
              simp (disch := omega) only [q_lit, q_m1, q_m2, q_hid, q_add, q_mul, q_sub, q_le, q_lt, q_eq, q_mlt, q_mle, q_ltm, q_lem, q_meq, q_eqm, q_m2lt, q_m2le, q_ltm2, q_lem2, q_eqm2, q_mm2, q_m2m, q_mm, q_mnm, q_ix, q_inb, q_a0, q_a1, q_app, q_bind, if_true, if_false, if_pos, if_neg, u1, u2, u3, v1, v2, v3, e1, e2, Nat.add_zero]
          · have ec : tbC T F a c d i j = false := decide_eq_false (fun e => e1 (by have := (e).2.2.1; omega))
            rw [ec, if_neg (show ¬ false = true from Bool.false_ne_true)]
            simp (disch := omega) only [q_lit, q_m1, q_m2, q_hid, q_add, q_mul, q_sub, q_le, q_lt, q_eq, q_mlt, q_mle, q_ltm, q_lem, q_meq, q_eqm, q_m2lt, q_m2le, q_ltm2, q_lem2, q_eqm2, q_mm2, q_m2m, q_mm, q_mnm, q_ix, q_inb, q_a0, q_a1, q_app, q_bind, if_true, if_false, if_pos, if_neg, u1, u2, u3, v1, v2, v3, e1, Nat.add_zero]
        · have v1 := c2 (by omega)
          have ec : tbC T F a c d i j = false := decide_eq_false (fun e => t (e).2.1)
          rw [ec, if_neg (show ¬ false = true from Bool.false_ne_true)]
          simp (disch := omega) only [q_lit, q_m1, q_m2, q_hid, q_add, q_mul, q_sub, q_le, q_lt, q_eq, q_mlt, q_mle, q_ltm, q_lem, q_meq, q_eqm, q_m2lt, q_m2le, q_ltm2, q_lem2, q_eqm2, q_mm2, q_m2m, q_mm, q_mnm, q_ix, q_inb, q_a0, q_a1, q_app, q_bind, if_true, if_false, if_pos, if_neg, u1, u2, u3, v1, Nat.add_zero]
      · have u1 := a2 (by omega)
        have ec : tbC T F a c d i j = false := decide_eq_false (fun e => y (e).1)
        rw [ec, if_neg (show ¬ false = true from Bool.false_ne_true)]
        simp (disch := omega) only [q_lit, q_m1, q_m2, q_hid, q_add, q_mul, q_sub, q_le, q_lt, q_eq, q_mlt, q_mle, q_ltm, q_lem, q_meq, q_eqm, q_m2lt, q_m2le, q_ltm2, q_lem2, q_eqm2, q_mm2, q_m2m, q_mm, q_mnm, q_ix, q_inb, q_a0, q_a1, q_app, q_bind, if_true, if_false, if_pos, if_neg, u1, Nat.add_zero]
    · subst hq
      refine ⟨_, ?_, rfl⟩
      show _ = some (Sum.inr (nI (fld (fun j y => if tbC T F a c d i j = true then y + 1 else y) 3 x)))
      unfold Md_clashesOf_L15
      simp (disch := omega) only [q_lit, q_m1, q_m2, q_hid, q_add, q_mul, q_sub, q_le, q_lt, q_eq, q_mlt, q_mle, q_ltm, q_lem, q_meq, q_eqm, q_m2lt, q_m2le, q_ltm2, q_lem2, q_eqm2, q_mm2, q_m2m, q_mm, q_mnm, q_ix, q_inb, q_a0, q_a1, q_app, q_bind, if_true, if_false, if_pos, if_neg, Nat.le_refl]
  suffices hl : ∃ r, lpN (Md_clashesOf_L6 (nI a) (nI la) (nI c) (nI lc) T1) FU (0, 0) = some r ∧ r = nI (tbK T F a c d) by
    obtain ⟨r, e, rfl⟩ := hl
    unfold Md_clashesOf
    rw [e]; rfl
  refine lp_inv (fun i (q : Int32 × Int32) => q = (nI (fld (fun i x => tbR T F a c d i x) i 0), nI i)) 3 (by omega) rfl (fun i q hi hq => ?_) (fun q hq => ?_)
  · subst hq
    refine Or.inl ⟨_, ?_, rfl⟩
    have hle := tbK_le T F a c d i
    have e := inner i (fld (fun i x => tbR T F a c d i x) i 0) hi (by omega)
    show _ = some (Sum.inl (nI (tbR T F a c d i (fld (fun i x => tbR T F a c d i x) i 0)), nI (i + 1)))
    generalize fld (fun i x => tbR T F a c d i x) i 0 = z at e ⊢
    unfold Md_clashesOf_L6
    simp (disch := omega) only [q_lit, q_m1, q_m2, q_hid, q_add, q_mul, q_sub, q_le, q_lt, q_eq, q_mlt, q_mle, q_ltm, q_lem, q_meq, q_eqm, q_m2lt, q_m2le, q_ltm2, q_lem2, q_eqm2, q_mm2, q_m2m, q_mm, q_mnm, q_ix, q_inb, q_a0, q_a1, q_app, q_bind, if_true, if_false, if_pos, if_neg, e]
  · subst hq
    refine ⟨_, ?_, rfl⟩
    show _ = some (Sum.inr (nI (fld (fun i x => tbR T F a c d i x) 3 0)))
    unfold Md_clashesOf_L6
    simp (disch := omega) only [q_lit, q_m1, q_m2, q_hid, q_add, q_mul, q_sub, q_le, q_lt, q_eq, q_mlt, q_mle, q_ltm, q_lem, q_meq, q_eqm, q_m2lt, q_m2le, q_ltm2, q_lem2, q_eqm2, q_mm2, q_m2m, q_mm, q_mnm, q_ix, q_inb, q_a0, q_a1, q_app, q_bind, if_true, if_false, if_pos, if_neg, Nat.le_refl]
/-- sums -/
def tbQ (f : Nat → Nat) (n : Nat) : Nat := fld (fun i x => x + f i) n 0
theorem tbQ_s (f : Nat → Nat) (n : Nat) : tbQ f (n + 1) = tbQ f n + f n := rfl
theorem tbQ_a (f g : Nat → Nat) : ∀ n, tbQ (fun i => f i + g i) n = tbQ f n + tbQ g n
  | 0 => rfl
  | n + 1 => by rw [tbQ_s, tbQ_s, tbQ_s, tbQ_a f g n]; omega
theorem tbQ_e {f g : Nat → Nat} : ∀ n, (∀ i, i < n → f i = g i) → tbQ f n = tbQ g n
  | 0, _ => rfl
  | n + 1, h => by rw [tbQ_s, tbQ_s, tbQ_e n fun i hi => h i (by omega), h n (by omega)]
theorem tbQ_le {f : Nat → Nat} {m : Nat} (h : ∀ i, f i ≤ m) : ∀ n, tbQ f n ≤ m * n
  | 0 => Nat.zero_le _
  | n + 1 => by have := tbQ_le h n; have := h n; rw [tbQ_s, Nat.mul_succ]; omega
theorem tbQ_x (k : Nat → Nat → Nat) : ∀ n, tbQ (fun i => tbQ (fun t => k i (i + 1 + t)) (n - 1 - i)) n = tbQ (fun j => tbQ (fun i => k i j) j) n
  | 0 => rfl
  | n + 1 => by
    rw [tbQ_s, tbQ_s, ← tbQ_x k n, ← tbQ_a]
    show tbQ _ n + tbQ _ (n + 1 - 1 - n) = _
    rw [show n + 1 - 1 - n = 0 by omega]
    show tbQ _ n + 0 = _
    rw [Nat.add_zero]
    refine tbQ_e n fun i hi => ?_
    rw [show n + 1 - 1 - i = (n - 1 - i) + 1 by omega, tbQ_s]
    rw [show i + 1 + (n - 1 - i) = n by omega]
theorem op_clashes (h : RelP N K F R U X w T S) : ∃ q p, Dk_clashes S = some q ∧ Md_clashes T = some p ∧ q.1 = p.1 ∧ SamS S q.2 ∧ SamT T p.2 := by
  unfold Dk_clashes Dk_clashes_21 Md_clashes
  rcases toldC h.1 with ⟨-, a, b⟩ | ⟨hN, a, b, c⟩
  · rw [a, b]
    exact ⟨(mI, S), (mI, T), rfl, rfl, rfl, SamS.rfl S, SamT.rfl T⟩
  · rw [a, if_neg (show ¬ nI 1 = 0 by decide), if_neg c]
    have h6 : R ≤ 6 := h.2.1.1
    obtain ⟨S2, e1, k1, k2⟩ := pl_fts h hN
    obtain ⟨T2, e2, l1, l2⟩ := md_los h hN
    have kb : ∀ i j, tbK T F i j 4 ≤ 9 := fun i j => tbK_le T F i j 4 3
    have vS : lpN (Pl_clashesAsTold_L8 S2) FU (0, 0) = some (nI (tbQ (fun i => tbQ (fun t => tbK T F i (i + 1 + t) 4) (R - 1 - i)) R)) := by
      suffices hl : ∃ r, lpN (Pl_clashesAsTold_L8 S2) FU (0, 0) = some r ∧ r = nI (tbQ (fun i => tbQ (fun t => tbK T F i (i + 1 + t) 4) (R - 1 - i)) R) by
        obtain ⟨r, e, rfl⟩ := hl
        exact e
      refine lp_inv (fun i (q : Int32 × Int32) => q = (nI (tbQ (fun i => tbQ (fun t => tbK T F i (i + 1 + t) 4) (R - 1 - i)) i), nI i)) R (by omega) rfl (fun i q hi hq => ?_) (fun q hq => ?_)
      · subst hq
        refine Or.inl ⟨_, ?_, rfl⟩
        rw [tbQ_s]
        generalize tbQ (fun i => tbQ (fun t => tbK T F i (i + 1 + t) 4) (R - 1 - i)) i = z
        have e : lpN (Pl_clashesAsTold_L20 (nI i) S2) FU (nI z, nI (i + 1)) = some (nI (z + tbQ (fun t => tbK T F i (i + 1 + t) 4) (R - 1 - i))) := by
          suffices hl : ∃ r, lpN (Pl_clashesAsTold_L20 (nI i) S2) FU (nI z, nI (i + 1)) = some r ∧ r = nI (z + tbQ (fun t => tbK T F i (i + 1 + t) 4) (R - 1 - i)) by
            obtain ⟨r, e, rfl⟩ := hl
            exact e
          refine lp_inv (fun t (q : Int32 × Int32) => q = (nI (z + tbQ (fun t => tbK T F i (i + 1 + t) 4) t), nI (i + 1 + t))) (R - 1 - i) (by omega) rfl (fun t q ht hq => ?_) (fun q hq => ?_)
          · subst hq
            refine Or.inl ⟨_, ?_, rfl⟩
            have e := pl_co h hN k2 (a := i) (c := i + 1 + t) (d := 4) hi (by omega) (v := nI 0) (fun p q hp hq => by
              rw [q_add, q_eq (by omega) (by omega)]; omega)
            rw [tbQ_s]
            generalize tbQ (fun t => tbK T F i (i + 1 + t) 4) t = y
            have e' : Pl_clashesOf (nI i) (nI (i + (1 + t))) (nI 0) S2 = some (nI (tbK T F i (i + (1 + t)) 4)) := by rw [← Nat.add_assoc]; exact e
            unfold Pl_clashesAsTold_L20
            simp (disch := omega) only [q_lit, q_m1, q_m2, q_hid, q_add, q_mul, q_sub, q_le, q_lt, q_eq, q_mlt, q_mle, q_ltm, q_lem, q_meq, q_eqm, q_m2lt, q_m2le, q_ltm2, q_lem2, q_eqm2, q_mm2, q_m2m, q_mm, q_mnm, q_ix, q_inb, q_a0, q_a1, q_app, q_bind, if_true, if_false, if_pos, if_neg, pl_n h k1, e', Nat.add_assoc]
          · subst hq
            refine ⟨_, ?_, rfl⟩
            generalize tbQ (fun t => tbK T F i (i + 1 + t) 4) (R - 1 - i) = y
            unfold Pl_clashesAsTold_L20
            simp (disch := omega) only [q_lit, q_m1, q_m2, q_hid, q_add, q_mul, q_sub, q_le, q_lt, q_eq, q_mlt, q_mle, q_ltm, q_lem, q_meq, q_eqm, q_m2lt, q_m2le, q_ltm2, q_lem2, q_eqm2, q_mm2, q_m2m, q_mm, q_mnm, q_ix, q_inb, q_a0, q_a1, q_app, q_bind, if_true, if_false, if_pos, if_neg, pl_n h k1]
        unfold Pl_clashesAsTold_L8
        simp (disch := omega) only [q_lit, q_m1, q_m2, q_hid, q_add, q_mul, q_sub, q_le, q_lt, q_eq, q_mlt, q_mle, q_ltm, q_lem, q_meq, q_eqm, q_m2lt, q_m2le, q_ltm2, q_lem2, q_eqm2, q_mm2, q_m2m, q_mm, q_mnm, q_ix, q_inb, q_a0, q_a1, q_app, q_bind, if_true, if_false, if_pos, if_neg, pl_n h k1, e]
      · subst hq
        refine ⟨_, ?_, rfl⟩
        generalize tbQ (fun i => tbQ (fun t => tbK T F i (i + 1 + t) 4) (R - 1 - i)) R = z
        unfold Pl_clashesAsTold_L8
        simp (disch := omega) only [q_lit, q_m1, q_m2, q_hid, q_add, q_mul, q_sub, q_le, q_lt, q_eq, q_mlt, q_mle, q_ltm, q_lem, q_meq, q_eqm, q_m2lt, q_m2le, q_ltm2, q_lem2, q_eqm2, q_mm2, q_m2m, q_mm, q_mnm, q_ix, q_inb, q_a0, q_a1, q_app, q_bind, if_true, if_false, if_pos, if_neg, pl_n h k1, Nat.le_refl]
    have vT : lpN (Md_clashes_L19 T2) FU (0, 0) = some (nI (tbQ (fun j => tbQ (fun i => tbK T F i j 4) j) R)) := by
      suffices hl : ∃ r, lpN (Md_clashes_L19 T2) FU (0, 0) = some r ∧ r = nI (tbQ (fun j => tbQ (fun i => tbK T F i j 4) j) R) by
        obtain ⟨r, e, rfl⟩ := hl
        exact e
      refine lp_inv (fun j (q : Int32 × Int32) => q = (nI (tbQ (fun j => tbQ (fun i => tbK T F i j 4) j) j), nI j)) R (by omega) rfl (fun j q hj hq => ?_) (fun q hq => ?_)
      · subst hq
        refine Or.inl ⟨_, ?_, rfl⟩
        rw [tbQ_s]
        generalize tbQ (fun j => tbQ (fun i => tbK T F i j 4) j) j = z
        have e : lpN (Md_clashes_L29 (nI j) T2) FU (nI z, nI 0) = some (nI (z + tbQ (fun i => tbK T F i j 4) j)) := by
          suffices hl : ∃ r, lpN (Md_clashes_L29 (nI j) T2) FU (nI z, nI 0) = some r ∧ r = nI (z + tbQ (fun i => tbK T F i j 4) j) by
            obtain ⟨r, e, rfl⟩ := hl
            exact e
          refine lp_inv (fun i (q : Int32 × Int32) => q = (nI (z + tbQ (fun i => tbK T F i j 4) i), nI i)) j (by omega) rfl (fun i q hi hq => ?_) (fun q hq => ?_)
          · subst hq
            refine Or.inl ⟨_, ?_, rfl⟩
            have e := md_co h hN l2 (a := i) (c := j) (d := 4) (la := 0) (lc := 0) (by omega) hj (by omega) (by omega) rfl
            rw [tbQ_s]
            generalize tbQ (fun i => tbK T F i j 4) i = y
            unfold Md_clashes_L29
            simp (disch := omega) only [q_lit, q_m1, q_m2, q_hid, q_add, q_mul, q_sub, q_le, q_lt, q_eq, q_mlt, q_mle, q_ltm, q_lem, q_meq, q_eqm, q_m2lt, q_m2le, q_ltm2, q_lem2, q_eqm2, q_mm2, q_m2m, q_mm, q_mnm, q_ix, q_inb, q_a0, q_a1, q_app, q_bind, if_true, if_false, if_pos, if_neg, e, Nat.add_assoc]
          · subst hq
            refine ⟨_, ?_, rfl⟩
            generalize tbQ (fun i => tbK T F i j 4) j = y
            unfold Md_clashes_L29
            simp (disch := omega) only [q_lit, q_m1, q_m2, q_hid, q_add, q_mul, q_sub, q_le, q_lt, q_eq, q_mlt, q_mle, q_ltm, q_lem, q_meq, q_eqm, q_m2lt, q_m2le, q_ltm2, q_lem2, q_eqm2, q_mm2, q_m2m, q_mm, q_mnm, q_ix, q_inb, q_a0, q_a1, q_app, q_bind, if_true, if_false, if_pos, if_neg, Nat.le_refl]
        unfold Md_clashes_L19
        simp (disch := omega) only [q_lit, q_m1, q_m2, q_hid, q_add, q_mul, q_sub, q_le, q_lt, q_eq, q_mlt, q_mle, q_ltm, q_lem, q_meq, q_eqm, q_m2lt, q_m2le, q_ltm2, q_lem2, q_eqm2, q_mm2, q_m2m, q_mm, q_mnm, q_ix, q_inb, q_a0, q_a1, q_app, q_bind, if_true, if_false, if_pos, if_neg, md_n h l1, e]
      · subst hq
        refine ⟨_, ?_, rfl⟩
        generalize tbQ (fun j => tbQ (fun i => tbK T F i j 4) j) R = z
        unfold Md_clashes_L19
        simp (disch := omega) only [q_lit, q_m1, q_m2, q_hid, q_add, q_mul, q_sub, q_le, q_lt, q_eq, q_mlt, q_mle, q_ltm, q_lem, q_meq, q_eqm, q_m2lt, q_m2le, q_ltm2, q_lem2, q_eqm2, q_mm2, q_m2m, q_mm, q_mnm, q_ix, q_inb, q_a0, q_a1, q_app, q_bind, if_true, if_false, if_pos, if_neg, md_n h l1, Nat.le_refl]
    refine ⟨(nI (tbQ (fun i => tbQ (fun t => tbK T F i (i + 1 + t) 4) (R - 1 - i)) R), S2), (nI (tbQ (fun j => tbQ (fun i => tbK T F i j 4) j) R), T2), ?_, ?_, ?_, k1, l1⟩
    · unfold Pl_clashesAsTold
      simp (disch := omega) only [q_bind, e1, vS]
    · simp (disch := omega) only [q_bind, e2, vT]
    · exact congrArg nI (tbQ_x (fun i j => tbK T F i j 4) R)
end TB
