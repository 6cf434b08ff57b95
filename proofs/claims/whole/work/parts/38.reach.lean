/-! ===== what is reached ===== -/
def Msk (P : Nat → Prop) (x : Int32) : Prop := ∃ A, A < 256 ∧ x = nI A ∧ ∀ j, A.testBit j = true ↔ P j
section MK
variable {P Q : Nat → Prop} {x y : Int32}
theorem Msk.of (h : Msk P x) (e : ∀ j, P j ↔ Q j) : Msk Q x := by
  obtain ⟨A, a, b, c⟩ := h
  exact ⟨A, a, b, fun j => (c j).trans (e j)⟩
theorem Msk.uniq (h : Msk P x) (g : Msk P y) : x = y := by
  obtain ⟨A, a, rfl, c⟩ := h
  obtain ⟨B, a2, rfl, c2⟩ := g
  rw [Nat.eq_of_testBit_eq (x := A) (y := B) fun i => by
    rw [Bool.eq_iff_iff, c i, c2 i]]
theorem Msk.iff (h : Msk P x) (g : Msk Q x) (j : Nat) : P j ↔ Q j := by
  obtain ⟨A, a, rfl, c⟩ := h
  obtain ⟨B, a2, e, c2⟩ := g
  rw [q_eq (by omega) (by omega)] at e
  subst e
  rw [← c j, ← c2 j]
theorem Msk.lt (h : Msk P x) {j : Nat} (p : P j) : j < 8 := by
  obtain ⟨A, a, rfl, c⟩ := h
  rcases Nat.lt_or_ge j 8 with q | q
  · exact q
  · have := (c j).mpr p
    rw [Nat.testBit_lt_two_pow (Nat.lt_of_lt_of_le a (Nat.pow_le_pow_right (by decide) q : 2 ^ 8 ≤ 2 ^ j))] at this
    cases this
theorem Msk.none : Msk (fun _ => False) (nI 0) := ⟨0, by decide, rfl, fun j => by rw [Nat.zero_testBit]; exact ⟨fun h => (by cases h), fun h => h.elim⟩⟩
theorem Msk.one {m : Nat} (h : m < 8) : Msk (fun j => m = j) (nI (2 ^ m)) := ⟨2 ^ m, bit_lt (n := 8) h, rfl, fun j => by rw [tb_pow, decide_eq_true_iff]⟩
theorem Msk.or (h : Msk P x) (g : Msk Q y) : Msk (fun j => P j ∨ Q j) (x ||| y) := by
  obtain ⟨A, a, rfl, c⟩ := h
  obtain ⟨B, a2, rfl, c2⟩ := g
  exact ⟨A ||| B, mask_lt (n := 8) a a2, q_or A B, fun j => by rw [Nat.testBit_or, Bool.or_eq_true, c j, c2 j]⟩
theorem Msk.h1 (h : Msk P x) {i : Nat} (hi : i < 8) (p : P i) : Dk_holds x (nI i) = nI 1 := by
  obtain ⟨A, a, rfl, c⟩ := h
  rw [q_holds (by omega) (by omega), (c i).mpr p]; rfl
theorem Msk.h0 (h : Msk P x) {i : Nat} (hi : i < 8) (p : ¬ P i) : Dk_holds x (nI i) = nI 0 := by
  obtain ⟨A, a, rfl, c⟩ := h
  have : A.testBit i = false := by rw [← Bool.not_eq_true, c i]; exact p
  rw [q_holds (by omega) (by omega), this]; rfl
theorem Msk.g1 (h : Msk P x) {i : Nat} (hi : i < 8) (p : P i) : Md_has x (nI i) = nI 1 := h.h1 hi p
theorem Msk.g0 (h : Msk P x) {i : Nat} (hi : i < 8) (p : ¬ P i) : Md_has x (nI i) = nI 0 := h.h0 hi p
theorem set_h1 {s c : Nat} (hs : s < 256) (hc : c < 8) (p : s.testBit c = true) : Dk_holds (nI s) (nI c) = nI 1 := by
  rw [q_holds (by omega) (by omega), p]; rfl
theorem set_h0 {s c : Nat} (hs : s < 256) (hc : c < 8) (p : ¬ s.testBit c = true) : Dk_holds (nI s) (nI c) = nI 0 := by
  rw [q_holds (by omega) (by omega), (Bool.not_eq_true _).mp p]; rfl
end MK
theorem grow (R : Nat → Nat → Prop) (hm : ∀ k j, R k j → R (k + 1) j) (k : Nat) : ∀ d j, R k j → R (k + d) j
  | 0, _, h => h
  | d + 1, j, h => hm _ _ (grow R hm k d j h)
theorem stab1 (R : Nat → Nat → Prop) (hs : ∀ k, (∀ j, R (k + 1) j → R k j) → ∀ j, R (k + 2) j → R (k + 1) j) {k : Nat} (h0 : ∀ j, R (k + 1) j → R k j) : ∀ d j, R (k + d + 1) j → R (k + d) j
  | 0 => h0
  | d + 1 => hs (k + d) (stab1 R hs h0 d)
theorem stab (R : Nat → Nat → Prop) (hs : ∀ k, (∀ j, R (k + 1) j → R k j) → ∀ j, R (k + 2) j → R (k + 1) j) {k : Nat} (h0 : ∀ j, R (k + 1) j → R k j) : ∀ d j, R (k + d) j → R k j
  | 0, _, h => h
  | d + 1, j, h => stab R hs h0 d j (stab1 R hs h0 d j h)
/-- growing sets within n are full grown behind n steps -/
theorem sat {N : Nat} (R : Nat → Nat → Prop) (hl : ∀ k j, R k j → j < N) (hm : ∀ k j, R k j → R (k + 1) j) (hs : ∀ k, (∀ j, R (k + 1) j → R k j) → ∀ j, R (k + 2) j → R (k + 1) j) : ∀ k j, R k j → R N j := by
  have mono : ∀ a d j, R a j → R (a + d) j := fun a d j => grow R hm a d j
  have hst : ∃ k, k ≤ N ∧ ∀ j, R (k + 1) j → R k j := by
    refine Classical.byContradiction fun hno => ?_
    have hx : ∀ k, k ≤ N → ∃ j, R (k + 1) j ∧ ¬ R k j := fun k hk => Classical.byContradiction fun h => hno ⟨k, hk, fun j hj => Classical.byContradiction fun g => h ⟨j, hj, g⟩⟩
    have hf : ∃ x : Nat → Nat, ∀ k, k ≤ N → R (k + 1) (x k) ∧ ¬ R k (x k) := by
      refine ⟨fun k => if h : k ≤ N then Classical.choose (hx k h) else 0, fun k hk => ?_⟩
      show R (k + 1) (dite _ _ _) ∧ ¬ R k (dite _ _ _)
      rw [dif_pos hk]
      exact Classical.choose_spec (hx k hk)
    obtain ⟨x, hx⟩ := hf
    obtain ⟨i, j, a, b, e⟩ := php N x (fun i hi => hl _ _ (hx i hi).1)
    refine (hx j b).2 ?_
    rw [← e]
    have := mono (i + 1) (j - (i + 1)) _ (hx i (by omega)).1
    rw [show i + 1 + (j - (i + 1)) = j by omega] at this
    exact this
  obtain ⟨k, hk, h0⟩ := hst
  have st : ∀ d j, R (k + d) j → R k j := stab R hs h0
  intro q j h
  have a := mono q k j h
  rw [Nat.add_comm] at a
  have b := mono k (N - k) j (st q j a)
  rwa [show k + (N - k) = N by omega] at b
section RE
variable {N K : Nat} {L D : Nat → Nat → Nat} {T S : Sm}
/-- one dark on -/
def Sto (N K : Nat) (L : Nat → Nat → Nat) (s : Nat) (P : Nat → Prop) (j : Nat) : Prop := ∃ m c, m < N ∧ P m ∧ c < K ∧ s.testBit c = true ∧ L m c = j
def Rch (N K : Nat) (L : Nat → Nat → Nat) (s : Nat) (P : Nat → Prop) : Nat → Nat → Prop
  | 0 => P
  | k + 1 => fun j => Rch N K L s P k j ∨ Sto N K L s (Rch N K L s P k) j
theorem set_lt {s : Nat} (hK : K ≤ 5) (hs : s < 2 ^ K) : s < 32 := by have := pow5 hK; omega
theorem wy_bo_in (hP : WyP N K L D) (hS : WyS N K L D S) {P A : Nat → Prop} {x a : Int32} {m s : Nat} (hx : Msk P x) (ha : Msk A a) (hm : m < N) (hs : s < 32) : ∃ r, lpN (Wy_behindOne_L20 x (nI s) (nI m) S) FU (a, 0) = some r ∧ Msk (fun j => A j ∨ (P m ∧ ∃ c, c < K ∧ s.testBit c = true ∧ L m c = j)) r := by
  obtain ⟨h8, h5, hN, hK, hL⟩ := hP
  by_cases p : P m
  · refine lp_inv (fun i (q : Int32 × Int32) => q.2 = nI i ∧ Msk (fun j => A j ∨ ∃ c, c < i ∧ s.testBit c = true ∧ L m c = j) q.1) K (by omega) ⟨rfl, ha.of fun j => ⟨Or.inl, fun h => h.elim id fun ⟨c, q, _⟩ => absurd q (Nat.not_lt_zero c)⟩⟩ (fun i q hi hq => ?_) (fun q hq => ?_)
    · obtain ⟨b, ii⟩ := q
      obtain ⟨rfl, hb⟩ := hq
      have e1 := hx.h1 (i := m) (by omega) p
      have e2 := (hS.2.2 m i hm (Or.inl hi)).1
      have l8 := (hL m i hm (Or.inl hi)).1
      unfold Wy_behindOne_L20 Wy_behindOne_63_L20
      refine Or.inl ?_
      by_cases t : s.testBit i = true
      · have e3 := set_h1 (by omega) (by omega) t
        refine ⟨(b ||| nI (2 ^ L m i), nI (i + 1)), ?_, rfl, (hb.or (Msk.one (m := L m i) (by omega))).of fun j => ?_⟩
        · simp (disch := omega) only [q_lit, q_m1, q_m2, q_hid, q_add, q_mul, q_sub, q_le, q_lt, q_eq, q_mlt, q_mle, q_ltm, q_lem, q_meq, q_eqm, q_m2lt, q_m2le, q_ltm2, q_lem2, q_eqm2, q_mm2, q_m2m, q_mm, q_mnm, q_ix, q_inb, q_a0, q_a1, q_app, q_bind, if_true, if_false, if_pos, if_neg, hS.2.1, e1, e2, e3, q_shl]
        · constructor
          · rintro ((h | ⟨c, q1, q2, q3⟩) | h)
            · exact Or.inl h
            · exact Or.inr ⟨c, by omega, q2, q3⟩
            · exact Or.inr ⟨i, by omega, t, h⟩
          · rintro (h | ⟨c, q1, q2, q3⟩)
            · exact Or.inl (Or.inl h)
            · by_cases z : c = i
              · subst z; exact Or.inr q3
              · exact Or.inl (Or.inr ⟨c, by omega, q2, q3⟩)
      · have e3 := set_h0 (by omega) (by omega) t
        refine ⟨(b, nI (i + 1)), ?_, rfl, hb.of fun j => ?_⟩
        · simp (disch := omega) only [q_lit, q_m1, q_m2, q_hid, q_add, q_mul, q_sub, q_le, q_lt, q_eq, q_mlt, q_mle, q_ltm, q_lem, q_meq, q_eqm, q_m2lt, q_m2le, q_ltm2, q_lem2, q_eqm2, q_mm2, q_m2m, q_mm, q_mnm, q_ix, q_inb, q_a0, q_a1, q_app, q_bind, if_true, if_false, if_pos, if_neg, hS.2.1, e1, e2, e3]
        · constructor
          · rintro (h | ⟨c, q1, q2, q3⟩)
            · exact Or.inl h
            · exact Or.inr ⟨c, by omega, q2, q3⟩
          · rintro (h | ⟨c, q1, q2, q3⟩)
            · exact Or.inl h
            · by_cases z : c = i
              · subst z; exact absurd q2 t
              · exact Or.inr ⟨c, by omega, q2, q3⟩
    · obtain ⟨b, ii⟩ := q
      obtain ⟨rfl, hb⟩ := hq
      refine ⟨b, ?_, hb.of fun j => ⟨fun h => h.imp id fun q => ⟨p, q⟩, fun h => h.imp id fun q => q.2⟩⟩
      unfold Wy_behindOne_L20
      simp (disch := omega) only [q_lit, q_m1, q_m2, q_hid, q_add, q_mul, q_sub, q_le, q_lt, q_eq, q_mlt, q_mle, q_ltm, q_lem, q_meq, q_eqm, q_m2lt, q_m2le, q_ltm2, q_lem2, q_eqm2, q_mm2, q_m2m, q_mm, q_mnm, q_ix, q_inb, q_a0, q_a1, q_app, q_bind, if_true, if_false, if_pos, if_neg, hS.2.1, Nat.le_refl]
  · refine ⟨a, ?_, ha.of fun j => ⟨Or.inl, fun h => h.elim id fun q => absurd q.1 p⟩⟩
    have e1 := hx.h0 (i := m) (by omega) p
    have e0 : Wy_behindOne_L20 x (nI s) (nI m) S (a, 0) = some (.inr a) := by
      unfold Wy_behindOne_L20
      simp (disch := omega) only [q_lit, q_m1, q_m2, q_hid, q_add, q_mul, q_sub, q_le, q_lt, q_eq, q_mlt, q_mle, q_ltm, q_lem, q_meq, q_eqm, q_m2lt, q_m2le, q_ltm2, q_lem2, q_eqm2, q_mm2, q_m2m, q_mm, q_mnm, q_ix, q_inb, q_a0, q_a1, q_app, q_bind, if_true, if_false, if_pos, if_neg, hS.2.1, e1]
    exact lpN_run0 (fun _ => (a, 0)) 0 (by omega) (fun i hi => absurd hi (Nat.not_lt_zero i)) e0 rfl
theorem wy_bo (hP : WyP N K L D) (hS : WyS N K L D S) {P : Nat → Prop} {x : Int32} {s : Nat} (hx : Msk P x) (hs : s < 32) : ∃ r, Wy_behindOne x (nI s) S = some r ∧ Msk (Sto N K L s P) r := by
  have h8 := hP.1
  suffices hl : ∃ r, lpN (Wy_behindOne_L5 x (nI s) S) FU (0, 0) = some r ∧ ((Msk (Sto N K L s P)) r) by
    obtain ⟨r, e, hr⟩ := hl
    refine ⟨r, ?_, hr⟩
    unfold Wy_behindOne
    rw [e]; rfl
  refine lp_inv (fun i (q : Int32 × Int32) => q.2 = nI i ∧ Msk (fun j => ∃ m c, m < i ∧ P m ∧ c < K ∧ s.testBit c = true ∧ L m c = j) q.1) N (by omega) ⟨rfl, Msk.none.of fun j => ⟨fun h => h.elim, fun ⟨m, c, q, _⟩ => absurd q (Nat.not_lt_zero m)⟩⟩ (fun i q hi hq => ?_) (fun q hq => ?_)
  · obtain ⟨b, ii⟩ := q
    obtain ⟨rfl, hb⟩ := hq
    obtain ⟨r, e, hr⟩ := wy_bo_in hP hS hx hb hi hs
    refine Or.inl ⟨(r, nI (i + 1)), ?_, rfl, hr.of fun j => ?_⟩
    · unfold Wy_behindOne_L5
      have e' : lpN (Wy_behindOne_L20 x (nI s) (nI i) S) FU (b, nI 0) = some r := e
      simp (disch := omega) only [q_lit, q_m1, q_m2, q_hid, q_add, q_mul, q_sub, q_le, q_lt, q_eq, q_mlt, q_mle, q_ltm, q_lem, q_meq, q_eqm, q_m2lt, q_m2le, q_ltm2, q_lem2, q_eqm2, q_mm2, q_m2m, q_mm, q_mnm, q_ix, q_inb, q_a0, q_a1, q_app, q_bind, if_true, if_false, if_pos, if_neg, hS.1, e']
    · constructor
      · rintro (⟨m, c, h1, h2⟩ | ⟨h1, c, h2⟩)
        · exact ⟨m, c, by omega, h2⟩
        · exact ⟨i, c, by omega, h1, h2⟩
      · rintro ⟨m, c, h1, h2, h3⟩
        by_cases z : m = i
        · subst z; exact Or.inr ⟨h2, c, h3⟩
        · exact Or.inl ⟨m, c, by omega, h2, h3⟩
  · obtain ⟨b, ii⟩ := q
    obtain ⟨rfl, hb⟩ := hq
    refine ⟨b, ?_, hb⟩
    unfold Wy_behindOne_L5
    simp (disch := omega) only [q_lit, q_m1, q_m2, q_hid, q_add, q_mul, q_sub, q_le, q_lt, q_eq, q_mlt, q_mle, q_ltm, q_lem, q_meq, q_eqm, q_m2lt, q_m2le, q_ltm2, q_lem2, q_eqm2, q_mm2, q_m2m, q_mm, q_mnm, q_ix, q_inb, q_a0, q_a1, q_app, q_bind, if_true, if_false, if_pos, if_neg, hS.1, Nat.le_refl]
theorem wy_rf (hP : WyP N K L D) (hS : WyS N K L D S) {m s : Nat} (hm : m < N) (hs : s < 32) : ∃ r, Wy_reachedFrom (nI m) (nI s) S = some r ∧ Msk (Rch N K L s (fun j => m = j) 8) r := by
  have h8 := hP.1
  suffices hl : ∃ r, lpN (Wy_reachedFrom_L7 (nI s) S) FU (nI (2 ^ m), 0) = some r ∧ ((Msk (Rch N K L s (fun j => m = j) 8)) r) by
    obtain ⟨r, e, hr⟩ := hl
    refine ⟨r, ?_, hr⟩
    unfold Wy_reachedFrom
    rw [show iShl 1 (nI m) = nI (2 ^ m) from q_shl (by omega), e]; rfl
  refine lp_inv (fun i (q : Int32 × Int32) => q.2 = nI i ∧ Msk (Rch N K L s (fun j => m = j) i) q.1) 8 (by omega) ⟨rfl, (show Msk (fun j => m = j) (nI (2 ^ m)) from Msk.one (by omega))⟩ (fun i q hi hq => ?_) (fun q hq => ?_)
  · obtain ⟨b, ii⟩ := q
    obtain ⟨rfl, hb⟩ := hq
    obtain ⟨r, e, hr⟩ := wy_bo hP hS hb hs
    refine Or.inl ⟨(b ||| r, nI (i + 1)), ?_, rfl, hb.or hr⟩
    unfold Wy_reachedFrom_L7
    simp (disch := omega) only [q_lit, q_m1, q_m2, q_hid, q_add, q_mul, q_sub, q_le, q_lt, q_eq, q_mlt, q_mle, q_ltm, q_lem, q_meq, q_eqm, q_m2lt, q_m2le, q_ltm2, q_lem2, q_eqm2, q_mm2, q_m2m, q_mm, q_mnm, q_ix, q_inb, q_a0, q_a1, q_app, q_bind, if_true, if_false, if_pos, if_neg, e]
  · obtain ⟨b, ii⟩ := q
    obtain ⟨rfl, hb⟩ := hq
    refine ⟨b, ?_, hb⟩
    unfold Wy_reachedFrom_L7
    simp (disch := omega) only [q_lit, q_m1, q_m2, q_hid, q_add, q_mul, q_sub, q_le, q_lt, q_eq, q_mlt, q_mle, q_ltm, q_lem, q_meq, q_eqm, q_m2lt, q_m2le, q_ltm2, q_lem2, q_eqm2, q_mm2, q_m2m, q_mm, q_mnm, q_ix, q_inb, q_a0, q_a1, q_app, q_bind, if_true, if_false, if_pos, if_neg, Nat.le_refl]
theorem Rch.lt (hP : WyP N K L D) {s m : Nat} (hm : m < N) : ∀ k j, Rch N K L s (fun j => m = j) k j → j < N
  | 0, j, h => by cases h; exact hm
  | k + 1, j, h => h.elim (Rch.lt hP hm k j) fun ⟨a, c, h1, _, h3, _, h5⟩ => by
    subst h5; exact (hP.2.2.2.2 a c h1 (Or.inl h3)).1
theorem Sto.mono {s : Nat} {P Q : Nat → Prop} (h : ∀ j, P j → Q j) (j : Nat) : Sto N K L s P j → Sto N K L s Q j := fun ⟨a, c, h1, h2, h3⟩ => ⟨a, c, h1, h a h2, h3⟩
theorem Rch.stop {s : Nat} {P : Nat → Prop} (k : Nat) (h : ∀ j, Rch N K L s P (k + 1) j → Rch N K L s P k j) (j : Nat) (hj : Rch N K L s P (k + 2) j) : Rch N K L s P (k + 1) j :=
  hj.elim id fun q => Or.inr (Sto.mono h j q)
theorem Rch.all (hP : WyP N K L D) {s m : Nat} (hm : m < N) (k j : Nat) (h : Rch N K L s (fun j => m = j) k j) : Rch N K L s (fun j => m = j) 8 j := by
  have h8 := hP.1
  exact sat (N := 8) (Rch N K L s (fun j => m = j)) (fun k j q => Nat.lt_of_lt_of_le (Rch.lt hP hm k j q) h8) (fun k j q => Or.inl q) Rch.stop k j h
theorem md_rf_in (hP : WyP N K L D) (hT : WyT N K L D T) {P A : Nat → Prop} {x a : Int32} {m s : Nat} (hx : Msk P x) (ha : Msk A a) (hm : m < N) (hs : s < 32) : ∃ r, lpN (Md_reachedFrom_L33 (nI s) x (nI m) T) FU (a, 0) = some r ∧ Msk (fun j => A j ∨ (P m ∧ ∃ c, c < K ∧ s.testBit c = true ∧ L m c = j)) r := by
  obtain ⟨h8, h5, hN, hK, hL⟩ := hP
  refine lp_inv (fun i (q : Int32 × Int32) => q.2 = nI i ∧ Msk (fun j => A j ∨ (P m ∧ ∃ c, c < i ∧ s.testBit c = true ∧ L m c = j)) q.1) K (by omega) ⟨rfl, ha.of fun j => ⟨Or.inl, fun h => h.elim id fun ⟨_, c, q, _⟩ => absurd q (Nat.not_lt_zero c)⟩⟩ (fun i q hi hq => ?_) (fun q hq => ?_)
  · obtain ⟨b, ii⟩ := q
    obtain ⟨rfl, hb⟩ := hq
    have e2 := (hT.2.2 m i hm (Or.inl hi)).1
    have l8 := (hL m i hm (Or.inl hi)).1
    unfold Md_reachedFrom_L33 Md_reachedFrom_77_L33 Md_reachedFrom_78_L33
    refine Or.inl ?_
    by_cases t : P m ∧ s.testBit i = true
    · have e1 := hx.g1 (i := m) (by omega) t.1
      have e3 : Md_has (nI s) (nI i) = nI 1 := set_h1 (by omega) (by omega) t.2
      refine ⟨(b ||| nI (2 ^ L m i), nI (i + 1)), ?_, rfl, (hb.or (Msk.one (m := L m i) (by omega))).of fun j => ?_⟩
      · simp (disch := omega) only [q_lit, q_m1, q_m2, q_hid, q_add, q_mul, q_sub, q_le, q_lt, q_eq, q_mlt, q_mle, q_ltm, q_lem, q_meq, q_eqm, q_m2lt, q_m2le, q_ltm2, q_lem2, q_eqm2, q_mm2, q_m2m, q_mm, q_mnm, q_ix, q_inb, q_a0, q_a1, q_app, q_bind, if_true, if_false, if_pos, if_neg, hT.2.1, e1, e2, e3, q_shl]
      · constructor
        · rintro ((h | ⟨z, c, q1, q2, q3⟩) | h)
          · exact Or.inl h
          · exact Or.inr ⟨z, c, by omega, q2, q3⟩
          · exact Or.inr ⟨t.1, i, by omega, t.2, h⟩
        · rintro (h | ⟨z', c, q1, q2, q3⟩)
          · exact Or.inl (Or.inl h)
          · by_cases z : c = i
            · subst z; exact Or.inr q3
            · exact Or.inl (Or.inr ⟨z', c, by omega, q2, q3⟩)
    · have z0 : b ||| nI 0 = b := by obtain ⟨B, _, rfl, _⟩ := hb; rw [q_or, Nat.or_zero]
      refine ⟨(b, nI (i + 1)), ?_, rfl, hb.of fun j => ?_⟩
      · by_cases p : P m
        · have e1 := hx.g1 (i := m) (by omega) p
          have e3 : Md_has (nI s) (nI i) = nI 0 := set_h0 (by omega) (by omega) (fun q => t ⟨p, q⟩)
          simp (disch := omega) only [q_lit, q_m1, q_m2, q_hid, q_add, q_mul, q_sub, q_le, q_lt, q_eq, q_mlt, q_mle, q_ltm, q_lem, q_meq, q_eqm, q_m2lt, q_m2le, q_ltm2, q_lem2, q_eqm2, q_mm2, q_m2m, q_mm, q_mnm, q_ix, q_inb, q_a0, q_a1, q_app, q_bind, if_true, if_false, if_pos, if_neg, hT.2.1, e1, e2, e3, z0]
        · have e1 := hx.g0 (i := m) (by omega) p
          simp (disch := omega) only [q_lit, q_m1, q_m2, q_hid, q_add, q_mul, q_sub, q_le, q_lt, q_eq, q_mlt, q_mle, q_ltm, q_lem, q_meq, q_eqm, q_m2lt, q_m2le, q_ltm2, q_lem2, q_eqm2, q_mm2, q_m2m, q_mm, q_mnm, q_ix, q_inb, q_a0, q_a1, q_app, q_bind, if_true, if_false, if_pos, if_neg, hT.2.1, e1, z0]
      · constructor
        · rintro (h | ⟨z, c, q1, q2, q3⟩)
          · exact Or.inl h
          · exact Or.inr ⟨z, c, by omega, q2, q3⟩
        · rintro (h | ⟨z', c, q1, q2, q3⟩)
          · exact Or.inl h
          · by_cases z : c = i
            · subst z; exact absurd ⟨z', q2⟩ t
            · exact Or.inr ⟨z', c, by omega, q2, q3⟩
  · obtain ⟨b, ii⟩ := q
    obtain ⟨rfl, hb⟩ := hq
    refine ⟨b, ?_, hb⟩
    unfold Md_reachedFrom_L33
    simp (disch := omega) only [q_lit, q_m1, q_m2, q_hid, q_add, q_mul, q_sub, q_le, q_lt, q_eq, q_mlt, q_mle, q_ltm, q_lem, q_meq, q_eqm, q_m2lt, q_m2le, q_ltm2, q_lem2, q_eqm2, q_mm2, q_m2m, q_mm, q_mnm, q_ix, q_inb, q_a0, q_a1, q_app, q_bind, if_true, if_false, if_pos, if_neg, hT.2.1, Nat.le_refl]
theorem md_rf_st (hP : WyP N K L D) (hT : WyT N K L D T) {P : Nat → Prop} {x : Int32} {s : Nat} (hx : Msk P x) (hs : s < 32) : ∃ r, lpN (Md_reachedFrom_L19 (nI s) x T) FU (x, 0) = some r ∧ Msk (fun j => P j ∨ Sto N K L s P j) r := by
  have h8 := hP.1
  refine lp_inv (fun i (q : Int32 × Int32) => q.2 = nI i ∧ Msk (fun j => P j ∨ ∃ m c, m < i ∧ P m ∧ c < K ∧ s.testBit c = true ∧ L m c = j) q.1) N (by omega) ⟨rfl, hx.of fun j => ⟨Or.inl, fun h => h.elim id fun ⟨m, c, q, _⟩ => absurd q (Nat.not_lt_zero m)⟩⟩ (fun i q hi hq => ?_) (fun q hq => ?_)
  · obtain ⟨b, ii⟩ := q
    obtain ⟨rfl, hb⟩ := hq
    obtain ⟨r, e, hr⟩ := md_rf_in hP hT hx hb hi hs
    refine Or.inl ⟨(r, nI (i + 1)), ?_, rfl, hr.of fun j => ?_⟩
    · unfold Md_reachedFrom_L19
      have e' : lpN (Md_reachedFrom_L33 (nI s) x (nI i) T) FU (b, nI 0) = some r := e
      simp (disch := omega) only [q_lit, q_m1, q_m2, q_hid, q_add, q_mul, q_sub, q_le, q_lt, q_eq, q_mlt, q_mle, q_ltm, q_lem, q_meq, q_eqm, q_m2lt, q_m2le, q_ltm2, q_lem2, q_eqm2, q_mm2, q_m2m, q_mm, q_mnm, q_ix, q_inb, q_a0, q_a1, q_app, q_bind, if_true, if_false, if_pos, if_neg, hT.1, e']
    · constructor
      · rintro ((h | ⟨m, c, h1, h2⟩) | ⟨h1, c, h2⟩)
        · exact Or.inl h
        · exact Or.inr ⟨m, c, by omega, h2⟩
        · exact Or.inr ⟨i, c, by omega, h1, h2⟩
      · rintro (h | ⟨m, c, h1, h2, h3⟩)
        · exact Or.inl (Or.inl h)
        · by_cases z : m = i
          · subst z; exact Or.inr ⟨h2, c, h3⟩
          · exact Or.inl (Or.inr ⟨m, c, by omega, h2, h3⟩)
  · obtain ⟨b, ii⟩ := q
    obtain ⟨rfl, hb⟩ := hq
    refine ⟨b, ?_, hb⟩
    unfold Md_reachedFrom_L19
    simp (disch := omega) only [q_lit, q_m1, q_m2, q_hid, q_add, q_mul, q_sub, q_le, q_lt, q_eq, q_mlt, q_mle, q_ltm, q_lem, q_meq, q_eqm, q_m2lt, q_m2le, q_ltm2, q_lem2, q_eqm2, q_mm2, q_m2m, q_mm, q_mnm, q_ix, q_inb, q_a0, q_a1, q_app, q_bind, if_true, if_false, if_pos, if_neg, hT.1, Nat.le_refl]
theorem md_rf (hP : WyP N K L D) (hT : WyT N K L D T) {m s : Nat} (hm : m < N) (hs : s < 32) : ∃ r, Md_reachedFrom (nI m) (nI s) T = some r ∧ Msk (Rch N K L s (fun j => m = j) 8) r := by
  have h8 := hP.1
  suffices hl : ∃ r, lpN (Md_reachedFrom_L7 (nI s) T) FU (nI (2 ^ m), nI 0) = some r ∧ ((Msk (Rch N K L s (fun j => m = j) 8)) r) by
    obtain ⟨r, e, hr⟩ := hl
    refine ⟨r, ?_, hr⟩
    unfold Md_reachedFrom
    rw [show iShl 1 (nI m) = nI (2 ^ m) from q_shl (by omega), show (0 : Int32) = nI 0 from rfl, e]; rfl
  refine lp_inv (fun i (q : Int32 × Int32) => Msk (Rch N K L s (fun j => m = j) i) q.1 ∧ (i = 0 ∧ q.2 = nI 0 ∨ ∃ k, i = k + 1 ∧ Msk (Rch N K L s (fun j => m = j) k) q.2)) 9 (by omega) ⟨(show Msk (fun j => m = j) (nI (2 ^ m)) from Msk.one (by omega)), Or.inl ⟨rfl, rfl⟩⟩ (fun i q hi hq => ?_) (fun q hq => ?_)
  · obtain ⟨b, w⟩ := q
    obtain ⟨hb, hw⟩ := hq
    have hb : Msk (Rch N K L s (fun j => m = j) i) b := hb
    by_cases z : b = w
    · refine Or.inr ⟨b, ?_, ?_⟩
      · unfold Md_reachedFrom_L7
        exact if_pos z
      · rcases hw with ⟨rfl, h0⟩ | ⟨k, rfl, hk⟩
        · exfalso
          have h0 : w = nI 0 := h0
          subst h0
          subst z
          exact (hb.iff Msk.none m).mp rfl
        · have hk : Msk (Rch N K L s (fun j => m = j) k) w := hk
          subst z
          have hst : ∀ j, Rch N K L s (fun j => m = j) (k + 1) j → Rch N K L s (fun j => m = j) k j := fun j => (hb.iff hk j).mp
          refine hk.of fun j => ⟨Rch.all hP hm k j, fun q => ?_⟩
          have q1 := grow (Rch N K L s (fun j => m = j)) (fun k j q => Or.inl q) 8 k j q
          rw [Nat.add_comm] at q1
          exact stab (Rch N K L s (fun j => m = j)) Rch.stop hst 8 j q1
    · obtain ⟨r, e, hr⟩ := md_rf_st hP hT hb hs
      refine Or.inl ⟨(r, b), ?_, hr, Or.inr ⟨i, rfl, hb⟩⟩
      unfold Md_reachedFrom_L7
      have e' : lpN (Md_reachedFrom_L19 (nI s) b T) FU (b, 0) = some r := e
      show (if b = w then _ else _) = _
      rw [if_neg z]
      show (lpN (Md_reachedFrom_L19 (nI s) b T) FU (b, 0)).bind _ = _
      rw [e']; rfl
  · obtain ⟨b, w⟩ := q
    obtain ⟨hb, hw⟩ := hq
    rcases hw with ⟨h0, _⟩ | ⟨k, hk0, hk⟩
    · cases h0
    · have : k = 8 := by omega
      subst this
      have hk : Msk (Rch N K L s (fun j => m = j) 8) w := hk
      have hb : Msk (Rch N K L s (fun j => m = j) 9) b := hb
      have z : b = w := hb.uniq (hk.of fun j => ⟨fun h => Or.inl h, Rch.all hP hm 9 j⟩)
      refine ⟨b, ?_, by rw [z]; exact hk⟩
      unfold Md_reachedFrom_L7
      exact if_pos z
end RE
section RR
variable {N K F R w : Nat} {U : List Nat} {X : List (List Cl)} {T S : Sm}
theorem op_reached (h : RelP N K F R U X w T S) (v1 v2 : Int32) : ∃ v, Dk_reached v1 v2 S = some v ∧ Md_reached v1 v2 T = some v := by
  unfold Dk_reached Md_reached Dk_reached_34 Dk_reached_35 Md_reached_25 Md_reached_26
  rcases mouthC h.1 v1 with ⟨a, b⟩ | ⟨m, hm, rfl, a, b⟩
  · rw [a, b]; exact ⟨mI, rfl, rfl⟩
  · obtain ⟨hP, hS, hT⟩ := way_of h (pos_of hm)
    rcases setC h.1 (pos_of hm) v2 with ⟨c, d⟩ | ⟨s, hs0, hs, rfl, c, d⟩
    · rw [a, b, c, d]; exact ⟨mI, rfl, rfl⟩
    · rw [a, b, c, d]
      obtain ⟨r, e, hr⟩ := wy_rf hP hS hm (set_lt hP.2.1 hs)
      obtain ⟨r', e', hr'⟩ := md_rf hP hT hm (set_lt hP.2.1 hs)
      rw [e, e', hr.uniq hr']
      exact ⟨r', rfl, rfl⟩
end RR
