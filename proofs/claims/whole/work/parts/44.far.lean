/-! ===== far: the least to a place, both ways of laying it ===== -/
theorem andnot {A B : Nat} (hA : A < 256) (hB : B < 256) : nI A &&& (nI B ^^^ (-1)) = nI (A &&& (255 ^^^ B)) := by
  apply Int32.toBitVec_inj.mp
  show ((Int32.ofNat A).toBitVec &&& ((Int32.ofNat B).toBitVec ^^^ (-1 : Int32).toBitVec)) = (Int32.ofNat (A &&& (255 ^^^ B))).toBitVec
  rw [Int32.toBitVec_ofNat', Int32.toBitVec_ofNat', Int32.toBitVec_ofNat', show (-1 : Int32).toBitVec = BitVec.allOnes 32 from by decide]
  apply BitVec.eq_of_getLsbD_eq
  intro i hi
  rw [BitVec.getLsbD_and, BitVec.getLsbD_xor, BitVec.getLsbD_ofNat, BitVec.getLsbD_ofNat, BitVec.getLsbD_ofNat, BitVec.getLsbD_allOnes, Nat.testBit_and, Nat.testBit_xor, show (255 : Nat) = 2 ^ 8 - 1 from rfl, Nat.testBit_two_pow_sub_one]
  by_cases q : i < 8
  · rw [decide_eq_true hi, decide_eq_true q]
    cases A.testBit i <;> cases B.testBit i <;> rfl
  · have z : A.testBit i = false := Nat.testBit_lt_two_pow (Nat.lt_of_lt_of_le hA (Nat.pow_le_pow_right (by decide) (show 8 ≤ i by omega) : 2 ^ 8 ≤ 2 ^ i))
    rw [z]; simp
theorem Msk.sub {P Q : Nat → Prop} {x y : Int32} (h : Msk P x) (g : Msk Q y) : Msk (fun j => P j ∧ ¬ Q j) (x &&& (y ^^^ (-1))) := by
  obtain ⟨A, a, rfl, c⟩ := h
  obtain ⟨B, a2, rfl, c2⟩ := g
  refine ⟨A &&& (255 ^^^ B), Nat.lt_of_le_of_lt Nat.and_le_left a, andnot a a2, fun j => ?_⟩
  rw [Nat.testBit_and, Nat.testBit_xor, show (255 : Nat) = 2 ^ 8 - 1 from rfl, Nat.testBit_two_pow_sub_one, Bool.and_eq_true, c j]
  show P j ∧ _ = true ↔ P j ∧ ¬ Q j
  rw [← c2 j]
  constructor
  · rintro ⟨h1, h2⟩
    have hj : j < 8 := Msk.lt ⟨A, a, rfl, c⟩ h1
    rw [decide_eq_true hj] at h2
    refine ⟨h1, fun q => ?_⟩
    rw [q] at h2; cases h2
  · rintro ⟨h1, h2⟩
    have hj : j < 8 := Msk.lt ⟨A, a, rfl, c⟩ h1
    rw [decide_eq_true hj]
    refine ⟨h1, ?_⟩
    cases hq : B.testBit j
    · rfl
    · exact absurd hq h2
theorem gi_row {S S' : Sm} {i : Nat} (h : S'.1 i = S.1 i) (j : Nat) : gi S' i j = gi S i j := congrFun h j
theorem gi_rowg {S S' : Sm} {i : Nat} (h : S'.1 i = S.1 i) : gi S' i = gi S i := h
section FA
variable {N K : Nat} {L D C : Nat → Nat → Nat} {s to : Nat} {Z : Nat → Prop}
def FarI (N K : Nat) (L C : Nat → Nat → Nat) (s to : Nat) (Z : Nat → Prop) (f : Nat → Nat) : Prop := f to = 0 ∧ ∀ m, m < 8 → f m ≤ 1000000 ∧ (f m < 1000000 → m < N ∧ ∃ k, Wlk K L C s to Z k m (f m))
def PrgI (K : Nat) (L C : Nat → Nat → Nat) (s to : Nat) (Z : Nat → Prop) (g f : Nat → Nat) (i : Nat) : Prop := (∀ m, m < 8 → f m ≤ g m) ∧ ∀ m, m < i → ∀ o, o < K → s.testBit o = true → (L m o = to ∨ ¬ Z (L m o)) → f m ≤ C m o + g (L m o)
def BndI (N K : Nat) (L C : Nat → Nat → Nat) (s to : Nat) (Z : Nat → Prop) (f : Nat → Nat) (i : Nat) : Prop := ∀ m, m < N → ∀ k, k ≤ i → ∀ c, Wlk K L C s to Z k m c → f m ≤ c
theorem bnd_step (hL : ∀ m o, m < N → o < K → L m o < N) {g f : Nat → Nat} {i : Nat} (hf : FarI N K L C s to Z f) (hb : BndI N K L C s to Z g i) (hp : PrgI K L C s to Z g f N) : BndI N K L C s to Z f (i + 1) := by
  intro m hm k hk c h
  cases k with
  | zero => rw [h.1, h.2, hf.1]; exact Nat.le_refl _
  | succ k =>
    obtain ⟨o, d, h1, h2, h3, h4, h5⟩ := h
    have a := hp.2 m hm o h1 h2 h3
    have b := hb (L m o) (hL m o hm h1) k (by omega) d h4
    omega
theorem bnd_fix (hL : ∀ m o, m < N → o < K → L m o < N) {f : Nat → Nat} (hf : FarI N K L C s to Z f) (hp : PrgI K L C s to Z f f N) : ∀ i, BndI N K L C s to Z f i
  | 0 => fun m hm k hk c h => by
    have : k = 0 := by omega
    subst this
    rw [h.1, h.2, hf.1]; exact Nat.le_refl _
  | i + 1 => bnd_step hL hf (bnd_fix hL hf hp i) hp
theorem far_dst (hL : ∀ m o, m < N → o < K → L m o < N) (hC : ∀ m o, m < N → o < K → C m o ≤ 99) (h8 : N ≤ 8) {f : Nat → Nat} (hf : FarI N K L C s to Z f) (hb : BndI N K L C s to Z f 8) {m : Nat} (hm : m < N) : Dst K L C s to Z m (f m) := by
  refine Dst.of hL hm ?_ fun k c hk h => ⟨hb m hm k (by omega) c h, ?_⟩
  · obtain ⟨a, b⟩ := hf.2 m (by omega)
    rcases Nat.lt_or_ge (f m) 1000000 with q | q
    · exact Or.inr ⟨q, (b q).2⟩
    · exact Or.inl (by omega)
  · have := wlk_cost hL hC k m c hm h
    omega
/-- one node made less -/
theorem far_put (hC : ∀ m o, m < N → o < K → C m o ≤ 99) {f : Nat → Nat} {m o v : Nat} (hf : FarI N K L C s to Z f) (hm : m < N) (ho : o < K) (hs : s.testBit o = true) (hz : L m o = to ∨ ¬ Z (L m o)) (hl : L m o < 8) (hlt : f (L m o) < 1000000) (hv : v = C m o + f (L m o)) (hle : v ≤ 1000000) (hlow : v < f m) : FarI N K L C s to Z (fun j => if j = m then v else f j) := by
  have hmt : to ≠ m := fun e => by
    have := hf.1
    rw [e] at this
    omega
  refine ⟨(if_neg hmt).trans hf.1, fun j hj => ?_⟩
  show (if j = m then v else f j) ≤ 1000000 ∧ ((if j = m then v else f j) < 1000000 → j < N ∧ ∃ k, Wlk K L C s to Z k j (if j = m then v else f j))
  by_cases q : j = m
  · subst q
    rw [if_pos rfl]
    refine ⟨hle, fun _ => ⟨hm, ?_⟩⟩
    obtain ⟨-, k, hk⟩ := (hf.2 _ hl).2 hlt
    exact ⟨k + 1, o, f (L j o), ho, hs, hz, hk, hv⟩
  · rw [if_neg q]; exact hf.2 j hj
end FA
section FB
variable {N K : Nat} {L D C : Nat → Nat → Nat} {s to : Nat} {Z : Nat → Prop} {S : Sm} {by_ : Int32}
def CosS (N K : Nat) (C : Nat → Nat → Nat) (b : Int32) (S : Sm) : Prop := ∀ m c S1, m < N → c < K → SamS S S1 → ∃ S2, (if b = 1 then Wy_priceOf (nI m) (nI c) S1 else some (Wy_takes (nI m) (nI c) S1, S1)) = some (nI (C m c), S2) ∧ SamS S1 S2 ∧ S2.1 38 = S1.1 38
theorem wy_lb (hP : WyP N K L D) (hW : ∀ S1, SamS S S1 → WyS N K L D S1) (hC : ∀ m o, m < N → o < K → C m o ≤ 99) (hc : CosS N K C by_ S) {z : Int32} (hz : Msk (fun j => Z j ∧ ¬ to = j) z) (hs : s < 32) {S1 : Sm} (h1 : SamS S S1) {f : Nat → Nat} (hf : ∀ m, m < 8 → gi S1 38 m = nI (f m) ∧ f m ≤ 1000000) {m : Nat} (hm : m < N) : ∃ v S2, Wy_leastBehind (nI m) (nI s) by_ z S1 = some (nI v, S2) ∧ SamS S S2 ∧ S2.1 38 = S1.1 38 ∧ v ≤ 1000000 ∧ (∀ o, o < K → s.testBit o = true → (L m o = to ∨ ¬ Z (L m o)) → v ≤ C m o + f (L m o)) ∧ (v = 1000000 ∨ ∃ o, o < K ∧ s.testBit o = true ∧ (L m o = to ∨ ¬ Z (L m o)) ∧ f (L m o) < 1000000 ∧ v = C m o + f (L m o)) := by
  obtain ⟨h8, h5, hN, hK, hL⟩ := hP
  suffices hl : ∃ r, lpN (Wy_leastBehind_L7 (nI m) (nI s) by_ z) FU (nI 1000000, nI 0, S1) = some r ∧ (∃ v, r.1 = nI v ∧ SamS S r.2 ∧ r.2.1 38 = S1.1 38 ∧ v ≤ 1000000 ∧ (∀ o, o < K → s.testBit o = true → (L m o = to ∨ ¬ Z (L m o)) → v ≤ C m o + f (L m o)) ∧ (v = 1000000 ∨ ∃ o, o < K ∧ s.testBit o = true ∧ (L m o = to ∨ ¬ Z (L m o)) ∧ f (L m o) < 1000000 ∧ v = C m o + f (L m o))) by
    obtain ⟨r, e, v, g0, g1, g2, g3, g4, g5⟩ := hl
    refine ⟨v, r.2, ?_, g1, g2, g3, g4, g5⟩
    unfold Wy_leastBehind
    rw [show (1000000 : Int32) = nI 1000000 from rfl, show (0 : Int32) = nI 0 from rfl, e]
    show some (r.1, r.2) = _
    rw [g0]
  refine lp_inv (fun i (q : Int32 × Int32 × Sm) => q.2.1 = nI i ∧ ∃ v, q.1 = nI v ∧ SamS S q.2.2 ∧ q.2.2.1 38 = S1.1 38 ∧ v ≤ 1000000 ∧ (∀ o, o < i → s.testBit o = true → (L m o = to ∨ ¬ Z (L m o)) → v ≤ C m o + f (L m o)) ∧ (v = 1000000 ∨ ∃ o, o < K ∧ s.testBit o = true ∧ (L m o = to ∨ ¬ Z (L m o)) ∧ f (L m o) < 1000000 ∧ v = C m o + f (L m o))) K (by omega) ⟨rfl, 1000000, rfl, h1, rfl, Nat.le_refl _, fun o ho => absurd ho (Nat.not_lt_zero o), Or.inl rfl⟩ (fun i q hi hq => ?_) (fun q hq => ?_)
  · obtain ⟨q1, q2, S2⟩ := q
    obtain ⟨rfl, v, g0, g1, g2, g3, g4, g5⟩ := hq
    have g0 : q1 = nI v := g0
    have g1 : SamS S S2 := g1
    have g2 : S2.1 38 = S1.1 38 := g2
    subst g0
    have hS := hW S2 g1
    have el := (hS.2.2 m i hm (Or.inl hi)).1
    have ll := (hL m i hm (Or.inl hi)).1
    obtain ⟨f1, f2⟩ := hf (L m i) (by omega)
    have f1' : gi S2 38 (L m i) = nI (f (L m i)) := (gi_row g2 _).trans f1
    refine Or.inl ?_
    unfold Wy_leastBehind_L7 Wy_leastBehind_83_L7 Wy_leastBehind_104_L7
    by_cases t : s.testBit i = true
    · have t1 := set_h1 (by omega) (by omega) t
      by_cases y : Z (L m i) ∧ ¬ to = L m i
      · have y1 := hz.h1 (i := L m i) (by omega) y
        refine ⟨(nI v, nI (i + 1), S2), ?_, rfl, v, rfl, g1, g2, g3, fun o ho h2 h3 => ?_, g5⟩
        · simp (disch := omega) only [q_lit, q_m1, q_m2, q_hid, q_add, q_mul, q_sub, q_le, q_lt, q_eq, q_mlt, q_mle, q_ltm, q_lem, q_meq, q_eqm, q_m2lt, q_m2le, q_ltm2, q_lem2, q_eqm2, q_mm2, q_m2m, q_mm, q_mnm, q_ix, q_inb, q_a0, q_a1, q_app, q_bind, if_true, if_false, if_pos, if_neg, hS.2.1, t1, el, y1]
        · by_cases x : o = i
          · subst x; exact absurd h3 fun h => h.elim (fun e => y.2 e.symm) fun n => n y.1
          · exact g4 o (by omega) h2 h3
      · have y0 := hz.h0 (i := L m i) (by omega) y
        by_cases u : f (L m i) < 1000000
        · obtain ⟨S3, c1, c2, c3⟩ := hc m i S2 hm hi g1
          have f3' : gi S3 38 (L m i) = nI (f (L m i)) := (gi_row c3 _).trans f1'
          have hcc := hC m i hm hi
          refine ⟨(nI (min v (C m i + f (L m i))), nI (i + 1), S3), ?_, rfl, min v (C m i + f (L m i)), rfl, g1.trans c2, c3.trans g2, by omega, fun o ho h2 h3 => ?_, ?_⟩
          · by_cases b1 : by_ = nI 1
            · have c1' : Wy_priceOf (nI m) (nI i) S2 = some (nI (C m i), S3) := by
                rw [if_pos (show by_ = 1 from b1)] at c1; exact c1
              simp (disch := omega) only [q_lit, q_m1, q_m2, q_hid, q_add, q_mul, q_sub, q_le, q_lt, q_eq, q_mlt, q_mle, q_ltm, q_lem, q_meq, q_eqm, q_m2lt, q_m2le, q_ltm2, q_lem2, q_eqm2, q_mm2, q_m2m, q_mm, q_mnm, q_ix, q_inb, q_a0, q_a1, q_app, q_bind, if_true, if_false, if_pos, if_neg, hS.2.1, t1, el, y0, q_at, f1', b1, c1', f3', q_min]
            · have c1' : some (Wy_takes (nI m) (nI i) S2, S2) = some (nI (C m i), S3) := by
                rw [if_neg (show ¬ by_ = 1 from b1)] at c1; exact c1
              have c4 : Wy_takes (nI m) (nI i) S2 = nI (C m i) := congrArg (fun x => x.1) (Option.some.inj c1')
              have c5 : S2 = S3 := congrArg (fun x => x.2) (Option.some.inj c1')
              subst c5
              simp (disch := omega) only [q_lit, q_m1, q_m2, q_hid, q_add, q_mul, q_sub, q_le, q_lt, q_eq, q_mlt, q_mle, q_ltm, q_lem, q_meq, q_eqm, q_m2lt, q_m2le, q_ltm2, q_lem2, q_eqm2, q_mm2, q_m2m, q_mm, q_mnm, q_ix, q_inb, q_a0, q_a1, q_app, q_bind, if_true, if_false, if_pos, if_neg, hS.2.1, t1, el, y0, q_at, f1', b1, c4, q_min]
          · by_cases x : o = i
            · subst x; exact Nat.min_le_right _ _
            · exact Nat.le_trans (Nat.min_le_left _ _) (g4 o (by omega) h2 h3)
          · rcases Nat.le_total v (C m i + f (L m i)) with x | x
            · rw [Nat.min_eq_left x]; exact g5
            · rw [Nat.min_eq_right x]
              refine Or.inr ⟨i, hi, t, ?_, u, rfl⟩
              by_cases r : L m i = to
              · exact Or.inl r
              · exact Or.inr fun zz => y ⟨zz, fun e => r e.symm⟩
        · refine ⟨(nI v, nI (i + 1), S2), ?_, rfl, v, rfl, g1, g2, g3, fun o ho h2 h3 => ?_, g5⟩
          · simp (disch := omega) only [q_lit, q_m1, q_m2, q_hid, q_add, q_mul, q_sub, q_le, q_lt, q_eq, q_mlt, q_mle, q_ltm, q_lem, q_meq, q_eqm, q_m2lt, q_m2le, q_ltm2, q_lem2, q_eqm2, q_mm2, q_m2m, q_mm, q_mnm, q_ix, q_inb, q_a0, q_a1, q_app, q_bind, if_true, if_false, if_pos, if_neg, hS.2.1, t1, el, y0, q_at, f1']
          · by_cases x : o = i
            · subst x; omega
            · exact g4 o (by omega) h2 h3
    · have t0 := set_h0 (by omega) (by omega) t
      refine ⟨(nI v, nI (i + 1), S2), ?_, rfl, v, rfl, g1, g2, g3, fun o ho h2 h3 => ?_, g5⟩
      · simp (disch := omega) only [q_lit, q_m1, q_m2, q_hid, q_add, q_mul, q_sub, q_le, q_lt, q_eq, q_mlt, q_mle, q_ltm, q_lem, q_meq, q_eqm, q_m2lt, q_m2le, q_ltm2, q_lem2, q_eqm2, q_mm2, q_m2m, q_mm, q_mnm, q_ix, q_inb, q_a0, q_a1, q_app, q_bind, if_true, if_false, if_pos, if_neg, hS.2.1, t0]
      · by_cases x : o = i
        · subst x; exact absurd h2 t
        · exact g4 o (by omega) h2 h3
  · obtain ⟨q1, q2, S2⟩ := q
    obtain ⟨rfl, v, g0, g1, g2, g3, g4, g5⟩ := hq
    have hS := hW S2 g1
    refine ⟨(q1, S2), ?_, v, g0, g1, g2, g3, g4, g5⟩
    unfold Wy_leastBehind_L7
    simp (disch := omega) only [q_lit, q_m1, q_m2, q_hid, q_add, q_mul, q_sub, q_le, q_lt, q_eq, q_mlt, q_mle, q_ltm, q_lem, q_meq, q_eqm, q_m2lt, q_m2le, q_ltm2, q_lem2, q_eqm2, q_mm2, q_m2m, q_mm, q_mnm, q_ix, q_inb, q_a0, q_a1, q_app, q_bind, if_true, if_false, if_pos, if_neg, hS.2.1, Nat.le_refl]
theorem si38 {S0 S1 : Sm} (h : SamS S0 S1) {j : Nat} {v : Int32} : SamS S0 (si S1 38 j v) := h.si rfl
theorem wy_round (hP : WyP N K L D) (hW : ∀ S1, SamS S S1 → WyS N K L D S1) (hC : ∀ m o, m < N → o < K → C m o ≤ 99) (hc : CosS N K C by_ S) {z v7 : Int32} (hz : Msk (fun j => Z j ∧ ¬ to = j) z) (hs : s < 32) {S1 : Sm} (h1 : SamS S S1) {g : Nat → Nat} (hg : ∀ m, m < 8 → gi S1 38 m = nI (g m)) (hF : FarI N K L C s to Z g) : ∃ r, lpN (Wy_measure_L71 (nI s) by_ z v7) FU (nI 0, nI 0, S1) = some r ∧ SamS S r.2 ∧ ∃ f, (∀ m, m < 8 → gi r.2 38 m = nI (f m)) ∧ FarI N K L C s to Z f ∧ PrgI K L C s to Z g f N ∧ (r.1 = nI 1 ∨ r.1 = nI 0 ∧ ∀ m, m < 8 → f m = g m) := by
  have hPP := hP
  obtain ⟨h8, h5, hN, hK, hL⟩ := hP
  refine lp_inv (fun i (q : Int32 × Int32 × Sm) => q.2.1 = nI i ∧ SamS S q.2.2 ∧ ∃ f, (∀ m, m < 8 → gi q.2.2 38 m = nI (f m)) ∧ FarI N K L C s to Z f ∧ PrgI K L C s to Z g f i ∧ (q.1 = nI 1 ∨ q.1 = nI 0 ∧ ∀ m, m < 8 → f m = g m)) N (by omega) ⟨rfl, h1, g, hg, hF, ⟨fun m _ => Nat.le_refl _, fun m h => absurd h (Nat.not_lt_zero m)⟩, Or.inr ⟨rfl, fun m _ => rfl⟩⟩ (fun i q hi hq => ?_) (fun q hq => ?_)
  · obtain ⟨q1, q2, S2⟩ := q
    obtain ⟨rfl, g1, f, g2, g3, g4, g5⟩ := hq
    have g1 : SamS S S2 := g1
    have g2 : ∀ m, m < 8 → gi S2 38 m = nI (f m) := g2
    obtain ⟨v, S3, e, c1, c2, c3, c4, c5⟩ := wy_lb hPP hW hC hc hz hs g1 (f := f) (fun m hm => ⟨g2 m hm, (g3.2 m hm).1⟩) hi
    have hS := hW S2 g1
    have g2' : ∀ m, m < 8 → gi S3 38 m = nI (f m) := fun m hm => (gi_row c2 m).trans (g2 m hm)
    have ei := g2' i (by omega)
    have fi := (g3.2 i (by omega)).1
    refine Or.inl ?_
    unfold Wy_measure_L71 Wy_measure_123_L71
    have prog : ∀ o, o < K → s.testBit o = true → (L i o = to ∨ ¬ Z (L i o)) → v ≤ C i o + g (L i o) := fun o h1 h2 h3 => by
      have a := c4 o h1 h2 h3
      have b := g4.1 (L i o) (by have := (hL i o hi (Or.inl h1)).1; omega)
      omega
    by_cases y : f i ≤ v
    · refine ⟨(q1, nI (i + 1), S3), ?_, rfl, c1, f, g2', g3, ⟨g4.1, fun m hm o h1 h2 h3 => ?_⟩, g5⟩
      · simp (disch := omega) only [q_lit, q_m1, q_m2, q_hid, q_add, q_mul, q_sub, q_le, q_lt, q_eq, q_mlt, q_mle, q_ltm, q_lem, q_meq, q_eqm, q_m2lt, q_m2le, q_ltm2, q_lem2, q_eqm2, q_mm2, q_m2m, q_mm, q_mnm, q_ix, q_inb, q_a0, q_a1, q_app, q_bind, if_true, if_false, if_pos, if_neg, hS.1, e, q_at, ei, y]
      · by_cases x : m = i
        · subst x; exact Nat.le_trans y (prog o h1 h2 h3)
        · exact g4.2 m (by omega) o h1 h2 h3
    · refine ⟨(nI 1, nI (i + 1), si S3 38 i (nI v)), ?_, rfl, si38 c1, fun j => if j = i then v else f j, fun m hm => ?_, ?_, ⟨fun m hm => ?_, fun m hm o h1 h2 h3 => ?_⟩, Or.inl rfl⟩
      · simp (disch := omega) only [q_lit, q_m1, q_m2, q_hid, q_add, q_mul, q_sub, q_le, q_lt, q_eq, q_mlt, q_mle, q_ltm, q_lem, q_meq, q_eqm, q_m2lt, q_m2le, q_ltm2, q_lem2, q_eqm2, q_mm2, q_m2m, q_mm, q_mnm, q_ix, q_inb, q_a0, q_a1, q_app, q_bind, if_true, if_false, if_pos, if_neg, hS.1, e, q_at, ei, y, q_pu]
      · show (if (38 = 38 ∧ m = i) then nI v else S3.1 38 m) = nI (if m = i then v else f m)
        by_cases x : m = i
        · rw [if_pos ⟨rfl, x⟩, if_pos x]
        · rw [if_neg fun h => x h.2, if_neg x]; exact g2' m hm
      · rcases c5 with c5 | ⟨o, o1, o2, o3, o4, o5⟩
        · omega
        · exact far_put hC g3 hi o1 o2 o3 (by have := (hL i o hi (Or.inl o1)).1; omega) o4 o5 c3 (by omega)
      · have := g4.1 m hm
        show (if m = i then v else f m) ≤ g m
        by_cases x : m = i
        · rw [if_pos x]; subst x; omega
        · rw [if_neg x]; exact this
      · show (if m = i then v else f m) ≤ C m o + g (L m o)
        by_cases x : m = i
        · rw [if_pos x]; subst x; exact prog o h1 h2 h3
        · rw [if_neg x]; exact g4.2 m (by omega) o h1 h2 h3
  · obtain ⟨q1, q2, S2⟩ := q
    obtain ⟨rfl, g1, f, g2, g3, g4, g5⟩ := hq
    have hS := hW S2 g1
    refine ⟨(q1, S2), ?_, g1, f, g2, g3, g4, g5⟩
    unfold Wy_measure_L71
    simp (disch := omega) only [q_lit, q_m1, q_m2, q_hid, q_add, q_mul, q_sub, q_le, q_lt, q_eq, q_mlt, q_mle, q_ltm, q_lem, q_meq, q_eqm, q_m2lt, q_m2le, q_ltm2, q_lem2, q_eqm2, q_mm2, q_m2m, q_mm, q_mnm, q_ix, q_inb, q_a0, q_a1, q_app, q_bind, if_true, if_false, if_pos, if_neg, hS.1, Nat.le_refl]
theorem wy_meas (hP : WyP N K L D) (hW : ∀ S1, SamS S S1 → WyS N K L D S1) (hC : ∀ m o, m < N → o < K → C m o ≤ 99) (hc : CosS N K C by_ S) {z : Int32} (hz : Msk Z z) (hs : s < 32) (ht : to < N) : ∃ S2, Wy_measure (nI to) (nI s) by_ z S = some S2 ∧ SamS S S2 ∧ ∃ f : Nat → Nat, (∀ m, m < 8 → gi S2 38 m = nI (f m) ∧ f m ≤ 1000000) ∧ ∀ m, m < N → Dst K L C s to Z m (f m) := by
  have hPP := hP
  obtain ⟨h8, h5, hN, hK, hL⟩ := hP
  have hL' : ∀ m o, m < N → o < K → L m o < N := fun m o h1 h2 => (hL m o h1 (Or.inl h2)).1
  have hz' := hz.sub (Msk.one (m := to) (by omega))
  obtain ⟨zz, hzz⟩ : ∃ zz, zz = z &&& (nI (2 ^ to) ^^^ (-1)) := ⟨_, rfl⟩
  rw [← hzz] at hz'
  have e1 : ∃ S1, lpN (Wy_measure_L3 (nI to) (nI s) by_ z) FU (nI 0, S) = some S1 ∧ SamS S S1 ∧ ∀ m, m < 8 → gi S1 38 m = nI (if m = to then 0 else 1000000) := by
    refine lp_inv (fun i (q : Int32 × Sm) => q.1 = nI i ∧ SamS S q.2 ∧ ∀ m, m < i → gi q.2 38 m = nI (if m = to then 0 else 1000000)) 8 (by omega) ⟨rfl, SamS.rfl S, fun m h => absurd h (Nat.not_lt_zero m)⟩ (fun i q hi hq => ?_) (fun q hq => ?_)
    · obtain ⟨q1, S1⟩ := q
      obtain ⟨rfl, g1, g2⟩ := hq
      refine Or.inl ⟨(nI (i + 1), si S1 38 i (nI (if i = to then 0 else 1000000))), ?_, rfl, si38 g1, fun m hm => ?_⟩
      · unfold Wy_measure_L3 Wy_measure_28_L3
        by_cases x : i = to
        · simp (disch := omega) only [q_lit, q_m1, q_m2, q_hid, q_add, q_mul, q_sub, q_le, q_lt, q_eq, q_mlt, q_mle, q_ltm, q_lem, q_meq, q_eqm, q_m2lt, q_m2le, q_ltm2, q_lem2, q_eqm2, q_mm2, q_m2m, q_mm, q_mnm, q_ix, q_inb, q_a0, q_a1, q_app, q_bind, if_true, if_false, if_pos, if_neg, x, q_pu]
        · simp (disch := omega) only [q_lit, q_m1, q_m2, q_hid, q_add, q_mul, q_sub, q_le, q_lt, q_eq, q_mlt, q_mle, q_ltm, q_lem, q_meq, q_eqm, q_m2lt, q_m2le, q_ltm2, q_lem2, q_eqm2, q_mm2, q_m2m, q_mm, q_mnm, q_ix, q_inb, q_a0, q_a1, q_app, q_bind, if_true, if_false, if_pos, if_neg, x, q_pu]
      · show (if (38 = 38 ∧ m = i) then _ else S1.1 38 m) = _
        by_cases x : m = i
        · rw [if_pos ⟨rfl, x⟩, x]
        · rw [if_neg fun h => x h.2]; exact g2 m (by omega)
    · obtain ⟨q1, S1⟩ := q
      obtain ⟨rfl, g1, g2⟩ := hq
      refine ⟨S1, ?_, g1, g2⟩
      unfold Wy_measure_L3
      simp (disch := omega) only [q_lit, q_m1, q_m2, q_hid, q_add, q_mul, q_sub, q_le, q_lt, q_eq, q_mlt, q_mle, q_ltm, q_lem, q_meq, q_eqm, q_m2lt, q_m2le, q_ltm2, q_lem2, q_eqm2, q_mm2, q_m2m, q_mm, q_mnm, q_ix, q_inb, q_a0, q_a1, q_app, q_bind, if_true, if_false, if_pos, if_neg, Nat.le_refl]
  obtain ⟨S1, e1, g1, g2⟩ := e1
  have hF0 : FarI N K L C s to Z (fun m => if m = to then 0 else 1000000) := by
    refine ⟨if_pos rfl, fun m hm => ?_⟩
    show (if m = to then 0 else 1000000) ≤ 1000000 ∧ ((if m = to then 0 else 1000000) < 1000000 → _)
    by_cases x : m = to
    · subst x
      rw [if_pos rfl]
      exact ⟨by omega, fun _ => ⟨ht, 0, rfl, if_pos rfl⟩⟩
    · rw [if_neg x]; exact ⟨Nat.le_refl _, fun h => absurd h (by omega)⟩
  suffices hl : ∃ S2, lpN (Wy_measure_L53 (nI s) by_ zz) FU (nI 1, nI 0, S1) = some S2 ∧ (SamS S S2 ∧ ∃ f, (∀ m, m < 8 → gi S2 38 m = nI (f m)) ∧ FarI N K L C s to Z f ∧ BndI N K L C s to Z f 8) by
    obtain ⟨S2, e2, k1, f, k2, k3, k4⟩ := hl
    refine ⟨S2, ?_, k1, f, fun m hm => ⟨k2 m hm, (k3.2 m hm).1⟩, fun m hm => far_dst hL' hC h8 k3 k4 hm⟩
    unfold Wy_measure
    rw [show (0 : Int32) = nI 0 from rfl, e1, show (1 : Int32) = nI 1 from rfl, q_shl (by omega)]
    show (lpN (Wy_measure_L53 (nI s) by_ (z &&& (nI (2 ^ to) ^^^ (-1)))) FU (nI 1, nI 0, S1)).bind _ = _
    rw [← hzz, e2]; rfl
  refine lp_inv (fun i (q : Int32 × Int32 × Sm) => q.2.1 = nI i ∧ SamS S q.2.2 ∧ ∃ f, (∀ m, m < 8 → gi q.2.2 38 m = nI (f m)) ∧ FarI N K L C s to Z f ∧ BndI N K L C s to Z f i ∧ (q.1 = nI 1 ∨ q.1 = nI 0 ∧ BndI N K L C s to Z f 8)) 8 (by omega) ⟨rfl, g1, _, g2, hF0, ?_, Or.inl rfl⟩ (fun i q hi hq => ?_) (fun q hq => ?_)
  · intro m hm k hk c h
    have : k = 0 := by omega
    subst this
    rw [h.1, h.2]
    show (if to = to then 0 else 1000000) ≤ 0
    rw [if_pos rfl]; exact Nat.le_refl _
  · obtain ⟨q1, q2, S2⟩ := q
    obtain ⟨rfl, g1, f, g2, g3, g4, g5⟩ := hq
    have g1 : SamS S S2 := g1
    have g2 : ∀ m, m < 8 → gi S2 38 m = nI (f m) := g2
    rcases g5 with g5 | ⟨g5, g6⟩
    · have g5 : q1 = nI 1 := g5
      subst g5
      obtain ⟨r, e, k1, f', k2, k3, k4, k5⟩ := wy_round hPP hW hC hc hz' hs (v7 := nI i) g1 g2 g3
      refine Or.inl ⟨(r.1, nI (i + 1), r.2), ?_, rfl, k1, f', k2, k3, bnd_step hL' k3 g4 k4, ?_⟩
      · unfold Wy_measure_L53
        simp (disch := omega) only [q_lit, q_m1, q_m2, q_hid, q_add, q_mul, q_sub, q_le, q_lt, q_eq, q_mlt, q_mle, q_ltm, q_lem, q_meq, q_eqm, q_m2lt, q_m2le, q_ltm2, q_lem2, q_eqm2, q_mm2, q_m2m, q_mm, q_mnm, q_ix, q_inb, q_a0, q_a1, q_app, q_bind, if_true, if_false, if_pos, if_neg, e]
      · rcases k5 with k5 | ⟨k5, k6⟩
        · exact Or.inl k5
        · refine Or.inr ⟨k5, bnd_fix hL' k3 ⟨fun m _ => Nat.le_refl _, fun m hm o h1 h2 h3 => ?_⟩ 8⟩
          have a := k4.2 m hm o h1 h2 h3
          rw [k6 (L m o) (by have := hL' m o hm h1; omega)]
          exact a
    · have g5 : q1 = nI 0 := g5
      subst g5
      refine Or.inr ⟨S2, ?_, g1, f, g2, g3, g6⟩
      unfold Wy_measure_L53
      simp (disch := omega) only [q_lit, q_m1, q_m2, q_hid, q_add, q_mul, q_sub, q_le, q_lt, q_eq, q_mlt, q_mle, q_ltm, q_lem, q_meq, q_eqm, q_m2lt, q_m2le, q_ltm2, q_lem2, q_eqm2, q_mm2, q_m2m, q_mm, q_mnm, q_ix, q_inb, q_a0, q_a1, q_app, q_bind, if_true, if_false, if_pos, if_neg]
  · obtain ⟨q1, q2, S2⟩ := q
    obtain ⟨rfl, g1, f, g2, g3, g4, g5⟩ := hq
    refine ⟨S2, ?_, g1, f, g2, g3, g4⟩
    unfold Wy_measure_L53
    simp (disch := omega) only [q_lit, q_m1, q_m2, q_hid, q_add, q_mul, q_sub, q_le, q_lt, q_eq, q_mlt, q_mle, q_ltm, q_lem, q_meq, q_eqm, q_m2lt, q_m2le, q_ltm2, q_lem2, q_eqm2, q_mm2, q_m2m, q_mm, q_mnm, q_ix, q_inb, q_a0, q_a1, q_app, q_bind, if_true, if_false, if_pos, if_neg, Nat.le_refl]
end FB
