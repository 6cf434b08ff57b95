/-! ===== halves: two with one lamp ===== -/
theorem l_or (a b : Nat) : lN a ||| lN b = lN (a ||| b) := by
  apply Int64.toBitVec_inj.mp
  show ((Int64.ofNat a).toBitVec ||| (Int64.ofNat b).toBitVec) = (Int64.ofNat (a ||| b)).toBitVec
  rw [Int64.toBitVec_ofNat', Int64.toBitVec_ofNat', Int64.toBitVec_ofNat', BitVec.ofNat_or]
theorem l_and (a b : Nat) : lN a &&& lN b = lN (a &&& b) := by
  apply Int64.toBitVec_inj.mp
  show ((Int64.ofNat a).toBitVec &&& (Int64.ofNat b).toBitVec) = (Int64.ofNat (a &&& b)).toBitVec
  rw [Int64.toBitVec_ofNat', Int64.toBitVec_ofNat', Int64.toBitVec_ofNat', BitVec.ofNat_and]
theorem l_inj {a b : Nat} (ha : a < 2 ^ 64) (hb : b < 2 ^ 64) (h : lN a = lN b) : a = b := by
  have e : (Int64.ofNat a).toBitVec = (Int64.ofNat b).toBitVec := congrArg Int64.toBitVec h
  rw [Int64.toBitVec_ofNat', Int64.toBitVec_ofNat'] at e
  have := congrArg BitVec.toNat e
  rw [BitVec.toNat_ofNat, BitVec.toNat_ofNat, Nat.mod_eq_of_lt ha, Nat.mod_eq_of_lt hb] at this
  exact this
theorem l_not {A B : Nat} (hA : A < 2 ^ 64) : lN A &&& (lN B ^^^ (-1)) = lN (A &&& ((2 ^ 64 - 1) ^^^ B)) := by
  apply Int64.toBitVec_inj.mp
  show ((Int64.ofNat A).toBitVec &&& ((Int64.ofNat B).toBitVec ^^^ (-1 : Int64).toBitVec)) = (Int64.ofNat (A &&& ((2 ^ 64 - 1) ^^^ B))).toBitVec
  rw [Int64.toBitVec_ofNat', Int64.toBitVec_ofNat', Int64.toBitVec_ofNat', show (-1 : Int64).toBitVec = BitVec.allOnes 64 from by decide]
  apply BitVec.eq_of_getLsbD_eq
  intro i hi
  rw [BitVec.getLsbD_and, BitVec.getLsbD_xor, BitVec.getLsbD_ofNat, BitVec.getLsbD_ofNat, BitVec.getLsbD_ofNat, BitVec.getLsbD_allOnes, Nat.testBit_and, Nat.testBit_xor, Nat.testBit_two_pow_sub_one, decide_eq_true hi]
  cases A.testBit i <;> cases B.testBit i <;> rfl
theorem l_sh : ∀ p, p < 64 → lShl 1 (nI p) = lN (2 ^ p) := by decide +kernel
theorem l_amt : ∀ p, p < 64 → ((nI p).toInt64.toUInt64 &&& Int64.toUInt64 63) = UInt64.ofNat p := by decide +kernel
theorem l_bit {A p : Nat} (hA : A < 2 ^ 64) (hp : p < 64) : lUsh (lN A) (nI p) &&& 1 = (if A.testBit p = true then 1 else 0) := by
  have e : lUsh (lN A) (nI p) = lN (A / 2 ^ p) := by
    unfold lUsh
    rw [l_amt p hp]
    apply Int64.toBitVec_inj.mp
    show (Int64.ofNat A).toBitVec >>> ((UInt64.ofNat p).toBitVec % 64) = (Int64.ofNat (A / 2 ^ p)).toBitVec
    rw [Int64.toBitVec_ofNat', Int64.toBitVec_ofNat']
    apply BitVec.eq_of_toNat_eq
    have h1 : ((UInt64.ofNat p).toBitVec % 64).toNat = p := by
      have : ∀ p, p < 64 → ((UInt64.ofNat p).toBitVec % 64).toNat = p := by decide +kernel
      exact this p hp
    rw [BitVec.ushiftRight_eq', h1, BitVec.toNat_ushiftRight, BitVec.toNat_ofNat, BitVec.toNat_ofNat, Nat.mod_eq_of_lt hA, Nat.shiftRight_eq_div_pow, Nat.mod_eq_of_lt (Nat.lt_of_le_of_lt (Nat.div_le_self _ _) hA)]
  rw [e, show (1 : Int64) = lN 1 from rfl, l_and, Nat.and_one_is_mod, Nat.testBit_eq_decide_div_mod_eq]
  rcases Nat.mod_two_eq_zero_or_one (A / 2 ^ p) with q | q <;> rw [q] <;> rfl
def Mkl (P : Nat → Prop) (x : Int64) : Prop := ∃ A, A < 2 ^ 64 ∧ x = lN A ∧ ∀ j, A.testBit j = true ↔ P j
section MA
variable {P Q : Nat → Prop} {x y : Int64}
theorem Mkl.of (h : Mkl P x) (e : ∀ j, P j ↔ Q j) : Mkl Q x := by
  obtain ⟨A, a, b, c⟩ := h
  exact ⟨A, a, b, fun j => (c j).trans (e j)⟩
theorem Mkl.none : Mkl (fun _ => False) 0 := ⟨0, by decide, rfl, fun j => by rw [Nat.zero_testBit]; exact ⟨fun h => (by cases h), fun h => h.elim⟩⟩
theorem Mkl.one {m : Nat} (h : m < 64) : Mkl (fun j => m = j) (lShl 1 (nI m)) := ⟨2 ^ m, bit_lt h, l_sh m h, fun j => by rw [tb_pow, decide_eq_true_iff]⟩
theorem Mkl.or (h : Mkl P x) (g : Mkl Q y) : Mkl (fun j => P j ∨ Q j) (x ||| y) := by
  obtain ⟨A, a, rfl, c⟩ := h
  obtain ⟨B, a2, rfl, c2⟩ := g
  exact ⟨A ||| B, mask_lt a a2, l_or A B, fun j => by rw [Nat.testBit_or, Bool.or_eq_true, c j, c2 j]⟩
theorem Mkl.and (h : Mkl P x) (g : Mkl Q y) : Mkl (fun j => P j ∧ Q j) (x &&& y) := by
  obtain ⟨A, a, rfl, c⟩ := h
  obtain ⟨B, a2, rfl, c2⟩ := g
  exact ⟨A &&& B, Nat.lt_of_le_of_lt Nat.and_le_left a, l_and A B, fun j => by rw [Nat.testBit_and, Bool.and_eq_true, c j, c2 j]⟩
theorem Mkl.lt (h : Mkl P x) {j : Nat} (p : P j) : j < 64 := by
  obtain ⟨A, a, rfl, c⟩ := h
  rcases Nat.lt_or_ge j 64 with q | q
  · exact q
  · have := (c j).mpr p
    rw [Nat.testBit_lt_two_pow (Nat.lt_of_lt_of_le a (Nat.pow_le_pow_right (by decide) q : 2 ^ 64 ≤ 2 ^ j))] at this
    cases this
theorem Mkl.sub (h : Mkl P x) (g : Mkl Q y) : Mkl (fun j => P j ∧ ¬ Q j) (x &&& (y ^^^ (-1))) := by
  have hlt := fun j => Mkl.lt h (j := j)
  obtain ⟨A, a, rfl, c⟩ := h
  obtain ⟨B, a2, rfl, c2⟩ := g
  refine ⟨A &&& ((2 ^ 64 - 1) ^^^ B), Nat.lt_of_le_of_lt Nat.and_le_left a, l_not a, fun j => ?_⟩
  rw [Nat.testBit_and, Nat.testBit_xor, Nat.testBit_two_pow_sub_one, Bool.and_eq_true, c j]
  show P j ∧ _ = true ↔ P j ∧ ¬ Q j
  rw [← c2 j]
  constructor
  · rintro ⟨h1, h2⟩
    rw [decide_eq_true (hlt j h1)] at h2
    refine ⟨h1, fun q => ?_⟩
    rw [q] at h2; cases h2
  · rintro ⟨h1, h2⟩
    rw [decide_eq_true (hlt j h1)]
    refine ⟨h1, ?_⟩
    cases hq : B.testBit j
    · rfl
    · exact absurd hq h2
theorem Mkl.zero (h : Mkl P x) : x = 0 ↔ ∀ j, ¬ P j := by
  obtain ⟨A, a, rfl, c⟩ := h
  constructor
  · intro e j p
    have : A = 0 := l_inj a (by decide) e
    have q := (c j).mpr p
    rw [this, Nat.zero_testBit] at q
    cases q
  · intro h
    have : A = 0 := Nat.eq_of_testBit_eq fun i => by
      rw [Nat.zero_testBit, ← Bool.not_eq_true, c i]; exact h i
    rw [this]; rfl
theorem Mkl.h1 (h : Mkl P x) {p : Nat} (hp : p < 64) (q : P p) : lUsh x (nI p) &&& 1 = 1 := by
  obtain ⟨A, a, rfl, c⟩ := h
  rw [l_bit a hp, if_pos ((c p).mpr q)]
theorem Mkl.h0 (h : Mkl P x) {p : Nat} (hp : p < 64) (q : ¬ P p) : lUsh x (nI p) &&& 1 = 0 := by
  obtain ⟨A, a, rfl, c⟩ := h
  rw [l_bit a hp, if_neg fun z => q ((c p).mp z)]
end MA
theorem tog_ok : ∀ j, j < 64 → (9241421688590303745 : Nat).testBit j = decide (j % 9 = 0) := by decide +kernel
theorem mk_tog : Mkl (fun j => j < 64 ∧ j % 9 = 0) (-9205322385119247871) := by
  refine ⟨9241421688590303745, by decide, by decide, fun j => ?_⟩
  rcases Nat.lt_or_ge j 64 with q | q
  · rw [tog_ok j q, decide_eq_true_iff]
    exact ⟨fun h => ⟨q, h⟩, fun h => h.2⟩
  · rw [Nat.testBit_lt_two_pow (Nat.lt_of_lt_of_le (by decide : 9241421688590303745 < 2 ^ 64) (Nat.pow_le_pow_right (by decide) q : 2 ^ 64 ≤ 2 ^ j))]
    exact ⟨fun h => (by cases h), fun h => absurd h.1 (by omega)⟩
theorem lc_eq {x y : Int64} (h : x = y) : lg_cmp x y = nI 0 := by
  subst h
  unfold lg_cmp
  rw [if_neg (Int64.lt_irrefl), if_pos rfl]; rfl
theorem lc_ne {x y : Int64} (h : x ≠ y) : lg_cmp x y = nI 1 ∨ lg_cmp x y = mI := by
  unfold lg_cmp
  by_cases q : x > y
  · rw [if_pos q]; exact Or.inl rfl
  · rw [if_neg q, if_neg h]; exact Or.inr rfl
section HV
variable {N K : Nat} {L D : Nat → Nat → Nat} {T S : Sm} {s p0 : Nat}
def Go2 (K : Nat) (L : Nat → Nat → Nat) (s : Nat) (P : Nat → Prop) (j : Nat) : Prop := ∃ p c, P p ∧ c < K ∧ s.testBit c = true ∧ L (p / 8) c * 8 + L (p % 8) c = j
def PrR (K : Nat) (L : Nat → Nat → Nat) (s p0 : Nat) : Nat → Nat → Prop
  | 0 => fun j => p0 = j
  | k + 1 => fun j => PrR K L s p0 k j ∨ Go2 K L s (PrR K L s p0 k) j
def Ok2 (N : Nat) (p : Nat) : Prop := p < 64 ∧ p / 8 < N ∧ p % 8 < N
theorem Go2.mono {P Q : Nat → Prop} (h : ∀ j, P j → Q j) (j : Nat) : Go2 K L s P j → Go2 K L s Q j := fun ⟨p, c, h1, h2⟩ => ⟨p, c, h p h1, h2⟩
theorem ok2_go (h8 : N ≤ 8) (hL : ∀ m o, m < N → o < K → L m o < N) {P : Nat → Prop} (hP : ∀ j, P j → Ok2 N j) (j : Nat) (h : Go2 K L s P j) : Ok2 N j := by
  obtain ⟨p, c, h1, h2, h3, h4⟩ := h
  obtain ⟨a1, a2, a3⟩ := hP p h1
  have b1 := hL _ c a2 h2
  have b2 := hL _ c a3 h2
  subst h4
  exact ⟨by omega, by omega, by omega⟩
theorem PrR.ok (h8 : N ≤ 8) (hL : ∀ m o, m < N → o < K → L m o < N) (h0 : Ok2 N p0) : ∀ k j, PrR K L s p0 k j → Ok2 N j
  | 0, j, h => by cases h; exact h0
  | k + 1, j, h => h.elim (PrR.ok h8 hL h0 k j) (ok2_go h8 hL (PrR.ok h8 hL h0 k) j)
theorem PrR.stop (k : Nat) (h : ∀ j, PrR K L s p0 (k + 1) j → PrR K L s p0 k j) (j : Nat) (hj : PrR K L s p0 (k + 2) j) : PrR K L s p0 (k + 1) j := hj.elim id fun q => Or.inr (Go2.mono h j q)
theorem PrR.up (k d j : Nat) (h : PrR K L s p0 k j) : PrR K L s p0 (k + d) j := grow (PrR K L s p0) (fun k j q => Or.inl q) k d j h
theorem PrR.all (h8 : N ≤ 8) (hL : ∀ m o, m < N → o < K → L m o < N) (h0 : Ok2 N p0) (k j : Nat) (h : PrR K L s p0 k j) : PrR K L s p0 64 j :=
  sat (N := 64) (PrR K L s p0) (fun k j q => (PrR.ok h8 hL h0 k j q).1) (fun k j q => Or.inl q) PrR.stop k j h
def Tg (K : Nat) (L : Nat → Nat → Nat) (s p0 k : Nat) : Prop := ∃ p, PrR K L s p0 k p ∧ p % 9 = 0
def HvR (K : Nat) (L : Nat → Nat → Nat) (s p0 : Nat) (v : Int32) : Prop := (v = mI ∧ ∀ k, ¬ Tg K L s p0 k) ∨ ∃ k, k < 1000 ∧ v = nI k ∧ Tg K L s p0 k ∧ ∀ j, j < k → ¬ Tg K L s p0 j
theorem HvR.uniq {v u : Int32} (h : HvR K L s p0 v) (g : HvR K L s p0 u) : v = u := by
  rcases h with ⟨rfl, h⟩ | ⟨k, k0, rfl, h1, h2⟩ <;> rcases g with ⟨rfl, g⟩ | ⟨j, j0, rfl, g1, g2⟩
  · rfl
  · exact absurd g1 (h j)
  · exact absurd h1 (g k)
  · have x : ¬ k < j := fun q => g2 k q h1
    have y : ¬ j < k := fun q => h2 j q g1
    rw [show k = j by omega]
theorem wy_pb_in (hP : WyP N K L D) (hS : WyS N K L D S) {P A : Nat → Prop} {x a : Int64} (hx : Mkl P x) (hok : ∀ j, P j → Ok2 N j) (ha : Mkl A a) {p : Nat} (hp : p < 64) (hs : s < 32) : ∃ r, lpN (Wy_pairsBehind_L16 x (nI s) (nI p) S) FU (a, nI 0) = some r ∧ Mkl (fun j => A j ∨ (P p ∧ ∃ c, c < K ∧ s.testBit c = true ∧ L (p / 8) c * 8 + L (p % 8) c = j)) r := by
  obtain ⟨h8, h5, hN, hK, hL⟩ := hP
  by_cases hp1 : P p
  · obtain ⟨o1, o2, o3⟩ := hok p hp1
    have t1 := lc_eq (hx.h1 hp hp1)
    refine lp_inv (fun i (q : Int64 × Int32) => q.2 = nI i ∧ Mkl (fun j => A j ∨ ∃ c, c < i ∧ s.testBit c = true ∧ L (p / 8) c * 8 + L (p % 8) c = j) q.1) K (by omega) ⟨rfl, ha.of fun j => ⟨Or.inl, fun h => h.elim id fun ⟨c, q, _⟩ => absurd q (Nat.not_lt_zero c)⟩⟩ (fun i q hi hq => ?_) (fun q hq => ?_)
    · obtain ⟨b, ii⟩ := q
      obtain ⟨rfl, hb⟩ := hq
      have hb : Mkl (fun j => A j ∨ ∃ c, c < i ∧ s.testBit c = true ∧ L (p / 8) c * 8 + L (p % 8) c = j) b := hb
      have e1 := (hS.2.2 (p / 8) i o2 (Or.inl hi)).1
      have e2 := (hS.2.2 (p % 8) i o3 (Or.inl hi)).1
      have l1 := (hL (p / 8) i o2 (Or.inl hi)).1
      have l2 := (hL (p % 8) i o3 (Or.inl hi)).1
      refine Or.inl ?_
      by_cases t : s.testBit i = true
      · have e3 := set_h1 (by omega) (by omega) t
        refine ⟨(b ||| lShl 1 (nI (L (p / 8) i * 8 + L (p % 8) i)), nI (i + 1)), ?_, rfl, (hb.or (Mkl.one (m := L (p / 8) i * 8 + L (p % 8) i) (by omega))).of fun j => ⟨?_, ?_⟩⟩
        · unfold Wy_pairsBehind_L16 Wy_pairsBehind_85_L16
          rw [t1]
          simp (disch := omega) only [q_lit, q_m1, q_m2, q_hid, q_add, q_mul, q_sub, q_le, q_lt, q_eq, q_mlt, q_mle, q_ltm, q_lem, q_meq, q_eqm, q_m2lt, q_m2le, q_ltm2, q_lem2, q_eqm2, q_mm2, q_m2m, q_mm, q_mnm, q_ix, q_inb, q_a0, q_a1, q_app, q_bind, if_true, if_false, if_pos, if_neg, hS.2.1, e3, q_div, q_rem, e1, e2]
        · rintro ((h | ⟨c, q1, q2⟩) | h)
          · exact Or.inl h
          · exact Or.inr ⟨c, by omega, q2⟩
          · exact Or.inr ⟨i, by omega, t, h⟩
        · rintro (h | ⟨c, q1, q2, q3⟩)
          · exact Or.inl (Or.inl h)
          · by_cases z : c = i
            · subst z; exact Or.inr q3
            · exact Or.inl (Or.inr ⟨c, by omega, q2, q3⟩)
      · have e3 := set_h0 (by omega) (by omega) t
        refine ⟨(b, nI (i + 1)), ?_, rfl, hb.of fun j => ⟨?_, ?_⟩⟩
        · unfold Wy_pairsBehind_L16 Wy_pairsBehind_85_L16
          rw [t1]
          simp (disch := omega) only [q_lit, q_m1, q_m2, q_hid, q_add, q_mul, q_sub, q_le, q_lt, q_eq, q_mlt, q_mle, q_ltm, q_lem, q_meq, q_eqm, q_m2lt, q_m2le, q_ltm2, q_lem2, q_eqm2, q_mm2, q_m2m, q_mm, q_mnm, q_ix, q_inb, q_a0, q_a1, q_app, q_bind, if_true, if_false, if_pos, if_neg, hS.2.1, e3]
        · rintro (h | ⟨c, q1, q2⟩)
          · exact Or.inl h
          · exact Or.inr ⟨c, by omega, q2⟩
        · rintro (h | ⟨c, q1, q2, q3⟩)
          · exact Or.inl h
          · by_cases z : c = i
            · subst z; exact absurd q2 t
            · exact Or.inr ⟨c, by omega, q2, q3⟩
    · obtain ⟨b, ii⟩ := q
      obtain ⟨rfl, hb⟩ := hq
      refine ⟨b, ?_, hb.of fun j => ⟨fun h => h.imp id fun q => ⟨hp1, q⟩, fun h => h.imp id fun q => q.2⟩⟩
      unfold Wy_pairsBehind_L16
      simp (disch := omega) only [q_lit, q_m1, q_m2, q_hid, q_add, q_mul, q_sub, q_le, q_lt, q_eq, q_mlt, q_mle, q_ltm, q_lem, q_meq, q_eqm, q_m2lt, q_m2le, q_ltm2, q_lem2, q_eqm2, q_mm2, q_m2m, q_mm, q_mnm, q_ix, q_inb, q_a0, q_a1, q_app, q_bind, if_true, if_false, if_pos, if_neg, hS.2.1, Nat.le_refl]
  · refine ⟨a, ?_, ha.of fun j => ⟨Or.inl, fun h => h.elim id fun q => absurd q.1 hp1⟩⟩
    have t0 : lg_cmp (lUsh x (nI p) &&& 1) 1 = nI 1 ∨ lg_cmp (lUsh x (nI p) &&& 1) 1 = mI := lc_ne (by rw [hx.h0 hp hp1]; decide)
    have e0 : Wy_pairsBehind_L16 x (nI s) (nI p) S (a, nI 0) = some (.inr a) := by
      unfold Wy_pairsBehind_L16
      rcases t0 with t0 | t0 <;> rw [t0] <;> simp (disch := omega) only [q_lit, q_m1, q_m2, q_hid, q_add, q_mul, q_sub, q_le, q_lt, q_eq, q_mlt, q_mle, q_ltm, q_lem, q_meq, q_eqm, q_m2lt, q_m2le, q_ltm2, q_lem2, q_eqm2, q_mm2, q_m2m, q_mm, q_mnm, q_ix, q_inb, q_a0, q_a1, q_app, q_bind, if_true, if_false, if_pos, if_neg, hS.2.1]
    exact lpN_run0 (fun _ => (a, nI 0)) 0 (by omega) (fun i hi => absurd hi (Nat.not_lt_zero i)) e0 rfl
theorem wy_pb (hP : WyP N K L D) (hS : WyS N K L D S) {P : Nat → Prop} {x : Int64} (hx : Mkl P x) (hok : ∀ j, P j → Ok2 N j) (hs : s < 32) : ∃ r, Wy_pairsBehind x (nI s) S = some r ∧ Mkl (Go2 K L s P) r := by
  suffices hl : ∃ r, lpN (Wy_pairsBehind_L6 x (nI s) S) FU (0, nI 0) = some r ∧ Mkl (Go2 K L s P) r by
    obtain ⟨r, e, hr⟩ := hl
    refine ⟨r, ?_, hr⟩
    unfold Wy_pairsBehind
    rw [show (0 : Int32) = nI 0 from rfl, e]; rfl
  refine lp_inv (fun i (q : Int64 × Int32) => q.2 = nI i ∧ Mkl (fun j => ∃ p c, p < i ∧ P p ∧ c < K ∧ s.testBit c = true ∧ L (p / 8) c * 8 + L (p % 8) c = j) q.1) 64 (by omega) ⟨rfl, Mkl.none.of fun j => ⟨fun h => h.elim, fun ⟨m, c, q, _⟩ => absurd q (Nat.not_lt_zero m)⟩⟩ (fun i q hi hq => ?_) (fun q hq => ?_)
  · obtain ⟨b, ii⟩ := q
    obtain ⟨rfl, hb⟩ := hq
    obtain ⟨r, e, hr⟩ := wy_pb_in hP hS hx hok hb hi hs
    refine Or.inl ⟨(r, nI (i + 1)), ?_, rfl, hr.of fun j => ⟨?_, ?_⟩⟩
    · unfold Wy_pairsBehind_L6
      have e' : lpN (Wy_pairsBehind_L16 x (nI s) (nI i) S) FU (b, nI 0) = some r := e
      simp (disch := omega) only [q_lit, q_m1, q_m2, q_hid, q_add, q_mul, q_sub, q_le, q_lt, q_eq, q_mlt, q_mle, q_ltm, q_lem, q_meq, q_eqm, q_m2lt, q_m2le, q_ltm2, q_lem2, q_eqm2, q_mm2, q_m2m, q_mm, q_mnm, q_ix, q_inb, q_a0, q_a1, q_app, q_bind, if_true, if_false, if_pos, if_neg, e']
    · rintro (⟨m, c, h1, h2⟩ | ⟨h1, c, h2⟩)
      · exact ⟨m, c, by omega, h2⟩
      · exact ⟨i, c, by omega, h1, h2⟩
    · rintro ⟨m, c, h1, h2, h3⟩
      by_cases z : m = i
      · subst z; exact Or.inr ⟨h2, c, h3⟩
      · exact Or.inl ⟨m, c, by omega, h2, h3⟩
  · obtain ⟨b, ii⟩ := q
    obtain ⟨rfl, hb⟩ := hq
    have hb : Mkl (fun j => ∃ p c, p < 64 ∧ P p ∧ c < K ∧ s.testBit c = true ∧ L (p / 8) c * 8 + L (p % 8) c = j) b := hb
    refine ⟨b, ?_, hb.of fun j => ⟨fun ⟨p, c, _, h⟩ => ⟨p, c, h⟩, fun ⟨p, c, h⟩ => ⟨p, c, (hok p h.1).1, h⟩⟩⟩
    unfold Wy_pairsBehind_L6
    simp (disch := omega) only [q_lit, q_m1, q_m2, q_hid, q_add, q_mul, q_sub, q_le, q_lt, q_eq, q_mlt, q_mle, q_ltm, q_lem, q_meq, q_eqm, q_m2lt, q_m2le, q_ltm2, q_lem2, q_eqm2, q_mm2, q_m2m, q_mm, q_mnm, q_ix, q_inb, q_a0, q_a1, q_app, q_bind, if_true, if_false, if_pos, if_neg, Nat.le_refl]
theorem wy_ft (hP : WyP N K L D) (hS : WyS N K L D S) {x y : Nat} (hx : x < N) (hy : y < N) (hs : s < 32) : ∃ v, Wy_fewestTogether (nI x) (nI y) (nI s) S = some v ∧ HvR K L s (x * 8 + y) v := by
  have h8 := hP.1
  have hL : ∀ m o, m < N → o < K → L m o < N := fun m o h1 h2 => (hP.2.2.2.2 m o h1 (Or.inl h2)).1
  have h0 : Ok2 N (x * 8 + y) := ⟨by omega, by omega, by omega⟩
  suffices hl : ∃ r, lpN (Wy_fewestTogether_L17 (nI s) S) FU (lShl 1 (nI (x * 8 + y)), lShl 1 (nI (x * 8 + y)), nI 0) = some r ∧ ((∃ k, k < 1000 ∧ r = .inl (nI k) ∧ Tg K L s (x * 8 + y) k ∧ ∀ j, j < k → ¬ Tg K L s (x * 8 + y) j) ∨ r = .inr () ∧ ∀ k, ¬ Tg K L s (x * 8 + y) k) by
    obtain ⟨r, e, hr⟩ := hl
    unfold Wy_fewestTogether
    have e1 : nI x * 8 + nI y = nI (x * 8 + y) := by simp (disch := omega) only [q_lit, q_m1, q_m2, q_hid, q_add, q_mul, q_sub, q_le, q_lt, q_eq, q_mlt, q_mle, q_ltm, q_lem, q_meq, q_eqm, q_m2lt, q_m2le, q_ltm2, q_lem2, q_eqm2, q_mm2, q_m2m, q_mm, q_mnm, q_ix, q_inb, q_a0, q_a1, q_app, q_bind, if_true, if_false, if_pos, if_neg]
    rw [e1, show (0 : Int32) = nI 0 from rfl, e]
    rcases hr with ⟨k, k0, rfl, h1, h2⟩ | ⟨rfl, h⟩
    · exact ⟨nI k, rfl, Or.inr ⟨k, k0, rfl, h1, h2⟩⟩
    · exact ⟨mI, rfl, Or.inl ⟨rfl, h⟩⟩
  refine lp_inv (fun i (q : Int64 × Int64 × Int32) => q.2.2 = nI i ∧ Mkl (PrR K L s (x * 8 + y) i) q.2.1 ∧ (∀ j, j < i → ¬ Tg K L s (x * 8 + y) j) ∧ ∃ E, Mkl E q.1 ∧ (∀ j, E j ↔ PrR K L s (x * 8 + y) i j ∧ (i = 0 ∨ ∃ k, i = k + 1 ∧ ¬ PrR K L s (x * 8 + y) k j))) 65 (by omega) ⟨rfl, Mkl.one h0.1, fun j h => absurd h (Nat.not_lt_zero j), _, Mkl.one h0.1, fun j => ⟨fun h => ⟨h, Or.inl rfl⟩, fun h => h.1⟩⟩ (fun i q hi hq => ?_) (fun q hq => ?_)
  · obtain ⟨e, h, q3⟩ := q
    obtain ⟨rfl, hh, hno, E, hE, hE2⟩ := hq
    have hh : Mkl (PrR K L s (x * 8 + y) i) h := hh
    have hE : Mkl E e := hE
    have hEok : ∀ j, E j → Ok2 N j := fun j hj => PrR.ok h8 hL h0 i j ((hE2 j).mp hj).1
    unfold Wy_fewestTogether_L17
    by_cases em : e = 0
    · refine Or.inr ⟨.inr (), ?_, Or.inr ⟨rfl, ?_⟩⟩
      · have t0 := lc_eq em
        show (if (64 : Int32) < nI i then _ else if lg_cmp e 0 = 0 then _ else _) = _
        rw [if_neg (show ¬ (64 : Int32) < nI i from nI_nlt (b := i) (a := 64) (by omega) (by omega)), if_pos (show lg_cmp e 0 = 0 from t0)]
      · have none := hE.zero.mp em
        match i, hno, hE2, hh with
        | 0, _, hE2, _ => exact absurd ((hE2 _).mpr ⟨rfl, Or.inl rfl⟩) (none _)
        | i + 1, hno, hE2, _ =>
          have st : ∀ j, PrR K L s (x * 8 + y) (i + 1) j → PrR K L s (x * 8 + y) i j := fun j hj => Classical.byContradiction fun n => none j ((hE2 j).mpr ⟨hj, Or.inr ⟨i, rfl, n⟩⟩)
          rintro k ⟨p, hp, h9⟩
          have u := PrR.up k i p hp
          rw [Nat.add_comm k i] at u
          exact hno i (by omega) ⟨p, stab (PrR K L s (x * 8 + y)) PrR.stop st k p u, h9⟩
    · have t0 := lc_ne em
      have tz : ¬ lg_cmp e 0 = 0 := by rcases t0 with t0 | t0 <;> rw [t0] <;> decide
      by_cases tg : e &&& (-9205322385119247871) = 0
      · have nt : ¬ Tg K L s (x * 8 + y) i := by
          rintro ⟨p, hp, h9⟩
          have z := ((hE.and mk_tog).zero.mp tg) p
          refine z ⟨(hE2 p).mpr ⟨hp, ?_⟩, (PrR.ok h8 hL h0 i p hp).1, h9⟩
          match i, hno with
          | 0, _ => exact Or.inl rfl
          | i + 1, hno => exact Or.inr ⟨i, rfl, fun q => hno i (by omega) ⟨p, q, h9⟩⟩
        obtain ⟨r, er, hr⟩ := wy_pb hP hS hE hEok hs
        have hs2 := hr.sub hh
        refine Or.inl ⟨(r &&& (h ^^^ (-1)), h ||| (r &&& (h ^^^ (-1))), nI (i + 1)), ?_, rfl, (hh.or hs2).of fun j => ⟨?_, ?_⟩, fun j hj => ?_, _, hs2, fun j => ⟨?_, ?_⟩⟩
        · have t1 := lc_eq tg
          show (if (64 : Int32) < nI i then _ else if lg_cmp e 0 = 0 then _ else if lg_cmp (e &&& (-9205322385119247871)) 0 = 0 then _ else _) = _
          rw [if_neg (show ¬ (64 : Int32) < nI i from nI_nlt (b := i) (a := 64) (by omega) (by omega)), if_neg tz, if_pos (show lg_cmp _ 0 = 0 from t1)]
          show ((Wy_pairsBehind e (nI s) S).bind _) = _
          rw [er]
          show some (Sum.inl (r &&& (h ^^^ (-1)), h ||| (r &&& (h ^^^ (-1))), nI i + 1)) = _
          rw [nI_1]
        · rintro (hj | ⟨hj, -⟩)
          · exact Or.inl hj
          · exact Or.inr (Go2.mono (fun j q => ((hE2 j).mp q).1) j hj)
        · rintro (hj | hj)
          · exact Or.inl hj
          · by_cases w : PrR K L s (x * 8 + y) i j
            · exact Or.inl w
            · refine Or.inr ⟨?_, w⟩
              obtain ⟨p, c, h1, h2⟩ := hj
              refine ⟨p, c, (hE2 p).mpr ⟨h1, ?_⟩, h2⟩
              match i, w, h1 with
              | 0, _, _ => exact Or.inl rfl
              | i + 1, w, _ => exact Or.inr ⟨i, rfl, fun q => w (Or.inr ⟨p, c, q, h2⟩)⟩
        · by_cases z : j = i
          · rw [z]; exact nt
          · exact hno j (by omega)
        · rintro ⟨h1, h2⟩
          exact ⟨Or.inr (Go2.mono (fun j q => ((hE2 j).mp q).1) j h1), Or.inr ⟨i, rfl, h2⟩⟩
        · rintro ⟨h1, h2⟩
          have h3 : ¬ PrR K L s (x * 8 + y) i j := by
            rcases h2 with h2 | ⟨k, h2, h3⟩
            · omega
            · have : k = i := by omega
              rw [this] at h3; exact h3
          refine ⟨?_, h3⟩
          rcases h1 with h1 | ⟨p, c, g1, g2⟩
          · exact absurd h1 h3
          · refine ⟨p, c, (hE2 p).mpr ⟨g1, ?_⟩, g2⟩
            match i, h3 with
            | 0, _ => exact Or.inl rfl
            | i + 1, h3 => exact Or.inr ⟨i, rfl, fun q => h3 (Or.inr ⟨p, c, q, g2⟩)⟩
      · have t1 := lc_ne tg
        have tz1 : ¬ lg_cmp (e &&& (-9205322385119247871)) 0 = 0 := by rcases t1 with t1 | t1 <;> rw [t1] <;> decide
        have ex : ∃ p, E p ∧ p < 64 ∧ p % 9 = 0 := Classical.byContradiction fun n => tg ((hE.and mk_tog).zero.mpr fun j hj => n ⟨j, hj.1, hj.2⟩)
        obtain ⟨p, g1, g2, g3⟩ := ex
        refine Or.inr ⟨.inl (nI i), ?_, Or.inl ⟨i, by omega, rfl, ⟨p, ((hE2 p).mp g1).1, g3⟩, hno⟩⟩
        show (if (64 : Int32) < nI i then _ else if lg_cmp e 0 = 0 then _ else if lg_cmp (e &&& (-9205322385119247871)) 0 = 0 then _ else _) = _
        rw [if_neg (show ¬ (64 : Int32) < nI i from nI_nlt (b := i) (a := 64) (by omega) (by omega)), if_neg tz, if_neg tz1]
  · obtain ⟨e, h, q3⟩ := q
    obtain ⟨rfl, hh, hno, E, hE, hE2⟩ := hq
    refine ⟨.inr (), ?_, Or.inr ⟨rfl, fun k ⟨p, hp, h9⟩ => hno 64 (by omega) ⟨p, PrR.all h8 hL h0 k p hp, h9⟩⟩⟩
    unfold Wy_fewestTogether_L17
    rw [if_pos (show (64 : Int32) < nI 65 by decide)]
/-! the reference: rows of truths -/
def BoR (P : Nat → Prop) (T : Sm) (r : Nat) : Prop := ∀ p, p < 64 → (P p → gi T r p = nI 1) ∧ (¬ P p → gi T r p = nI 0)
theorem BoR.val {P : Nat → Prop} {T : Sm} {r p : Nat} (h : BoR P T r) (hp : p < 64) : gi T r p &&& nI 1 = gi T r p := by
  by_cases q : P p
  · rw [(h p hp).1 q]; decide
  · rw [(h p hp).2 q]; decide
theorem md_at {P : Nat → Prop} {T1 : Sm} (h : BoR P T1 87) : ∃ b, Md_areTogether T1 = some b ∧ (b = nI 1 ∧ (∃ p, p < 64 ∧ P p ∧ p % 9 = 0) ∨ b = nI 0 ∧ ¬ ∃ p, p < 64 ∧ P p ∧ p % 9 = 0) := by
  obtain ⟨r, e, hr⟩ := lp_all (f := Md_areTogether_L2 T1) (fun i => ¬ P (9 * i)) 8 (by omega) (fun i hi p => by
    have e1 := (h (9 * i) (by omega)).2 p
    rw [show 9 * i = 8 * i + i by omega] at e1
    unfold Md_areTogether_L2
    simp (disch := omega) only [q_lit, q_m1, q_m2, q_hid, q_add, q_mul, q_sub, q_le, q_lt, q_eq, q_mlt, q_mle, q_ltm, q_lem, q_meq, q_eqm, q_m2lt, q_m2le, q_ltm2, q_lem2, q_eqm2, q_mm2, q_m2m, q_mm, q_mnm, q_ix, q_inb, q_a0, q_a1, q_app, q_bind, if_true, if_false, if_pos, if_neg, e1]) (fun i hi p => by
    have e1 := (h (9 * i) (by omega)).1 (Classical.byContradiction p)
    rw [show 9 * i = 8 * i + i by omega] at e1
    unfold Md_areTogether_L2
    simp (disch := omega) only [q_lit, q_m1, q_m2, q_hid, q_add, q_mul, q_sub, q_le, q_lt, q_eq, q_mlt, q_mle, q_ltm, q_lem, q_meq, q_eqm, q_m2lt, q_m2le, q_ltm2, q_lem2, q_eqm2, q_mm2, q_m2m, q_mm, q_mnm, q_ix, q_inb, q_a0, q_a1, q_app, q_bind, if_true, if_false, if_pos, if_neg, e1]) (by
    unfold Md_areTogether_L2
    simp (disch := omega) only [q_lit, q_m1, q_m2, q_hid, q_add, q_mul, q_sub, q_le, q_lt, q_eq, q_mlt, q_mle, q_ltm, q_lem, q_meq, q_eqm, q_m2lt, q_m2le, q_ltm2, q_lem2, q_eqm2, q_mm2, q_m2m, q_mm, q_mnm, q_ix, q_inb, q_a0, q_a1, q_app, q_bind, if_true, if_false, if_pos, if_neg, Nat.le_refl])
  unfold Md_areTogether
  rw [show (0 : Int32) = nI 0 from rfl, e]
  rcases hr with ⟨rfl, hr⟩ | ⟨rfl, hr⟩
  · refine ⟨nI 0, rfl, Or.inr ⟨rfl, ?_⟩⟩
    rintro ⟨p, hp, h1, h9⟩
    have := hr (p / 9) (by omega)
    rw [show 9 * (p / 9) = p by omega] at this
    exact this h1
  · refine ⟨nI 1, rfl, Or.inl ⟨rfl, ?_⟩⟩
    refine Classical.byContradiction fun n => hr fun i hi q => n ⟨9 * i, by omega, q, by omega⟩
theorem si88 {T0 T1 : Sm} (h : SamT T0 T1) {j : Nat} {v : Int32} : SamT T0 (si T1 88 j v) := h.si rfl
theorem si87 {T0 T1 : Sm} (h : SamT T0 T1) {j : Nat} {v : Int32} : SamT T0 (si T1 87 j v) := h.si rfl
theorem md_go (hP : WyP N K L D) (hW : ∀ T1, SamT T T1 → WyT N K L D T1) (hs : s < 32) {P : Nat → Prop} (hok : ∀ j, P j → Ok2 N j) {T1 : Sm} (h1 : SamT T T1) (hb : BoR P T1 87) : ∃ T2, Md_goTogether (nI s) T1 = some T2 ∧ SamT T T2 ∧ BoR (fun j => P j ∨ Go2 K L s P j) T2 87 := by
  obtain ⟨h8, h5, hN, hK, hL⟩ := hP
  have hL' : ∀ m o, m < N → o < K → L m o < N := fun m o h1 h2 => (hL m o h1 (Or.inl h2)).1
  have e1 : ∃ T2, lpN (Md_goTogether_L2 (nI s)) FU (nI 0, T1) = some T2 ∧ SamT T T2 ∧ BoR P T2 87 ∧ BoR P T2 88 := by
    refine lp_inv (fun i (q : Int32 × Sm) => q.1 = nI i ∧ SamT T q.2 ∧ BoR P q.2 87 ∧ ∀ p, p < i → (P p → gi q.2 88 p = nI 1) ∧ (¬ P p → gi q.2 88 p = nI 0)) 64 (by omega) ⟨rfl, h1, hb, fun p h => absurd h (Nat.not_lt_zero p)⟩ (fun i q hi hq => ?_) (fun q hq => ?_)
    · obtain ⟨q1, T2⟩ := q
      obtain ⟨rfl, g1, g2, g3⟩ := hq
      have g2 : BoR P T2 87 := g2
      refine Or.inl ⟨(nI (i + 1), si T2 88 i (gi T2 87 i)), ?_, rfl, si88 g1, g2, fun p hp => ?_⟩
      · unfold Md_goTogether_L2
        have := g2.val hi
        simp (disch := omega) only [q_lit, q_m1, q_m2, q_hid, q_add, q_mul, q_sub, q_le, q_lt, q_eq, q_mlt, q_mle, q_ltm, q_lem, q_meq, q_eqm, q_m2lt, q_m2le, q_ltm2, q_lem2, q_eqm2, q_mm2, q_m2m, q_mm, q_mnm, q_ix, q_inb, q_a0, q_a1, q_app, q_bind, if_true, if_false, if_pos, if_neg, this]
      · show (P p → (if 88 = 88 ∧ p = i then gi T2 87 i else T2.1 88 p) = nI 1) ∧ (¬ P p → (if 88 = 88 ∧ p = i then gi T2 87 i else T2.1 88 p) = nI 0)
        by_cases x : p = i
        · rw [if_pos ⟨rfl, x⟩, x]; exact g2 i hi
        · rw [if_neg fun h => x h.2]; exact g3 p (by omega)
    · obtain ⟨q1, T2⟩ := q
      obtain ⟨rfl, g1, g2, g3⟩ := hq
      refine ⟨T2, ?_, g1, g2, g3⟩
      unfold Md_goTogether_L2
      simp (disch := omega) only [q_lit, q_m1, q_m2, q_hid, q_add, q_mul, q_sub, q_le, q_lt, q_eq, q_mlt, q_mle, q_ltm, q_lem, q_meq, q_eqm, q_m2lt, q_m2le, q_ltm2, q_lem2, q_eqm2, q_mm2, q_m2m, q_mm, q_mnm, q_ix, q_inb, q_a0, q_a1, q_app, q_bind, if_true, if_false, if_pos, if_neg, Nat.le_refl]
  obtain ⟨T2, e1, g1, g2, g3⟩ := e1
  have inner : ∀ (p : Nat) (A : Nat → Prop) (T3 : Sm), p < 64 → SamT T T3 → BoR P T3 87 → BoR A T3 88 → ∃ T4, lpN (Md_goTogether_L36 (nI s) (nI p)) FU (nI 0, T3) = some T4 ∧ SamT T T4 ∧ BoR P T4 87 ∧ BoR (fun j => A j ∨ (P p ∧ ∃ c, c < K ∧ s.testBit c = true ∧ L (p / 8) c * 8 + L (p % 8) c = j)) T4 88 := by
    intro p A T3 hp k1 k2 k3
    by_cases hp1 : P p
    · obtain ⟨o1, o2, o3⟩ := hok p hp1
      refine lp_inv (fun i (q : Int32 × Sm) => q.1 = nI i ∧ SamT T q.2 ∧ BoR P q.2 87 ∧ BoR (fun j => A j ∨ ∃ c, c < i ∧ s.testBit c = true ∧ L (p / 8) c * 8 + L (p % 8) c = j) q.2 88) K (by omega) ⟨rfl, k1, k2, fun j hj => ⟨fun h => (k3 j hj).1 (h.elim id fun ⟨c, q, _⟩ => absurd q (Nat.not_lt_zero c)), fun h => (k3 j hj).2 fun q => h (Or.inl q)⟩⟩ (fun i q hi hq => ?_) (fun q hq => ?_)
      · obtain ⟨q1, T4⟩ := q
        obtain ⟨rfl, j1, j2, j3⟩ := hq
        have j1 : SamT T T4 := j1
        have j2 : BoR P T4 87 := j2
        have j3 : BoR (fun j => A j ∨ ∃ c, c < i ∧ s.testBit c = true ∧ L (p / 8) c * 8 + L (p % 8) c = j) T4 88 := j3
        have hT4 := hW T4 j1
        have ep := (j2 p hp).1 hp1
        have a1 := (hT4.2.2 (p / 8) i o2 (Or.inl hi)).1
        have a2 := (hT4.2.2 (p % 8) i o3 (Or.inl hi)).1
        have l1 := hL' (p / 8) i o2 hi
        have l2 := hL' (p % 8) i o3 hi
        refine Or.inl ?_
        unfold Md_goTogether_L36 Md_goTogether_91_L36
        by_cases t : s.testBit i = true
        · have t1 : Md_has (nI s) (nI i) = nI 1 := set_h1 (by omega) (by omega) t
          refine ⟨(nI (i + 1), si T4 88 (8 * L (p / 8) i + L (p % 8) i) (nI 1)), ?_, rfl, si88 j1, j2, fun j hj => ?_⟩
          · simp (disch := omega) only [q_lit, q_m1, q_m2, q_hid, q_add, q_mul, q_sub, q_le, q_lt, q_eq, q_mlt, q_mle, q_ltm, q_lem, q_meq, q_eqm, q_m2lt, q_m2le, q_ltm2, q_lem2, q_eqm2, q_mm2, q_m2m, q_mm, q_mnm, q_ix, q_inb, q_a0, q_a1, q_app, q_bind, if_true, if_false, if_pos, if_neg, hT4.2.1, ep, t1, q_div, q_rem, a1, a2]
          · show (_ → (if 88 = 88 ∧ j = 8 * L (p / 8) i + L (p % 8) i then nI 1 else T4.1 88 j) = nI 1) ∧ (_ → (if 88 = 88 ∧ j = 8 * L (p / 8) i + L (p % 8) i then nI 1 else T4.1 88 j) = nI 0)
            by_cases x : j = 8 * L (p / 8) i + L (p % 8) i
            · rw [if_pos ⟨rfl, x⟩]
              refine ⟨fun _ => rfl, fun h => absurd (Or.inr ⟨i, by omega, t, by omega⟩) h⟩
            · rw [if_neg fun h => x h.2]
              refine ⟨fun h => (j3 j hj).1 (h.imp id fun ⟨c, q1, q2, q3⟩ => ?_), fun h => (j3 j hj).2 fun q => h (q.imp id fun ⟨c, q1, q2⟩ => ⟨c, by omega, q2⟩)⟩
              have : c ≠ i := fun e => x (by rw [e] at q3; omega)
              exact ⟨c, by omega, q2, q3⟩
        · have t0 : Md_has (nI s) (nI i) = nI 0 := set_h0 (by omega) (by omega) t
          refine ⟨(nI (i + 1), T4), ?_, rfl, j1, j2, fun j hj => ⟨fun h => (j3 j hj).1 (h.imp id fun ⟨c, q1, q2, q3⟩ => ?_), fun h => (j3 j hj).2 fun q => h (q.imp id fun ⟨c, q1, q2⟩ => ⟨c, by omega, q2⟩)⟩⟩
          · simp (disch := omega) only [q_lit, q_m1, q_m2, q_hid, q_add, q_mul, q_sub, q_le, q_lt, q_eq, q_mlt, q_mle, q_ltm, q_lem, q_meq, q_eqm, q_m2lt, q_m2le, q_ltm2, q_lem2, q_eqm2, q_mm2, q_m2m, q_mm, q_mnm, q_ix, q_inb, q_a0, q_a1, q_app, q_bind, if_true, if_false, if_pos, if_neg, hT4.2.1, ep, t0]
          · have : c ≠ i := fun e => t (e ▸ q2)
            exact ⟨c, by omega, q2, q3⟩
      · obtain ⟨q1, T4⟩ := q
        obtain ⟨rfl, j1, j2, j3⟩ := hq
        have j2 : BoR P T4 87 := j2
        have hT4 := hW T4 j1
        have ep := (j2 p hp).1 hp1
        refine ⟨T4, ?_, j1, j2, fun j hj => ⟨fun h => (j3 j hj).1 (h.imp id fun q => q.2), fun h => (j3 j hj).2 fun q => h (q.imp id fun q => ⟨hp1, q⟩)⟩⟩
        unfold Md_goTogether_L36
        simp (disch := omega) only [q_lit, q_m1, q_m2, q_hid, q_add, q_mul, q_sub, q_le, q_lt, q_eq, q_mlt, q_mle, q_ltm, q_lem, q_meq, q_eqm, q_m2lt, q_m2le, q_ltm2, q_lem2, q_eqm2, q_mm2, q_m2m, q_mm, q_mnm, q_ix, q_inb, q_a0, q_a1, q_app, q_bind, if_true, if_false, if_pos, if_neg, ep, hT4.2.1, Nat.le_refl]
    · have ep := (k2 p hp).2 hp1
      refine ⟨T3, ?_, k1, k2, fun j hj => ⟨fun h => (k3 j hj).1 (h.elim id fun q => absurd q.1 hp1), fun h => (k3 j hj).2 fun q => h (Or.inl q)⟩⟩
      refine lpN_run0 (fun _ => (nI 0, T3)) 0 (by omega) (fun i hi => absurd hi (Nat.not_lt_zero i)) ?_ rfl
      show Md_goTogether_L36 (nI s) (nI p) (nI 0, T3) = _
      unfold Md_goTogether_L36
      simp (disch := omega) only [q_lit, q_m1, q_m2, q_hid, q_add, q_mul, q_sub, q_le, q_lt, q_eq, q_mlt, q_mle, q_ltm, q_lem, q_meq, q_eqm, q_m2lt, q_m2le, q_ltm2, q_lem2, q_eqm2, q_mm2, q_m2m, q_mm, q_mnm, q_ix, q_inb, q_a0, q_a1, q_app, q_bind, if_true, if_false, if_pos, if_neg, ep]
  have e2 : ∃ T3, lpN (Md_goTogether_L28 (nI s)) FU (nI 0, T2) = some T3 ∧ SamT T T3 ∧ BoR (fun j => P j ∨ Go2 K L s P j) T3 88 := by
    refine lp_inv (fun i (q : Int32 × Sm) => q.1 = nI i ∧ SamT T q.2 ∧ BoR P q.2 87 ∧ BoR (fun j => P j ∨ ∃ p c, p < i ∧ P p ∧ c < K ∧ s.testBit c = true ∧ L (p / 8) c * 8 + L (p % 8) c = j) q.2 88) 64 (by omega) ⟨rfl, g1, g2, fun j hj => ⟨fun h => (g3 j hj).1 (h.elim id fun ⟨p, c, q, _⟩ => absurd q (Nat.not_lt_zero p)), fun h => (g3 j hj).2 fun q => h (Or.inl q)⟩⟩ (fun i q hi hq => ?_) (fun q hq => ?_)
    · obtain ⟨q1, T3⟩ := q
      obtain ⟨rfl, k1, k2, k3⟩ := hq
      obtain ⟨T4, e, j1, j2, j3⟩ := inner i _ T3 hi k1 k2 k3
      refine Or.inl ⟨(nI (i + 1), T4), ?_, rfl, j1, j2, fun j hj => ⟨fun h => (j3 j hj).1 ?_, fun h => (j3 j hj).2 fun q => h ?_⟩⟩
      · unfold Md_goTogether_L28
        simp (disch := omega) only [q_lit, q_m1, q_m2, q_hid, q_add, q_mul, q_sub, q_le, q_lt, q_eq, q_mlt, q_mle, q_ltm, q_lem, q_meq, q_eqm, q_m2lt, q_m2le, q_ltm2, q_lem2, q_eqm2, q_mm2, q_m2m, q_mm, q_mnm, q_ix, q_inb, q_a0, q_a1, q_app, q_bind, if_true, if_false, if_pos, if_neg, e]
      · rcases h with h | ⟨p, c, q1, q2, q3⟩
        · exact Or.inl (Or.inl h)
        · by_cases z : p = i
          · subst z; exact Or.inr ⟨q2, c, q3⟩
          · exact Or.inl (Or.inr ⟨p, c, by omega, q2, q3⟩)
      · rcases q with (q | ⟨p, c, q1, q2⟩) | ⟨q1, c, q2⟩
        · exact Or.inl q
        · exact Or.inr ⟨p, c, by omega, q2⟩
        · exact Or.inr ⟨i, c, by omega, q1, q2⟩
    · obtain ⟨q1, T3⟩ := q
      obtain ⟨rfl, k1, k2, k3⟩ := hq
      refine ⟨T3, ?_, k1, fun j hj => ⟨fun h => (k3 j hj).1 (h.imp id fun ⟨p, c, q⟩ => ⟨p, c, (hok p q.1).1, q⟩), fun h => (k3 j hj).2 fun q => h (q.imp id fun ⟨p, c, q1, q2⟩ => ⟨p, c, q2⟩)⟩⟩
      unfold Md_goTogether_L28
      simp (disch := omega) only [q_lit, q_m1, q_m2, q_hid, q_add, q_mul, q_sub, q_le, q_lt, q_eq, q_mlt, q_mle, q_ltm, q_lem, q_meq, q_eqm, q_m2lt, q_m2le, q_ltm2, q_lem2, q_eqm2, q_mm2, q_m2m, q_mm, q_mnm, q_ix, q_inb, q_a0, q_a1, q_app, q_bind, if_true, if_false, if_pos, if_neg, Nat.le_refl]
  obtain ⟨T3, e2, k1, k3⟩ := e2
  suffices hl : ∃ T4, lpN Md_goTogether_L105 FU (nI 0, T3) = some T4 ∧ (SamT T T4 ∧ BoR (fun j => P j ∨ Go2 K L s P j) T4 87) by
    obtain ⟨T4, e3, h⟩ := hl
    refine ⟨T4, ?_, h⟩
    unfold Md_goTogether
    simp (disch := omega) only [q_lit, q_bind, e1, e2, e3]
  refine lp_inv (fun i (q : Int32 × Sm) => q.1 = nI i ∧ SamT T q.2 ∧ BoR (fun j => P j ∨ Go2 K L s P j) q.2 88 ∧ ∀ p, p < i → ((P p ∨ Go2 K L s P p) → gi q.2 87 p = nI 1) ∧ (¬ (P p ∨ Go2 K L s P p) → gi q.2 87 p = nI 0)) 64 (by omega) ⟨rfl, k1, k3, fun p h => absurd h (Nat.not_lt_zero p)⟩ (fun i q hi hq => ?_) (fun q hq => ?_)
  · obtain ⟨q1, T4⟩ := q
    obtain ⟨rfl, g1, g2, g3⟩ := hq
    have g2 : BoR (fun j => P j ∨ Go2 K L s P j) T4 88 := g2
    refine Or.inl ⟨(nI (i + 1), si T4 87 i (gi T4 88 i)), ?_, rfl, si87 g1, g2, fun p hp => ?_⟩
    · unfold Md_goTogether_L105
      have := g2.val hi
      simp (disch := omega) only [q_lit, q_m1, q_m2, q_hid, q_add, q_mul, q_sub, q_le, q_lt, q_eq, q_mlt, q_mle, q_ltm, q_lem, q_meq, q_eqm, q_m2lt, q_m2le, q_ltm2, q_lem2, q_eqm2, q_mm2, q_m2m, q_mm, q_mnm, q_ix, q_inb, q_a0, q_a1, q_app, q_bind, if_true, if_false, if_pos, if_neg, this]
    · show (_ → (if 87 = 87 ∧ p = i then gi T4 88 i else T4.1 87 p) = nI 1) ∧ (_ → (if 87 = 87 ∧ p = i then gi T4 88 i else T4.1 87 p) = nI 0)
      by_cases x : p = i
      · rw [if_pos ⟨rfl, x⟩, x]; exact g2 i hi
      · rw [if_neg fun h => x h.2]; exact g3 p (by omega)
  · obtain ⟨q1, T4⟩ := q
    obtain ⟨rfl, g1, g2, g3⟩ := hq
    refine ⟨T4, ?_, g1, g3⟩
    unfold Md_goTogether_L105
    simp (disch := omega) only [q_lit, q_m1, q_m2, q_hid, q_add, q_mul, q_sub, q_le, q_lt, q_eq, q_mlt, q_mle, q_ltm, q_lem, q_meq, q_eqm, q_m2lt, q_m2le, q_ltm2, q_lem2, q_eqm2, q_mm2, q_m2m, q_mm, q_mnm, q_ix, q_inb, q_a0, q_a1, q_app, q_bind, if_true, if_false, if_pos, if_neg, Nat.le_refl]
end HV
section HW
variable {N K F R w : Nat} {U : List Nat} {X : List (List Cl)} {T S : Sm}
theorem op_halves (h : RelP N K F R U X w T S) (v1 v2 v3 : Int32) : ∃ v p, Dk_halves v1 v2 v3 S = some v ∧ Md_halves v1 v2 v3 T = some p ∧ v = p.1 ∧ SamT T p.2 := by
  unfold Dk_halves Md_halves Dk_halves_24 Md_halves_17 Md_halves_99
  rcases areC h.1 v1 v2 v3 with ⟨a, b⟩ | ⟨m, g, s, hm, hg, hs0, hs, rfl, rfl, rfl, a, b, c⟩
  · rw [a]
    refine ⟨mI, (mI, T), rfl, ?_, rfl, SamT.rfl T⟩
    rcases b with b | ⟨b, b'⟩
    · rw [b]; rfl
    · rw [b, b']; rfl
  · have hN := pos_of hm
    have t1 : ¬ nI 1 = 0 := by decide
    obtain ⟨hP, hS, hT⟩ := way_of h hN
    obtain ⟨hW, hV, hC, hcS, hcT⟩ := hours_S h hN
    have h8 := hP.1
    have h5 := hP.2.1
    have hs32 := set_lt h5 hs
    have hL' : ∀ m o, m < N → o < K → Ld (T.1 70) m o < N := fun m o h1 h2 => (hP.2.2.2.2 m o h1 (Or.inl h2)).1
    have h0 : Ok2 N (m * 8 + g) := ⟨by omega, by omega, by omega⟩
    obtain ⟨v, e1, hv⟩ := wy_ft hP hS hm hg hs32
    have e2 : ∃ T2, lpN (Md_halves_L22 (nI m) (nI g) (nI s)) FU (nI 0, T) = some T2 ∧ SamT T T2 ∧ BoR (PrR K (Ld (T.1 70)) s (m * 8 + g) 0) T2 87 := by
      refine lp_inv (fun i (q : Int32 × Sm) => q.1 = nI i ∧ SamT T q.2 ∧ ∀ p, p < i → (m * 8 + g = p → gi q.2 87 p = nI 1) ∧ (¬ m * 8 + g = p → gi q.2 87 p = nI 0)) 64 (by omega) ⟨rfl, SamT.rfl T, fun p h => absurd h (Nat.not_lt_zero p)⟩ (fun i q hi hq => ?_) (fun q hq => ?_)
      · obtain ⟨q1, T2⟩ := q
        obtain ⟨rfl, g1, g2⟩ := hq
        refine Or.inl ⟨(nI (i + 1), si T2 87 i (nI (if i = 8 * m + g then 1 else 0))), ?_, rfl, si87 g1, fun p hp => ?_⟩
        · unfold Md_halves_L22 Md_halves_51_L22
          by_cases x : i = 8 * m + g
          · rw [if_pos x]
            simp (disch := omega) only [q_lit, q_m1, q_m2, q_hid, q_add, q_mul, q_sub, q_le, q_lt, q_eq, q_mlt, q_mle, q_ltm, q_lem, q_meq, q_eqm, q_m2lt, q_m2le, q_ltm2, q_lem2, q_eqm2, q_mm2, q_m2m, q_mm, q_mnm, q_ix, q_inb, q_a0, q_a1, q_app, q_bind, if_true, if_false, if_pos, if_neg, ← x]
          · rw [if_neg x]
            simp (disch := omega) only [q_lit, q_m1, q_m2, q_hid, q_add, q_mul, q_sub, q_le, q_lt, q_eq, q_mlt, q_mle, q_ltm, q_lem, q_meq, q_eqm, q_m2lt, q_m2le, q_ltm2, q_lem2, q_eqm2, q_mm2, q_m2m, q_mm, q_mnm, q_ix, q_inb, q_a0, q_a1, q_app, q_bind, if_true, if_false, if_pos, if_neg, x]
        · show (_ → (if 87 = 87 ∧ p = i then _ else T2.1 87 p) = nI 1) ∧ (_ → (if 87 = 87 ∧ p = i then _ else T2.1 87 p) = nI 0)
          by_cases x : p = i
          · rw [if_pos ⟨rfl, x⟩]
            by_cases y : i = 8 * m + g
            · rw [if_pos y]; exact ⟨fun _ => rfl, fun h => absurd (by omega) h⟩
            · rw [if_neg y]; exact ⟨fun h => absurd (by omega) y, fun _ => rfl⟩
          · rw [if_neg fun h => x h.2]; exact g2 p (by omega)
      · obtain ⟨q1, T2⟩ := q
        obtain ⟨rfl, g1, g2⟩ := hq
        refine ⟨T2, ?_, g1, g2⟩
        unfold Md_halves_L22
        simp (disch := omega) only [q_lit, q_m1, q_m2, q_hid, q_add, q_mul, q_sub, q_le, q_lt, q_eq, q_mlt, q_mle, q_ltm, q_lem, q_meq, q_eqm, q_m2lt, q_m2le, q_ltm2, q_lem2, q_eqm2, q_mm2, q_m2m, q_mm, q_mnm, q_ix, q_inb, q_a0, q_a1, q_app, q_bind, if_true, if_false, if_pos, if_neg, Nat.le_refl]
    obtain ⟨T2, e2, k1, k2⟩ := e2
    have e3 : ∃ r, lpN (Md_halves_L61 (nI s)) FU (nI 0, T2) = some r ∧ SamT T r.2 ∧ ∃ i, i ≤ 64 ∧ r.1 = nI i ∧ BoR (PrR K (Ld (T.1 70)) s (m * 8 + g) i) r.2 87 ∧ (∀ j, j < i → ¬ Tg K (Ld (T.1 70)) s (m * 8 + g) j) ∧ (i = 64 ∨ Tg K (Ld (T.1 70)) s (m * 8 + g) i) := by
      refine lp_inv (fun i (q : Int32 × Sm) => q.1 = nI i ∧ SamT T q.2 ∧ BoR (PrR K (Ld (T.1 70)) s (m * 8 + g) i) q.2 87 ∧ ∀ j, j < i → ¬ Tg K (Ld (T.1 70)) s (m * 8 + g) j) 64 (by omega) ⟨rfl, k1, k2, fun j h => absurd h (Nat.not_lt_zero j)⟩ (fun i q hi hq => ?_) (fun q hq => ?_)
      · obtain ⟨q1, T3⟩ := q
        obtain ⟨rfl, g1, g2, g3⟩ := hq
        have g1 : SamT T T3 := g1
        have g2 : BoR (PrR K (Ld (T.1 70)) s (m * 8 + g) i) T3 87 := g2
        obtain ⟨b, eb, hb⟩ := md_at g2
        unfold Md_halves_L61
        rcases hb with ⟨rfl, p, hp, hp1, h9⟩ | ⟨rfl, hb⟩
        · refine Or.inr ⟨(nI i, T3), ?_, g1, i, by omega, rfl, g2, g3, Or.inr ⟨p, hp1, h9⟩⟩
          simp (disch := omega) only [q_lit, q_m1, q_m2, q_hid, q_add, q_mul, q_sub, q_le, q_lt, q_eq, q_mlt, q_mle, q_ltm, q_lem, q_meq, q_eqm, q_m2lt, q_m2le, q_ltm2, q_lem2, q_eqm2, q_mm2, q_m2m, q_mm, q_mnm, q_ix, q_inb, q_a0, q_a1, q_app, q_bind, if_true, if_false, if_pos, if_neg, eb]
        · obtain ⟨T4, eg, j1, j2⟩ := md_go hP hV hs32 (PrR.ok h8 hL' h0 i) g1 g2
          refine Or.inl ⟨(nI (i + 1), T4), ?_, rfl, j1, j2, fun j hj => ?_⟩
          · simp (disch := omega) only [q_lit, q_m1, q_m2, q_hid, q_add, q_mul, q_sub, q_le, q_lt, q_eq, q_mlt, q_mle, q_ltm, q_lem, q_meq, q_eqm, q_m2lt, q_m2le, q_ltm2, q_lem2, q_eqm2, q_mm2, q_m2m, q_mm, q_mnm, q_ix, q_inb, q_a0, q_a1, q_app, q_bind, if_true, if_false, if_pos, if_neg, eb, eg]
          · by_cases z : j = i
            · rintro ⟨p, hp1, h9⟩
              rw [z] at hp1
              exact hb ⟨p, (PrR.ok h8 hL' h0 i p hp1).1, hp1, h9⟩
            · exact g3 j (by omega)
      · obtain ⟨q1, T3⟩ := q
        obtain ⟨rfl, g1, g2, g3⟩ := hq
        refine ⟨(nI 64, T3), ?_, g1, 64, by omega, rfl, g2, g3, Or.inl rfl⟩
        unfold Md_halves_L61
        simp (disch := omega) only [q_lit, q_m1, q_m2, q_hid, q_add, q_mul, q_sub, q_le, q_lt, q_eq, q_mlt, q_mle, q_ltm, q_lem, q_meq, q_eqm, q_m2lt, q_m2le, q_ltm2, q_lem2, q_eqm2, q_mm2, q_m2m, q_mm, q_mnm, q_ix, q_inb, q_a0, q_a1, q_app, q_bind, if_true, if_false, if_pos, if_neg, Nat.le_refl]
    obtain ⟨r, e3, l1, i, l2, l3, l4, l5, l6⟩ := e3
    obtain ⟨b', eb, hb⟩ := md_at l4
    have hu : HvR K (Ld (T.1 70)) s (m * 8 + g) (if b' = nI 1 then nI i else mI) := by
      rcases hb with ⟨rfl, p, hp, hp1, h9⟩ | ⟨rfl, hb⟩
      · rw [if_pos rfl]
        exact Or.inr ⟨i, by omega, rfl, ⟨p, hp1, h9⟩, l5⟩
      · rw [if_neg (by decide)]
        have nt : ¬ Tg K (Ld (T.1 70)) s (m * 8 + g) i := fun ⟨p, hp1, h9⟩ => hb ⟨p, (PrR.ok h8 hL' h0 i p hp1).1, hp1, h9⟩
        have : i = 64 := l6.resolve_right nt
        subst this
        exact Or.inl ⟨rfl, fun k ⟨p, hp, h9⟩ => nt ⟨p, PrR.all h8 hL' h0 k p hp, h9⟩⟩
    have ev := hv.uniq hu
    rw [a, b, c, if_neg t1, if_neg t1, if_neg t1, e1]
    refine ⟨v, (v, r.2), rfl, ?_, rfl, l1⟩
    show ((lpN (Md_halves_L22 (nI m) (nI g) (nI s)) FU (nI 0, T)).bind _) = _
    rw [e2]
    show ((lpN (Md_halves_L61 (nI s)) FU (nI 0, T2)).bind _) = _
    rw [e3]
    show ((Md_areTogether r.2).bind _) = _
    rw [eb, ev]
    rcases hb with ⟨rfl, -⟩ | ⟨rfl, -⟩
    · show (if nI 1 = 0 then some (mI, r.2) else some (r.1, r.2)) = _
      rw [if_neg t1, if_pos rfl, l3]
    · rfl
end HW
