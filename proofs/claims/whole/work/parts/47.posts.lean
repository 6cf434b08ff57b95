/-! ===== posts ===== -/
section PO
variable {N K : Nat} {L D : Nat → Nat → Nat} {T S : Sm}
/-- on and on, through nothing that is watched -/
def Fw (N K : Nat) (L : Nat → Nat → Nat) (Z : Nat → Prop) (a : Nat) : Nat → Nat → Prop
  | 0 => fun j => ∃ o, o < K ∧ L a o = j
  | k + 1 => fun j => Fw N K L Z a k j ∨ ∃ m, m < N ∧ Fw N K L Z a k m ∧ ¬ Z m ∧ ∃ o, o < K ∧ L m o = j
theorem Fw.lt (hL : ∀ m o, m < N → o < K → L m o < N) {Z : Nat → Prop} {a : Nat} (ha : a < N) : ∀ k j, Fw N K L Z a k j → j < N
  | 0, j, ⟨o, ho, e⟩ => e ▸ hL a o ha ho
  | k + 1, j, h => h.elim (Fw.lt hL ha k j) fun ⟨m, hm, _, _, o, ho, e⟩ => e ▸ hL m o hm ho
theorem Fw.stop {Z : Nat → Prop} {a : Nat} (k : Nat) (h : ∀ j, Fw N K L Z a (k + 1) j → Fw N K L Z a k j) (j : Nat) (hj : Fw N K L Z a (k + 2) j) : Fw N K L Z a (k + 1) j :=
  hj.elim id fun ⟨m, hm, h1, h2⟩ => Or.inr ⟨m, hm, h m h1, h2⟩
theorem Fw.all (h8 : N ≤ 8) (hL : ∀ m o, m < N → o < K → L m o < N) {Z : Nat → Prop} {a : Nat} (ha : a < N) (k j : Nat) (h : Fw N K L Z a k j) : Fw N K L Z a 8 j :=
  sat (N := 8) (Fw N K L Z a) (fun k j q => Nat.lt_of_lt_of_le (Fw.lt hL ha k j q) h8) (fun k j q => Or.inl q) Fw.stop k j h
theorem fw_wlk {C : Nat → Nat → Nat} {s a to : Nat} {Z : Nat → Prop} (hs : ∀ o, o < K → s.testBit o = true) : ∀ k m t c, Fw N K L Z a k m → (m = to ∨ ¬ Z m) → Wlk K L C s to Z t m c → ∃ t' c', Wlk K L C s to Z t' a c'
  | 0, m, t, c, ⟨o, ho, e⟩, hz, hw => ⟨t + 1, C a o + c, o, c, ho, hs o ho, e ▸ hz, e ▸ hw, rfl⟩
  | k + 1, m, t, c, h, hz, hw => by
    rcases h with h | ⟨m', hm', h1, h2, o, ho, e⟩
    · exact fw_wlk hs k m t c h hz hw
    · exact fw_wlk hs k m' (t + 1) (C m' o + c) h1 (Or.inr h2) ⟨o, c, ho, hs o ho, e ▸ hz, e ▸ hw, rfl⟩
theorem wlk_fw (hL : ∀ m o, m < N → o < K → L m o < N) {C : Nat → Nat → Nat} {s a to : Nat} {Z : Nat → Prop} (hne : a ≠ to) : ∀ t m c, m < N → (m = a ∨ ∃ j, Fw N K L Z a j m ∧ (m = to ∨ ¬ Z m)) → Wlk K L C s to Z t m c → ∃ j, Fw N K L Z a j to
  | 0, m, c, _, hm, h => by
    rcases hm with hm | ⟨j, hj, _⟩
    · exact absurd (hm.symm.trans h.1) hne
    · exact ⟨j, h.1 ▸ hj⟩
  | t + 1, m, c, hmN, hm, ⟨o, d, ho, _, hz, hw, _⟩ => by
    by_cases q : m = to ∧ ∃ j, Fw N K L Z a j m
    · obtain ⟨e, j, hj⟩ := q
      exact ⟨j, e ▸ hj⟩
    · have hp : ∃ j, Fw N K L Z a j (L m o) := by
        rcases hm with rfl | ⟨j, hj, hz2⟩
        · exact ⟨0, o, ho, rfl⟩
        · have : ¬ Z m := hz2.resolve_left fun e => q ⟨e, j, hj⟩
          exact ⟨j + 1, Or.inr ⟨m, hmN, hj, this, o, ho, rfl⟩⟩
      obtain ⟨j, hj⟩ := hp
      exact wlk_fw hL hne t (L m o) d (hL m o hmN ho) (Or.inr ⟨j, hj, hz⟩) hw
theorem fw_iff (hL : ∀ m o, m < N → o < K → L m o < N) {C : Nat → Nat → Nat} {s a to : Nat} {Z : Nat → Prop} (hs : ∀ o, o < K → s.testBit o = true) (ha : a < N) (hne : a ≠ to) : (∃ k c, Wlk K L C s to Z k a c) ↔ ∃ j, Fw N K L Z a j to :=
  ⟨fun ⟨k, c, h⟩ => wlk_fw hL hne k a c ha (Or.inl rfl) h, fun ⟨j, h⟩ => fw_wlk hs j to 0 0 h (Or.inl rfl) ⟨rfl, rfl⟩⟩
def NxR (N K : Nat) (L : Nat → Nat → Nat) (S : Sm) : Prop := ∀ m, m < N → Msk (fun j => ∃ o, o < K ∧ L m o = j) (gi S 39 m)
theorem wy_nexts (hP : WyP N K L D) (hW : ∀ S1, SamS S S1 → WyS N K L D S1) (hA : ∀ S1, SamS S S1 → Nt_allColours S1 = nI (2 ^ K - 1)) : ∃ S2, Wy_fillNexts S = some S2 ∧ SamS S S2 ∧ NxR N K L S2 := by
  have h8 := hP.1
  have h5 := hP.2.1
  have hp := pow5 h5
  suffices hl : ∃ S2, lpN Wy_fillNexts_L2 FU (nI 0, S) = some S2 ∧ (SamS S S2 ∧ NxR N K L S2) by
    obtain ⟨S2, e, h1, h2⟩ := hl
    refine ⟨S2, ?_, h1, h2⟩
    unfold Wy_fillNexts
    rw [show (0 : Int32) = nI 0 from rfl, e]; rfl
  refine lp_inv (fun i (q : Int32 × Sm) => q.1 = nI i ∧ SamS S q.2 ∧ ∀ m, m < i → Msk (fun j => ∃ o, o < K ∧ L m o = j) (gi q.2 39 m)) N (by omega) ⟨rfl, SamS.rfl S, fun m h => absurd h (Nat.not_lt_zero m)⟩ (fun i q hi hq => ?_) (fun q hq => ?_)
  · obtain ⟨q1, S1⟩ := q
    obtain ⟨rfl, g1, g2⟩ := hq
    have g1 : SamS S S1 := g1
    have hS := hW S1 g1
    obtain ⟨r, e, hr⟩ := wy_bo hP hS (s := 2 ^ K - 1) (Msk.one (m := i) (by omega)) (by omega)
    refine Or.inl ⟨(nI (i + 1), si S1 39 i r), ?_, rfl, g1.si rfl, fun m hm => ?_⟩
    · unfold Wy_fillNexts_L2
      have sh := q_shl (m := i) (by omega)
      simp (disch := omega) only [q_lit, q_m1, q_m2, q_hid, q_add, q_mul, q_sub, q_le, q_lt, q_eq, q_mlt, q_mle, q_ltm, q_lem, q_meq, q_eqm, q_m2lt, q_m2le, q_ltm2, q_lem2, q_eqm2, q_mm2, q_m2m, q_mm, q_mnm, q_ix, q_inb, q_a0, q_a1, q_app, q_bind, if_true, if_false, if_pos, if_neg, hS.1, sh, hA S1 g1, e, q_pu]
    · show Msk _ (if (39 = 39 ∧ m = i) then r else S1.1 39 m)
      by_cases x : m = i
      · subst x
        rw [if_pos ⟨rfl, rfl⟩]
        refine hr.of fun j => ⟨?_, ?_⟩
        · rintro ⟨a, c, -, rfl, hc, -, e⟩
          exact ⟨c, hc, e⟩
        · rintro ⟨c, hc, e⟩
          exact ⟨m, c, hi, rfl, hc, by rw [Nat.testBit_two_pow_sub_one, decide_eq_true_iff]; exact hc, e⟩
      · rw [if_neg fun h => x h.2]; exact g2 m (by omega)
  · obtain ⟨q1, S1⟩ := q
    obtain ⟨rfl, g1, g2⟩ := hq
    refine ⟨S1, ?_, g1, g2⟩
    have hS := hW S1 g1
    unfold Wy_fillNexts_L2
    simp (disch := omega) only [q_lit, q_m1, q_m2, q_hid, q_add, q_mul, q_sub, q_le, q_lt, q_eq, q_mlt, q_mle, q_ltm, q_lem, q_meq, q_eqm, q_m2lt, q_m2le, q_ltm2, q_lem2, q_eqm2, q_mm2, q_m2m, q_mm, q_mnm, q_ix, q_inb, q_a0, q_a1, q_app, q_bind, if_true, if_false, if_pos, if_neg, hS.1, Nat.le_refl]
theorem wy_sneaks (hP : WyP N K L D) (hS : WyS N K L D S) (hX : NxR N K L S) {Z : Nat → Prop} {z : Int32} (hz : Msk Z z) {a to : Nat} (ha : a < N) (ht : to < N) : ∃ b, Wy_sneaks (nI a) (nI to) z S = some b ∧ (b = nI 1 ∧ (∃ j, Fw N K L Z a j to) ∨ b = nI 0 ∧ ¬ ∃ j, Fw N K L Z a j to) := by
  have h8 := hP.1
  have hL : ∀ m o, m < N → o < K → L m o < N := fun m o h1 h2 => (hP.2.2.2.2 m o h1 (Or.inl h2)).1
  have inner : ∀ (v5 x : Int32) (B : Nat → Prop) (i : Nat), Msk B x → (∀ j, B j → ∃ k, Fw N K L Z a k j) → (∀ j, Fw N K L Z a i j → B j) → ∃ r, lpN (Wy_sneaks_L32 (nI to) z v5 S) FU (x, nI 0) = some r ∧ ∃ B', Msk B' r ∧ (∀ j, B' j → ∃ k, Fw N K L Z a k j) ∧ ∀ j, Fw N K L Z a (i + 1) j → B' j := by
    intro v5 x B i hx hB hi
    refine lp_inv (fun n (q : Int32 × Int32) => q.2 = nI n ∧ ∃ B', Msk B' q.1 ∧ (∀ j, B j → B' j) ∧ (∀ j, B' j → ∃ k, Fw N K L Z a k j) ∧ ∀ m, m < n → B m → ¬ Z m → ∀ o, o < K → B' (L m o)) N (by omega) ⟨rfl, B, hx, fun j h => h, hB, fun m h => absurd h (Nat.not_lt_zero m)⟩ (fun n q hn hq => ?_) (fun q hq => ?_)
    · obtain ⟨y, ii⟩ := q
      obtain ⟨rfl, B', c1, c2, c3, c4⟩ := hq
      have c1 : Msk B' y := c1
      have hm := c1.sub hz
      refine Or.inl ?_
      unfold Wy_sneaks_L32 Wy_sneaks_73_L32
      by_cases p : B' n ∧ ¬ Z n
      · have p1 := hm.h1 (i := n) (by omega) p
        have e39 := hX n hn
        refine ⟨(y ||| gi S 39 n, nI (n + 1)), ?_, rfl, _, c1.or e39, fun j h => Or.inl (c2 j h), ?_, fun m hm' b1 b2 o ho => ?_⟩
        · have p1' : Dk_holds (y &&& (z ^^^ mI)) (nI n) = nI 1 := p1
          simp (disch := omega) only [q_lit, q_m1, q_m2, q_hid, q_add, q_mul, q_sub, q_le, q_lt, q_eq, q_mlt, q_mle, q_ltm, q_lem, q_meq, q_eqm, q_m2lt, q_m2le, q_ltm2, q_lem2, q_eqm2, q_mm2, q_m2m, q_mm, q_mnm, q_ix, q_inb, q_a0, q_a1, q_app, q_bind, if_true, if_false, if_pos, if_neg, hS.1, p1', q_at]
        · rintro j (h | ⟨o, ho, e⟩)
          · exact c3 j h
          · obtain ⟨k, hk⟩ := c3 n p.1
            exact ⟨k + 1, Or.inr ⟨n, hn, hk, p.2, o, ho, e⟩⟩
        · by_cases w : m = n
          · subst w; exact Or.inr ⟨o, ho, rfl⟩
          · exact Or.inl (c4 m (by omega) b1 b2 o ho)
      · have p0 := hm.h0 (i := n) (by omega) p
        have z0 := bit0 c1
        refine ⟨(y, nI (n + 1)), ?_, rfl, B', c1, c2, c3, fun m hm' b1 b2 o ho => ?_⟩
        · have p0' : Dk_holds (y &&& (z ^^^ mI)) (nI n) = nI 0 := p0
          simp (disch := omega) only [q_lit, q_m1, q_m2, q_hid, q_add, q_mul, q_sub, q_le, q_lt, q_eq, q_mlt, q_mle, q_ltm, q_lem, q_meq, q_eqm, q_m2lt, q_m2le, q_ltm2, q_lem2, q_eqm2, q_mm2, q_m2m, q_mm, q_mnm, q_ix, q_inb, q_a0, q_a1, q_app, q_bind, if_true, if_false, if_pos, if_neg, hS.1, p0', z0]
        · by_cases w : m = n
          · subst w; exact absurd ⟨c2 m b1, b2⟩ p
          · exact c4 m (by omega) b1 b2 o ho
    · obtain ⟨y, ii⟩ := q
      obtain ⟨rfl, B', c1, c2, c3, c4⟩ := hq
      refine ⟨y, ?_, B', c1, c3, ?_⟩
      · unfold Wy_sneaks_L32
        simp (disch := omega) only [q_lit, q_m1, q_m2, q_hid, q_add, q_mul, q_sub, q_le, q_lt, q_eq, q_mlt, q_mle, q_ltm, q_lem, q_meq, q_eqm, q_m2lt, q_m2le, q_ltm2, q_lem2, q_eqm2, q_mm2, q_m2m, q_mm, q_mnm, q_ix, q_inb, q_a0, q_a1, q_app, q_bind, if_true, if_false, if_pos, if_neg, hS.1, Nat.le_refl]
      · rintro j (h | ⟨m, hm, h1, h2, o, ho, e⟩)
        · exact c2 j (hi j h)
        · exact e ▸ c4 m hm (hi m h1) h2 o ho
  suffices hl : ∃ r, lpN (Wy_sneaks_L13 (nI to) z S) FU (gi S 39 a, nI 0) = some r ∧ (∃ B, Msk B r ∧ (∀ j, B j → ∃ k, Fw N K L Z a k j) ∧ (B to ∨ ∀ j, Fw N K L Z a 8 j → B j)) by
    obtain ⟨r, e, B, b1, b2, b3⟩ := hl
    unfold Wy_sneaks
    have ea : atF (gi S 39) 8 (nI a) = gi S 39 a := q_at (by omega) (by omega)
    rw [ea, show (0 : Int32) = nI 0 from rfl, e]
    by_cases p : B to
    · exact ⟨nI 1, by show some (Dk_holds r (nI to) &&& 1) = _; rw [b1.h1 (by omega) p]; rfl, Or.inl ⟨rfl, b2 to p⟩⟩
    · refine ⟨nI 0, by show some (Dk_holds r (nI to) &&& 1) = _; rw [b1.h0 (by omega) p]; rfl, Or.inr ⟨rfl, fun ⟨k, hk⟩ => p ?_⟩⟩
      exact (b3.resolve_left p) to (Fw.all h8 hL ha k to hk)
  refine lp_inv (fun i (q : Int32 × Int32) => q.2 = nI i ∧ ∃ B, Msk B q.1 ∧ (∀ j, B j → ∃ k, Fw N K L Z a k j) ∧ ∀ j, Fw N K L Z a i j → B j) 8 (by omega) ⟨rfl, _, hX a ha, fun j h => ⟨0, h⟩, fun j h => h⟩ (fun i q hi hq => ?_) (fun q hq => ?_)
  · obtain ⟨x, ii⟩ := q
    obtain ⟨rfl, B, b1, b2, b3⟩ := hq
    have b1 : Msk B x := b1
    unfold Wy_sneaks_L13
    by_cases p : B to
    · have p1 := b1.h1 (i := to) (by omega) p
      refine Or.inr ⟨x, ?_, B, b1, b2, Or.inl p⟩
      simp (disch := omega) only [q_lit, q_m1, q_m2, q_hid, q_add, q_mul, q_sub, q_le, q_lt, q_eq, q_mlt, q_mle, q_ltm, q_lem, q_meq, q_eqm, q_m2lt, q_m2le, q_ltm2, q_lem2, q_eqm2, q_mm2, q_m2m, q_mm, q_mnm, q_ix, q_inb, q_a0, q_a1, q_app, q_bind, if_true, if_false, if_pos, if_neg, p1]
    · have p0 := b1.h0 (i := to) (by omega) p
      obtain ⟨r, e, B', c1, c2, c3⟩ := inner (nI i) x B i b1 b2 b3
      refine Or.inl ⟨(r, nI (i + 1)), ?_, rfl, B', c1, c2, c3⟩
      simp (disch := omega) only [q_lit, q_m1, q_m2, q_hid, q_add, q_mul, q_sub, q_le, q_lt, q_eq, q_mlt, q_mle, q_ltm, q_lem, q_meq, q_eqm, q_m2lt, q_m2le, q_ltm2, q_lem2, q_eqm2, q_mm2, q_m2m, q_mm, q_mnm, q_ix, q_inb, q_a0, q_a1, q_app, q_bind, if_true, if_false, if_pos, if_neg, p0, e]
  · obtain ⟨x, ii⟩ := q
    obtain ⟨rfl, B, b1, b2, b3⟩ := hq
    refine ⟨x, ?_, B, b1, b2, Or.inr b3⟩
    unfold Wy_sneaks_L13
    simp (disch := omega) only [q_lit, q_m1, q_m2, q_hid, q_add, q_mul, q_sub, q_le, q_lt, q_eq, q_mlt, q_mle, q_ltm, q_lem, q_meq, q_eqm, q_m2lt, q_m2le, q_ltm2, q_lem2, q_eqm2, q_mm2, q_m2m, q_mm, q_mnm, q_ix, q_inb, q_a0, q_a1, q_app, q_bind, if_true, if_false, if_pos, if_neg, Nat.le_refl]
theorem msk_set {s : Nat} (h : s < 256) : Msk (fun j => s.testBit j = true) (nI s) := ⟨s, h, rfl, fun j => Iff.rfl⟩
theorem pop_le8 : ∀ k, k ≤ 8 → ∀ s, s < 2 ^ k → pop s ≤ k := by decide +kernel
/-- what can be posts -/
def Pst (N K : Nat) (L : Nat → Nat → Nat) (P : Nat → Prop) (a to : Nat) (s : Nat) : Prop := (¬ s.testBit a = true ∧ ¬ s.testBit to = true) ∧ ¬ ∃ j, Fw N K L (fun j => P j ∨ s.testBit j = true) a j to
theorem both_iff {s a to : Nat} (ha : a < 8) (ht : to < 8) (hs : s < 256) : nI s &&& (nI (2 ^ a) ||| nI (2 ^ to)) = nI 0 ↔ ¬ s.testBit a = true ∧ ¬ s.testBit to = true := by
  rw [q_or, q_and, q_eq (Nat.lt_of_le_of_lt Nat.and_le_left (by omega)) (by omega)]
  constructor
  · intro h
    have g : ∀ i, (s &&& (2 ^ a ||| 2 ^ to)).testBit i = false := fun i => by rw [h, Nat.zero_testBit]
    constructor
    · intro q
      have := g a
      rw [Nat.testBit_and, Nat.testBit_or, tb_pow, q, decide_eq_true rfl] at this
      cases this
    · intro q
      have := g to
      rw [Nat.testBit_and, Nat.testBit_or, tb_pow, tb_pow, q, decide_eq_true (rfl : to = to), Bool.or_true] at this
      cases this
  · rintro ⟨h1, h2⟩
    refine Nat.eq_of_testBit_eq fun i => ?_
    rw [Nat.zero_testBit, Nat.testBit_and, Nat.testBit_or, tb_pow, tb_pow]
    by_cases q1 : a = i
    · rw [← q1, (Bool.not_eq_true _).mp h1]; rfl
    · by_cases q2 : to = i
      · rw [← q2, (Bool.not_eq_true _).mp h2]; rfl
      · rw [decide_eq_false q1, decide_eq_false q2, Bool.or_false, Bool.and_false]
theorem wy_fp (hP : WyP N K L D) (hS : WyS N K L D S) (hX : NxR N K L S) {P : Nat → Prop} {x : Int32} (hx : Msk P x) {a to : Nat} (ha : a < N) (ht : to < N) : ∃ r, lpN (Wy_fewestPosts_L21 (nI a) (nI to) x (nI (2 ^ a) ||| nI (2 ^ to)) S) FU (nI 0) = some r ∧ ∃ v, Sum.elim (fun a => a) (fun _ => mI) r = v ∧ Lm (Pst N K L P a to) (2 ^ N) v := by
  have h8 := hP.1
  have hp := pow8 h8
  have inner : ∀ i, i ≤ N → (∀ t, t < 2 ^ N → Pst N K L P a to t → i ≤ pop t) → ∃ r, lpN (Wy_fewestPosts_L36 (nI a) (nI to) x (nI (2 ^ a) ||| nI (2 ^ to)) (nI i) S) FU (nI 0) = some r ∧ ((∃ s, r = .inl (nI s) ∧ s < 2 ^ N ∧ Pst N K L P a to s ∧ pop s = i ∧ ∀ t, t < 2 ^ N → Pst N K L P a to t → pop t = i → s ≤ t) ∨ r = .inr () ∧ ∀ t, t < 2 ^ N → Pst N K L P a to t → i < pop t) := by
    intro i hi hlow
    refine lp_inv (fun k q => q = nI k ∧ ∀ t, t < k → Pst N K L P a to t → pop t ≠ i) (2 ^ N) (by omega) ⟨rfl, fun t h => absurd h (Nat.not_lt_zero t)⟩ (fun k q hk hq => ?_) (fun q hq => ?_)
    · obtain ⟨rfl, hq⟩ := hq
      obtain ⟨bc, bp⟩ := bc_all k (by omega)
      have sh := q_shl (m := N) (by omega)
      unfold Wy_fewestPosts_L36 Wy_fewestPosts_84_L36
      have next : pop k ≠ i ∨ ¬ Pst N K L P a to k → ∀ t, t < k + 1 → Pst N K L P a to t → pop t ≠ i := fun h t ht h2 h3 => by
        by_cases y : t = k
        · subst y; exact h.elim (fun q => q h3) fun q => q h2
        · exact hq t (by omega) h2 h3
      by_cases z : pop k = i
      · by_cases fr : ¬ k.testBit a = true ∧ ¬ k.testBit to = true
        · have fr' := (both_iff (a := a) (to := to) (by omega) (by omega) (by omega : k < 256)).mpr fr
          obtain ⟨b, e, hb⟩ := wy_sneaks hP hS hX (hx.or (msk_set (s := k) (by omega))) ha ht
          rcases hb with ⟨rfl, hj⟩ | ⟨rfl, hj⟩
          · refine Or.inl ⟨nI (k + 1), ?_, rfl, next (Or.inr fun h => h.2 hj)⟩
            simp (disch := omega) only [q_lit, q_m1, q_m2, q_hid, q_add, q_mul, q_sub, q_le, q_lt, q_eq, q_mlt, q_mle, q_ltm, q_lem, q_meq, q_eqm, q_m2lt, q_m2le, q_ltm2, q_lem2, q_eqm2, q_mm2, q_m2m, q_mm, q_mnm, q_ix, q_inb, q_a0, q_a1, q_app, q_bind, if_true, if_false, if_pos, if_neg, hS.1, sh, bc, z, fr', e]
          · refine Or.inr ⟨.inl (nI k), ?_, Or.inl ⟨k, rfl, hk, ⟨fr, hj⟩, z, fun t h1 h2 h3 => ?_⟩⟩
            · simp (disch := omega) only [q_lit, q_m1, q_m2, q_hid, q_add, q_mul, q_sub, q_le, q_lt, q_eq, q_mlt, q_mle, q_ltm, q_lem, q_meq, q_eqm, q_m2lt, q_m2le, q_ltm2, q_lem2, q_eqm2, q_mm2, q_m2m, q_mm, q_mnm, q_ix, q_inb, q_a0, q_a1, q_app, q_bind, if_true, if_false, if_pos, if_neg, hS.1, sh, bc, z, fr', e]
            · exact Nat.le_of_not_lt fun y => hq t y h2 h3
        · have fr' : ¬ nI k &&& (nI (2 ^ a) ||| nI (2 ^ to)) = nI 0 := fun e => fr ((both_iff (by omega) (by omega) (by omega)).mp e)
          refine Or.inl ⟨nI (k + 1), ?_, rfl, next (Or.inr fun h => fr h.1)⟩
          simp (disch := omega) only [q_lit, q_m1, q_m2, q_hid, q_add, q_mul, q_sub, q_le, q_lt, q_eq, q_mlt, q_mle, q_ltm, q_lem, q_meq, q_eqm, q_m2lt, q_m2le, q_ltm2, q_lem2, q_eqm2, q_mm2, q_m2m, q_mm, q_mnm, q_ix, q_inb, q_a0, q_a1, q_app, q_bind, if_true, if_false, if_pos, if_neg, hS.1, sh, bc, z, fr']
      · refine Or.inl ⟨nI (k + 1), ?_, rfl, next (Or.inl z)⟩
        simp (disch := omega) only [q_lit, q_m1, q_m2, q_hid, q_add, q_mul, q_sub, q_le, q_lt, q_eq, q_mlt, q_mle, q_ltm, q_lem, q_meq, q_eqm, q_m2lt, q_m2le, q_ltm2, q_lem2, q_eqm2, q_mm2, q_m2m, q_mm, q_mnm, q_ix, q_inb, q_a0, q_a1, q_app, q_bind, if_true, if_false, if_pos, if_neg, hS.1, sh, bc, z]
    · obtain ⟨rfl, hq⟩ := hq
      have sh := q_shl (m := N) (by omega)
      refine ⟨.inr (), ?_, Or.inr ⟨rfl, fun t h1 h2 => ?_⟩⟩
      · unfold Wy_fewestPosts_L36
        simp (disch := omega) only [q_lit, q_m1, q_m2, q_hid, q_add, q_mul, q_sub, q_le, q_lt, q_eq, q_mlt, q_mle, q_ltm, q_lem, q_meq, q_eqm, q_m2lt, q_m2le, q_ltm2, q_lem2, q_eqm2, q_mm2, q_m2m, q_mm, q_mnm, q_ix, q_inb, q_a0, q_a1, q_app, q_bind, if_true, if_false, if_pos, if_neg, hS.1, sh, Nat.le_refl]
      · have a := hlow t h1 h2
        have b := hq t h1 h2
        omega
  suffices hl : ∃ r, lpN (Wy_fewestPosts_L21 (nI a) (nI to) x (nI (2 ^ a) ||| nI (2 ^ to)) S) FU (nI 0) = some r ∧ ((∃ s, r = .inl (nI s) ∧ s < 2 ^ N ∧ Pst N K L P a to s ∧ ∀ t, t < 2 ^ N → Pst N K L P a to t → pop s < pop t ∨ (pop s = pop t ∧ s ≤ t)) ∨ r = .inr () ∧ ∀ t, t < 2 ^ N → ¬ Pst N K L P a to t) by
    obtain ⟨r, e, hr⟩ := hl
    refine ⟨r, e, _, rfl, ?_⟩
    rcases hr with ⟨s, rfl, h1, h2, h3⟩ | ⟨rfl, h⟩
    · exact Or.inr ⟨s, h1, rfl, h2, h3⟩
    · exact Or.inl ⟨rfl, h⟩
  refine lp_inv (fun i q => q = nI i ∧ ∀ t, t < 2 ^ N → Pst N K L P a to t → i ≤ pop t) (N + 1) (by omega) ⟨rfl, fun t _ _ => Nat.zero_le _⟩ (fun i q hi hq => ?_) (fun q hq => ?_)
  · obtain ⟨rfl, hq⟩ := hq
    obtain ⟨r, e, hr⟩ := inner i (by omega) hq
    unfold Wy_fewestPosts_L21
    rcases hr with ⟨s, rfl, h1, h2, h3, h4⟩ | ⟨rfl, h⟩
    · refine Or.inr ⟨.inl (nI s), ?_, Or.inl ⟨s, rfl, h1, h2, fun t g1 g2 => ?_⟩⟩
      · simp (disch := omega) only [q_lit, q_m1, q_m2, q_hid, q_add, q_mul, q_sub, q_le, q_lt, q_eq, q_mlt, q_mle, q_ltm, q_lem, q_meq, q_eqm, q_m2lt, q_m2le, q_ltm2, q_lem2, q_eqm2, q_mm2, q_m2m, q_mm, q_mnm, q_ix, q_inb, q_a0, q_a1, q_app, q_bind, if_true, if_false, if_pos, if_neg, hS.1, e]
        rfl
      · have a := hq t g1 g2
        by_cases y : pop t = i
        · exact Or.inr ⟨by omega, h4 t g1 g2 y⟩
        · exact Or.inl (by omega)
    · refine Or.inl ⟨nI (i + 1), ?_, rfl, h⟩
      simp (disch := omega) only [q_lit, q_m1, q_m2, q_hid, q_add, q_mul, q_sub, q_le, q_lt, q_eq, q_mlt, q_mle, q_ltm, q_lem, q_meq, q_eqm, q_m2lt, q_m2le, q_ltm2, q_lem2, q_eqm2, q_mm2, q_m2m, q_mm, q_mnm, q_ix, q_inb, q_a0, q_a1, q_app, q_bind, if_true, if_false, if_pos, if_neg, hS.1, e]
      rfl
  · obtain ⟨rfl, hq⟩ := hq
    refine ⟨.inr (), ?_, Or.inr ⟨rfl, fun t h1 h2 => ?_⟩⟩
    · unfold Wy_fewestPosts_L21
      simp (disch := omega) only [q_lit, q_m1, q_m2, q_hid, q_add, q_mul, q_sub, q_le, q_lt, q_eq, q_mlt, q_mle, q_ltm, q_lem, q_meq, q_eqm, q_m2lt, q_m2le, q_ltm2, q_lem2, q_eqm2, q_mm2, q_m2m, q_mm, q_mnm, q_ix, q_inb, q_a0, q_a1, q_app, q_bind, if_true, if_false, if_pos, if_neg, hS.1]
    · have a := hq t h1 h2
      have b := pop_le8 N h8 t h1
      omega
theorem isFewer_cases {J : Nat → Prop} {i : Nat} {v : Int32} (hi : i < 256) (hq : Lm J i v) : ∃ f, Md_isFewer (nI i) v = f ∧ (f = nI 1 ∧ (v = mI ∨ ∃ t, t < i ∧ v = nI t ∧ pop i < pop t) ∨ f = nI 0 ∧ ∃ t, t < i ∧ v = nI t ∧ pop t ≤ pop i) := by
  obtain ⟨bi, bj⟩ := bc_all i (by omega)
  unfold Md_isFewer Md_isFewer_16 Md_isFewer_21
  rcases hq with ⟨rfl, h⟩ | ⟨t, h1, rfl, h2, h3⟩
  · exact ⟨nI 1, rfl, Or.inl ⟨rfl, Or.inl rfl⟩⟩
  · obtain ⟨ti, tj⟩ := bc_all t (by omega)
    by_cases y : pop t ≤ pop i
    · refine ⟨nI 0, ?_, Or.inr ⟨rfl, t, h1, rfl, y⟩⟩
      simp (disch := omega) only [q_lit, q_m1, q_m2, q_hid, q_add, q_mul, q_sub, q_le, q_lt, q_eq, q_mlt, q_mle, q_ltm, q_lem, q_meq, q_eqm, q_m2lt, q_m2le, q_ltm2, q_lem2, q_eqm2, q_mm2, q_m2m, q_mm, q_mnm, q_ix, q_inb, q_a0, q_a1, q_app, q_bind, if_true, if_false, if_pos, if_neg, ti, bi]
    · refine ⟨nI 1, ?_, Or.inl ⟨rfl, Or.inr ⟨t, h1, rfl, by omega⟩⟩⟩
      simp (disch := omega) only [q_lit, q_m1, q_m2, q_hid, q_add, q_mul, q_sub, q_le, q_lt, q_eq, q_mlt, q_mle, q_ltm, q_lem, q_meq, q_eqm, q_m2lt, q_m2le, q_ltm2, q_lem2, q_eqm2, q_mm2, q_m2m, q_mm, q_mnm, q_ix, q_inb, q_a0, q_a1, q_app, q_bind, if_true, if_false, if_pos, if_neg, ti, bi]
theorem Lm.keep {J : Nat → Prop} {i : Nat} {v : Int32} (hq : Lm J i v) (hi : i < 256) (h : J i → ∃ t, t < i ∧ v = nI t ∧ pop t ≤ pop i) : Lm J (i + 1) v := by
  rcases hq with ⟨g, g1⟩ | ⟨s, g1, g2, g3, g4⟩
  · refine Or.inl ⟨g, fun t ht htj => ?_⟩
    by_cases y : t = i
    · subst y
      obtain ⟨u, h1, h2, h3⟩ := h htj
      rw [g] at h2; exact absurd h2.symm (by rw [q_eqm (by omega)]; exact id)
    · exact g1 t (by omega) htj
  · refine Or.inr ⟨s, by omega, g2, g3, fun t ht htj => ?_⟩
    by_cases y : t = i
    · subst y
      obtain ⟨u, h1, h2, h3⟩ := h htj
      rw [g2, q_eq (by omega) (by omega)] at h2
      subst h2
      omega
    · exact g4 t (by omega) htj
theorem Lm.take {J : Nat → Prop} {i : Nat} {v : Int32} (hq : Lm J i v) (hi : i < 256) (hj : J i) (h : v = mI ∨ ∃ t, t < i ∧ v = nI t ∧ pop i < pop t) : Lm J (i + 1) (nI i) := by
  refine Or.inr ⟨i, by omega, rfl, hj, fun t ht htj => ?_⟩
  by_cases y : t = i
  · subst y; exact Or.inr ⟨rfl, Nat.le_refl _⟩
  · rcases h with h | ⟨u, h1, h2, h3⟩
    · rcases hq with ⟨-, g⟩ | ⟨s, g1, g2, g3, g4⟩
      · exact absurd htj (g t (by omega))
      · rw [h] at g2; exact absurd g2.symm (by rw [q_eqm (by omega)]; exact id)
    · rcases hq with ⟨g, -⟩ | ⟨s, g1, g2, g3, g4⟩
      · rw [g] at h2; exact absurd h2.symm (by rw [q_eqm (by omega)]; exact id)
      · rw [g2, q_eq (by omega) (by omega)] at h2
        subst h2
        have := g4 t (by omega) htj
        exact Or.inl (by omega)
end PO
section PP
variable {N K F R w : Nat} {U : List Nat} {X : List (List Cl)} {T S : Sm}
theorem md_po (h : RelP N K F R U X w T S) {P : Nat → Prop} {x : Int32} (hg : Wy_guarded S = some x) (hx : Msk P x) {a to : Nat} (ha : a < N) (ht : to < N) (hne : a ≠ to) : ∃ r, lpN (Md_posts_L21 (nI a) (nI to)) FU (mI, nI 0, T) = some r ∧ SamT T r.2 ∧ Lm (Pst N K (Ld (T.1 70)) P a to) (2 ^ N) r.1 := by
  have hN := pos_of ha
  obtain ⟨hP, -, -⟩ := way_of h hN
  obtain ⟨hW, hV, hC, hcS, hcT⟩ := hours_S h hN
  have h8 := hP.1
  have h5 := hP.2.1
  have hp := pow8 h8
  have hp5 := pow5 h5
  have hL : ∀ m o, m < N → o < K → Ld (T.1 70) m o < N := fun m o h1 h2 => (hP.2.2.2.2 m o h1 (Or.inl h2)).1
  have hall : ∀ o, o < K → (2 ^ K - 1).testBit o = true := fun o ho => by rw [Nat.testBit_two_pow_sub_one, decide_eq_true_iff]; exact ho
  have sh := q_shl (m := a) (by omega)
  have shN := q_shl (m := N) (by omega)
  have ib : inb (nI a) 8 := nI_in (by omega) (by omega)
  have im : ix (nI a) = a := q_ix (by omega)
  refine lp_inv (fun i (q : Int32 × Int32 × Sm) => q.2.1 = nI i ∧ SamT T q.2.2 ∧ Lm (Pst N K (Ld (T.1 70)) P a to) i q.1) (2 ^ N) (by omega) ⟨rfl, SamT.rfl T, Or.inl ⟨rfl, fun s h => absurd h (Nat.not_lt_zero s)⟩⟩ (fun i q hi hq => ?_) (fun q hq => ?_)
  · obtain ⟨v, q2, T1⟩ := q
    obtain ⟨rfl, g1, g2⟩ := hq
    have g1 : SamT T T1 := g1
    have g2 : Lm (Pst N K (Ld (T.1 70)) P a to) i v := g2
    have hr1 := h.same (SamS.rfl S) g1
    have hT1 := hV T1 g1
    have e0 : gi T1 68 0 = nI N := hT1.1
    obtain ⟨f, ef, hf⟩ := isFewer_cases (by omega) g2
    have ta : Md_has (nI i) (nI a) = bI (i.testBit a) := q_has (by omega) (by omega)
    have tt : Md_has (nI i) (nI to) = bI (i.testBit to) := q_has (by omega) (by omega)
    refine Or.inl ?_
    unfold Md_posts_L21 Md_posts_102_L21 Md_posts_103_L21
    by_cases c1 : i.testBit a = true
    · refine ⟨(v, nI (i + 1), T1), ?_, rfl, g1, g2.keep (by omega) fun hj => absurd c1 hj.1.1⟩
      simp (disch := omega) only [q_lit, q_m1, q_m2, q_hid, q_add, q_mul, q_sub, q_le, q_lt, q_eq, q_mlt, q_mle, q_ltm, q_lem, q_meq, q_eqm, q_m2lt, q_m2le, q_ltm2, q_lem2, q_eqm2, q_mm2, q_m2m, q_mm, q_mnm, q_ix, q_inb, q_a0, q_a1, q_app, q_bind, if_true, if_false, if_pos, if_neg, e0, shN, ta, c1, bI_t]
    · by_cases c2 : i.testBit to = true
      · refine ⟨(v, nI (i + 1), T1), ?_, rfl, g1, g2.keep (by omega) fun hj => absurd c2 hj.1.2⟩
        simp (disch := omega) only [q_lit, q_m1, q_m2, q_hid, q_add, q_mul, q_sub, q_le, q_lt, q_eq, q_mlt, q_mle, q_ltm, q_lem, q_meq, q_eqm, q_m2lt, q_m2le, q_ltm2, q_lem2, q_eqm2, q_mm2, q_m2m, q_mm, q_mnm, q_ix, q_inb, q_a0, q_a1, q_app, q_bind, if_true, if_false, if_pos, if_neg, e0, shN, ta, (Bool.not_eq_true _).mp c1, bI_f, tt, c2, bI_t]
      · have d1 := (Bool.not_eq_true _).mp c1
        have d2 := (Bool.not_eq_true _).mp c2
        rcases hf with ⟨rfl, hf⟩ | ⟨rfl, hf⟩
        · obtain ⟨x', P', x1, x2, x3⟩ := both_guarded hr1
          have : x' = x := Option.some.inj (x1.symm.trans hg)
          subst this
          have hZ := (hx.or (msk_set (s := i) (by omega))).sub (Msk.one (m := a) (by omega))
          have hcT1 : CosT N K (Ln (T.1 70)) 0 T1 := fun m c T2 h1 h2 h3 => hcT m c T2 h1 h2 (g1.trans h3)
          obtain ⟨T2, e2, l1, f', l2, l3⟩ := md_away hP (fun T2 h2 => hV T2 (g1.trans h2)) hC hcT1 (s := 2 ^ K - 1) hZ (by omega) ht
          have l2a := (l2 a (by omega)).1
          have e2' : Md_layAway (nI to) (nI (2 ^ K - 1)) (nI 0) ((x' ||| nI i) &&& (nI (2 ^ a) ^^^ mI)) T1 = some T2 := e2
          have mA := m_all hr1.1
          have key : f' a = 1000000 ↔ Pst N K (Ld (T.1 70)) P a to i := by
            have j1 : (∃ k c, Wlk K (Ld (T.1 70)) (Ln (T.1 70)) (2 ^ K - 1) to (fun j => (P j ∨ i.testBit j = true) ∧ ¬ a = j) k a c) ↔ ∃ k c, Wlk K (Ld (T.1 70)) (Ln (T.1 70)) (2 ^ K - 1) to (fun j => P j ∨ i.testBit j = true) k a c := by
              constructor
              · rintro ⟨k, c, hw⟩
                obtain ⟨k', c', -, e⟩ := wlk_from (Z := fun j => P j ∨ i.testBit j = true) (fun j hj hz => ⟨hz, fun e => hj e.symm⟩) k c hw
                exact ⟨k', c', e⟩
              · rintro ⟨k, c, hw⟩
                exact ⟨k, c, wlk_mono (fun j hj => hj.1) k a c hw⟩
            have j2 := fw_iff (C := Ln (T.1 70)) (Z := fun j => P j ∨ i.testBit j = true) hL hall ha hne
            constructor
            · intro e
              refine ⟨⟨c1, c2⟩, fun hfw => ?_⟩
              obtain ⟨k, c, hw⟩ := j1.mpr (j2.mpr hfw)
              rcases l3 a ha with ⟨q1, q2⟩ | ⟨q1, q2⟩
              · exact q2 k c hw
              · omega
            · intro hj
              rcases l3 a ha with ⟨q1, q2⟩ | ⟨q1, ⟨k, q2⟩, q3⟩
              · exact q1
              · exact absurd (j2.mp (j1.mp ⟨k, _, q2⟩)) hj.2
          by_cases y : f' a = 1000000
          · refine ⟨(nI i, nI (i + 1), T2), ?_, rfl, g1.trans l1, g2.take (by omega) (key.mp y) hf⟩
            simp (disch := omega) only [q_lit, q_m1, q_m2, q_hid, q_add, q_mul, q_sub, q_le, q_lt, q_eq, q_mlt, q_mle, q_ltm, q_lem, q_meq, q_eqm, q_m2lt, q_m2le, q_ltm2, q_lem2, q_eqm2, q_mm2, q_m2m, q_mm, q_mnm, q_ix, q_inb, q_a0, q_a1, q_app, q_bind, if_true, if_false, if_pos, if_neg, e0, shN, ta, d1, bI_f, tt, d2, ef, x2, mA, sh, e2', l2a, y]
          · refine ⟨(v, nI (i + 1), T2), ?_, rfl, g1.trans l1, g2.keep (by omega) fun hj => absurd (key.mpr hj) y⟩
            have fb := (l2 a (by omega)).2
            simp (disch := omega) only [q_lit, q_m1, q_m2, q_hid, q_add, q_mul, q_sub, q_le, q_lt, q_eq, q_mlt, q_mle, q_ltm, q_lem, q_meq, q_eqm, q_m2lt, q_m2le, q_ltm2, q_lem2, q_eqm2, q_mm2, q_m2m, q_mm, q_mnm, q_ix, q_inb, q_a0, q_a1, q_app, q_bind, if_true, if_false, if_pos, if_neg, e0, shN, ta, d1, bI_f, tt, d2, ef, x2, mA, sh, e2', l2a, y]
        · refine ⟨(v, nI (i + 1), T1), ?_, rfl, g1, g2.keep (by omega) fun _ => hf⟩
          simp (disch := omega) only [q_lit, q_m1, q_m2, q_hid, q_add, q_mul, q_sub, q_le, q_lt, q_eq, q_mlt, q_mle, q_ltm, q_lem, q_meq, q_eqm, q_m2lt, q_m2le, q_ltm2, q_lem2, q_eqm2, q_mm2, q_m2m, q_mm, q_mnm, q_ix, q_inb, q_a0, q_a1, q_app, q_bind, if_true, if_false, if_pos, if_neg, e0, shN, ta, d1, bI_f, tt, d2, ef]
  · obtain ⟨v, q2, T1⟩ := q
    obtain ⟨rfl, g1, g2⟩ := hq
    have hT1 := hV T1 g1
    have e0 : gi T1 68 0 = nI N := hT1.1
    refine ⟨(v, T1), ?_, g1, g2⟩
    unfold Md_posts_L21
    simp (disch := omega) only [q_lit, q_m1, q_m2, q_hid, q_add, q_mul, q_sub, q_le, q_lt, q_eq, q_mlt, q_mle, q_ltm, q_lem, q_meq, q_eqm, q_m2lt, q_m2le, q_ltm2, q_lem2, q_eqm2, q_mm2, q_m2m, q_mm, q_mnm, q_ix, q_inb, q_a0, q_a1, q_app, q_bind, if_true, if_false, if_pos, if_neg, e0, shN, Nat.le_refl]
theorem op_posts (h : RelP N K F R U X w T S) (v1 v2 : Int32) : ∃ q p, Dk_posts v1 v2 S = some q ∧ Md_posts v1 v2 T = some p ∧ q.1 = p.1 ∧ SamS S q.2 ∧ SamT T p.2 := by
  unfold Dk_posts Md_posts Dk_posts_27 Md_posts_14
  rcases mouthsC h.1 v1 v2 with ⟨a, b⟩ | ⟨m, g, hm, hg, rfl, rfl, a, b, c⟩
  · refine ⟨(mI, S), (mI, T), ?_, ?_, rfl, SamS.rfl S, SamT.rfl T⟩
    · rcases a with a | ⟨a, a'⟩
      · rw [a]; rfl
      · rw [a, a']; rfl
    · rw [b]; rfl
  · have hN := pos_of hm
    have t1 : ¬ nI 1 = 0 := by decide
    have h8 := h.1.2.2.2.2.2.2.1
    rw [a, b, c, if_neg t1, if_neg t1, if_neg t1]
    by_cases y : m = g
    · subst y
      rw [if_pos rfl, if_pos rfl]
      exact ⟨(mI, S), (mI, T), rfl, rfl, rfl, SamS.rfl S, SamT.rfl T⟩
    · have y' : ¬ nI m = nI g := fun e => y ((q_eq (by omega) (by omega)).mp e)
      rw [if_neg y', if_neg y']
      obtain ⟨hP, -, -⟩ := way_of h hN
      obtain ⟨hW, hV, hC, hcS, hcT⟩ := hours_S h hN
      obtain ⟨x, P, x1, x2, hx⟩ := both_guarded h
      obtain ⟨S2, e1, k1, k2⟩ := wy_nexts hP hW (fun S1 g1 => n_all (h.same g1 (SamT.rfl T)).1)
      obtain ⟨r, e2, v, ev, hv⟩ := wy_fp hP (hW S2 k1) k2 hx hm hg
      obtain ⟨u, e3, l1, hu⟩ := md_po h x1 hx hm hg y
      refine ⟨(v, S2), (v, u.2), ?_, ?_, rfl, k1, l1⟩
      · unfold Wy_fewestPosts
        rw [x1]
        show (((Wy_fillNexts S).bind _).bind _) = _
        rw [e1]
        show (((lpN (Wy_fewestPosts_L21 (nI m) (nI g) x (iShl (nI 1) (nI m) ||| iShl (nI 1) (nI g)) S2) FU (nI 0)).bind _).bind _) = _
        rw [q_shl (by omega), q_shl (by omega), e2, ← ev]
        cases r <;> rfl
      · show ((lpN (Md_posts_L21 (nI m) (nI g)) FU (mI, nI 0, T)).bind _) = _
        rw [e3, hv.uniq hu]; rfl
end PP
