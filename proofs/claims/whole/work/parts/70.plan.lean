/-! ===== timetables: the least delay ===== -/
def tbB (p : Nat → Bool) (n : Nat) : Nat := fld (fun e x => if p e = true then x ||| 2 ^ e else x) n 0
theorem tbB_lt (p : Nat → Bool) : ∀ n, tbB p n < 2 ^ n
  | 0 => by show 0 < 2 ^ 0; omega
  | n + 1 => by
    have h := tbB_lt p n
    have h2 : 2 ^ n < 2 ^ (n + 1) := bit_lt (by omega)
    show (if p n = true then tbB p n ||| 2 ^ n else tbB p n) < 2 ^ (n + 1)
    split
    · exact mask_lt (by omega) h2
    · omega
theorem tbB_t (p : Nat → Bool) (e : Nat) : ∀ n, (tbB p n).testBit e = (decide (e < n) && p e)
  | 0 => by show (0 : Nat).testBit e = _; rw [Nat.zero_testBit]; rfl
  | n + 1 => by
    show (if p n = true then tbB p n ||| 2 ^ n else tbB p n).testBit e = _
    by_cases c : p n = true
    · rw [if_pos c, Nat.testBit_or, tbB_t p e n, tb_pow]
      by_cases x : n = e
      · subst x
        rw [c, decide_eq_true (Nat.lt_succ_self n), decide_eq_true (rfl : n = n), Bool.or_true]; rfl
      · rw [decide_eq_false x, Bool.or_false]
        by_cases y : e < n
        · rw [decide_eq_true y, decide_eq_true (show e < n + 1 by omega)]
        · rw [decide_eq_false y, decide_eq_false (show ¬ e < n + 1 by omega)]
    · rw [if_neg c, tbB_t p e n]
      by_cases x : n = e
      · subst x
        have c0 : p n = false := Bool.eq_false_iff.mpr c
        rw [c0, Bool.and_false, Bool.and_false]
      · by_cases y : e < n
        · rw [decide_eq_true y, decide_eq_true (show e < n + 1 by omega)]
        · rw [decide_eq_false y, decide_eq_false (show ¬ e < n + 1 by omega)]
def tbE (T : Sm) (F a c e : Nat) : Bool := decide (0 < tbK T F a c e)
def tbZ (T : Sm) (F : Nat) (ds : Nat → Nat) (v d : Nat) : Bool := (List.range v).all fun o => decide (tbK T F o v (ds o + 4 - d) = 0)
theorem tbZ_t {T : Sm} {F : Nat} {ds : Nat → Nat} {v d : Nat} : tbZ T F ds v d = true ↔ ∀ o, o < v → tbK T F o v (ds o + 4 - d) = 0 := by
  unfold tbZ
  rw [List.all_eq_true]
  exact ⟨fun h o ho => of_decide_eq_true (h o (List.mem_range.mpr ho)), fun h o ho => decide_eq_true (h o (List.mem_range.mp ho))⟩
def tbU (x : Nat) : Option (Nat × Nat) → Bool
  | none => true
  | some s => decide (x < s.1)
def tbP (T : Sm) (F R : Nat) : Nat → Nat → (Nat → Nat) → Nat → Nat → Option (Nat × Nat) → Option (Nat × Nat)
  | 0, _, _, _, _, st => st
  | k + 1, v, ds, sum, dg, st => if v = R then some (sum, dg) else fld (fun d st => if tbU (sum + d) st = true ∧ tbZ T F ds v d = true then tbP T F R k (v + 1) (fun o => if o = v then d else ds o) (sum + d) (dg * 10 + d) st else st) 5 st
def TbO (st : Option (Nat × Nat)) : Prop := ∀ s, st = some s → s.1 ≤ 24 ∧ s.2 < 1000000
def TbX (st : Option (Nat × Nat)) (S : Sm) : Prop := (st = none → gi S 47 7 = nI 1000 ∧ gi S 47 8 = mI) ∧ ∀ s, st = some s → gi S 47 7 = nI s.1 ∧ gi S 47 8 = nI s.2
def TbY (st : Option (Nat × Nat)) (T : Sm) : Prop := (st = none → gi T 53 43 = mI) ∧ ∀ s, st = some s → gi T 53 43 = nI s.1 ∧ gi T 53 44 = nI s.2
theorem tbP_o {T : Sm} {F R : Nat} (h6 : R ≤ 6) : ∀ k v ds sum dg st, v ≤ R → sum ≤ 4 * v → dg < 10 ^ v → TbO st → TbO (tbP T F R k v ds sum dg st)
  | 0, _, _, _, _, _, _, _, _, h => h
  | k + 1, v, ds, sum, dg, st, hv, hs, hd, h => by
    unfold tbP
    by_cases c : v = R
    · rw [if_pos c]
      intro s e
      cases e
      have : 10 ^ v ≤ 10 ^ 6 := Nat.pow_le_pow_right (by decide) (by omega)
      exact ⟨(by omega : sum ≤ 24), (by omega : dg < 1000000)⟩
    · rw [if_neg c]
      refine fld_ind (fun _ st => TbO st) h (fun d y hd5 hy => ?_) 5 (Nat.le_refl _)
      split
      · exact tbP_o h6 k (v + 1) _ _ _ y (by omega) (by omega) (by rw [Nat.pow_succ]; omega) hy
      · exact hy
theorem i4_sub {p q : Nat} (h : q ≤ p + 4) : nI p - nI q + nI 4 = nI (p + 4 - q) := by
  rw [← q_sub h, ← q_add, Int32.sub_eq_add_neg, Int32.sub_eq_add_neg, Int32.add_assoc, Int32.add_assoc, Int32.add_comm (-nI q)]
theorem i4_eq {p q d : Nat} (hp : p ≤ 200) (hq : q ≤ 200) (hd : d ≤ 200) : nI p + (nI d - nI 4) = nI q ↔ p + d = q + 4 := by
  rw [← q_eq (a := p + d) (b := q + 4) (by omega) (by omega), ← q_add, ← q_add]
  constructor
  · intro e
    rw [← e, Int32.add_assoc, Int32.sub_add_cancel]
  · intro e
    rw [Int32.sub_eq_add_neg, ← Int32.add_assoc, e, ← Int32.sub_eq_add_neg, Int32.add_sub_cancel]
theorem i4_lt : ∀ d, d < 10 → ((4 : Int32) < nI d - nI 4 ↔ d = 9) := by decide
section TB
variable {N K F R w : Nat} {U : List Nat} {X : List (List Cl)} {T S : Sm}
theorem pl_fc (h : RelP N K F R U X w T S) (hN : 0 < N) {S1 : Sm} (g : SamS S S1) (b : TbS T F R S1) : ∃ S2, Pl_fillClashing S1 = some S2 ∧ SamS S S2 ∧ ∀ a c, a < c → c < R → gi S2 51 (6 * a + c) = nI (tbB (tbE T F a c) 9) := by
  have h6 : R ≤ 6 := h.2.1.1
  have bits : ∀ S2, TbS T F R S2 → ∀ a c, a < R → c < R → lpN (Pl_fillClashing_L28 (nI a) (nI c) S2) FU (0, -4) = some (nI (tbB (tbE T F a c) 9)) := fun S2 b a c ha hc => by
    suffices hl : ∃ r, lpN (Pl_fillClashing_L28 (nI a) (nI c) S2) FU (0, -4) = some r ∧ r = nI (tbB (tbE T F a c) 9) by
      obtain ⟨r, e, rfl⟩ := hl
      exact e
    refine lp_inv (fun d (q : Int32 × Int32) => q = (nI (tbB (tbE T F a c) d), nI d - nI 4)) 9 (by omega) rfl (fun d q hd hq => ?_) (fun q hq => ?_)
    · subst hq
      have e := pl_co h hN b ha hc (d := d) (v := nI d - nI 4) fun p q hp hq => i4_eq hp hq (by omega)
      have kb : tbK T F a c d ≤ 9 := tbK_le T F a c d 3
      have n4 : ¬ (4 : Int32) < nI d - nI 4 := fun z => absurd ((i4_lt d (by omega)).mp z) (by omega)
      have e2 : nI d - nI 4 + 1 = nI (d + 1) - nI 4 := by
        rw [← q_add, Int32.sub_eq_add_neg, Int32.sub_eq_add_neg, Int32.add_assoc, Int32.add_assoc, Int32.add_comm (-nI 4)]; rfl
      have e3 : nI d - nI 4 + 4 = nI d := by
        show nI d - nI 4 + nI 4 = nI d
        rw [Int32.sub_add_cancel]
      refine Or.inl ⟨(nI (tbB (tbE T F a c) (d + 1)), nI (d + 1) - nI 4), ?_, rfl⟩
      show _ = some (Sum.inl (nI (if tbE T F a c d = true then tbB (tbE T F a c) d ||| 2 ^ d else tbB (tbE T F a c) d), _))
      generalize tbB (tbE T F a c) d = z
      unfold Pl_fillClashing_L28 Pl_fillClashing_56_L28 tbE
      rw [if_neg n4, e, q_bind, e2, e3]
      by_cases y : 0 < tbK T F a c d
      · rw [if_neg (show ¬ nI (tbK T F a c d) ≤ 0 from fun t => by have := (q_le (b := 0) (by omega) (by omega)).mp t; omega), if_pos (decide_eq_true y)]
        show some (Sum.inl (nI z ||| iShl 1 (nI d), _)) = _
        rw [show (1 : Int32) = nI 1 from rfl, q_shl (by omega), q_or]
      · rw [if_pos (show nI (tbK T F a c d) ≤ 0 from (q_le (b := 0) (by omega) (by omega)).mpr (by omega)), if_neg (fun t => y (of_decide_eq_true t))]
        show some (Sum.inl (nI z ||| nI 0, _)) = _
        rw [q_or, Nat.or_zero]
    · subst hq
      refine ⟨_, ?_, rfl⟩
      unfold Pl_fillClashing_L28
      rw [if_pos (show (4 : Int32) < nI 9 - nI 4 by decide)]
  suffices hl : ∃ q, lpN Pl_fillClashing_L2 FU (0, S1) = some q ∧ SamS S q ∧ ∀ a c, a < c → c < R → gi q 51 (6 * a + c) = nI (tbB (tbE T F a c) 9) by
    obtain ⟨q, e, k⟩ := hl
    refine ⟨q, ?_, k⟩
    unfold Pl_fillClashing
    rw [e]; rfl
  refine lp_inv (fun i (q : Int32 × Sm) => q.1 = nI i ∧ SamS S q.2 ∧ TbS T F R q.2 ∧ ∀ a c, a < i → a < c → c < R → gi q.2 51 (6 * a + c) = nI (tbB (tbE T F a c) 9)) R (by omega) ⟨rfl, g, b, fun a c z => absurd z (by omega)⟩ (fun i q hi hq => ?_) (fun q hq => ?_)
  · obtain ⟨k', S2⟩ := q
    obtain ⟨(e4 : k' = _), (k1 : SamS S S2), (k2 : TbS T F R S2), k3⟩ := hq
    subst e4
    have k3 : ∀ a c, a < i → a < c → c < R → gi S2 51 (6 * a + c) = nI (tbB (tbE T F a c) 9) := k3
    suffices hl : ∃ q, lpN (Pl_fillClashing_L14 (nI i)) FU (nI (i + 1), S2) = some q ∧ SamS S q ∧ TbS T F R q ∧ ∀ a c, a < i + 1 → a < c → c < R → gi q 51 (6 * a + c) = nI (tbB (tbE T F a c) 9) by
      obtain ⟨S3, e, k⟩ := hl
      refine Or.inl ⟨(nI (i + 1), S3), ?_, rfl, k⟩
      unfold Pl_fillClashing_L2
      simp (disch := omega) only [q_lit, q_m1, q_m2, q_hid, q_add, q_mul, q_sub, q_le, q_lt, q_eq, q_mlt, q_mle, q_ltm, q_lem, q_meq, q_eqm, q_m2lt, q_m2le, q_ltm2, q_lem2, q_eqm2, q_mm2, q_m2m, q_mm, q_mnm, q_ix, q_inb, q_a0, q_a1, q_app, q_bind, if_true, if_false, if_pos, if_neg, pl_n h k1, e]
    refine lp_inv (fun t (q : Int32 × Sm) => q.1 = nI (i + 1 + t) ∧ SamS S q.2 ∧ TbS T F R q.2 ∧ ∀ a c, (a < i ∨ a = i ∧ c < i + 1 + t) → a < c → c < R → gi q.2 51 (6 * a + c) = nI (tbB (tbE T F a c) 9)) (R - 1 - i) (by omega) ⟨rfl, k1, k2, fun a c z hc hR => ?_⟩ (fun t q ht hq => ?_) (fun q hq => ?_)
    · rcases z with z | ⟨z, z2⟩
      · exact k3 a c z hc hR
      · omega
    · obtain ⟨k', S3⟩ := q
      obtain ⟨(e4 : k' = _), (k1 : SamS S S3), (k2 : TbS T F R S3), k3⟩ := hq
      subst e4
      have k3 : ∀ a c, (a < i ∨ a = i ∧ c < i + 1 + t) → a < c → c < R → gi S3 51 (6 * a + c) = nI (tbB (tbE T F a c) 9) := k3
      have e := bits S3 k2 i (i + 1 + t) hi (by omega)
      have e' : lpN (Pl_fillClashing_L28 (nI i) (nI (i + 1 + t)) S3) FU (nI 0, -nI 4) = some (nI (tbB (tbE T F i (i + 1 + t)) 9)) := e
      refine Or.inl ⟨(nI (i + 1 + (t + 1)), si S3 51 (i * 6 + (i + 1 + t)) (nI (tbB (tbE T F i (i + 1 + t)) 9))), ?_, rfl, k1.si rfl, fun r hr => ?_, fun a c z hc hR => ?_⟩
      · have e2 : lpN (Pl_fillClashing_L28 (nI i) (nI (i + (1 + t))) S3) FU (nI 0, -nI 4) = some (nI (tbB (tbE T F i (i + (1 + t))) 9)) := by rw [← Nat.add_assoc]; exact e'
        unfold Pl_fillClashing_L14
        simp (disch := omega) only [q_lit, q_m1, q_m2, q_hid, q_add, q_mul, q_sub, q_le, q_lt, q_eq, q_mlt, q_mle, q_ltm, q_lem, q_meq, q_eqm, q_m2lt, q_m2le, q_ltm2, q_lem2, q_eqm2, q_mm2, q_m2m, q_mm, q_mnm, q_ix, q_inb, q_a0, q_a1, q_app, q_bind, if_true, if_false, if_pos, if_neg, pl_n h k1, e2, q_pu, Nat.add_assoc]
      · show gi (si S3 51 _ _) 48 r = _ ∧ ∀ i, i < _ → gi (si S3 51 _ _) 49 _ = _ ∧ gi (si S3 51 _ _) 50 _ = _
        obtain ⟨x1, x2⟩ := k2 r hr
        rw [tb_n (fun e => absurd e.1 (by decide))]
        refine ⟨x1, fun i hi => ?_⟩
        rw [tb_n (fun e => absurd e.1 (by decide)), tb_n (fun e => absurd e.1 (by decide))]
        exact x2 i hi
      · show gi (si S3 51 _ _) 51 _ = _
        by_cases y : a = i ∧ c = i + 1 + t
        · obtain ⟨rfl, rfl⟩ := y
          rw [Nat.mul_comm a 6, tb_h]
        · rw [tb_n (fun e => by omega)]
          exact k3 a c (by omega) hc hR
    · obtain ⟨k', S3⟩ := q
      obtain ⟨(e4 : k' = _), (k1 : SamS S S3), (k2 : TbS T F R S3), k3⟩ := hq
      subst e4
      refine ⟨S3, ?_, k1, k2, fun a c z hc hR => k3 a c (by omega) hc hR⟩
      unfold Pl_fillClashing_L14
      simp (disch := omega) only [q_lit, q_m1, q_m2, q_hid, q_add, q_mul, q_sub, q_le, q_lt, q_eq, q_mlt, q_mle, q_ltm, q_lem, q_meq, q_eqm, q_m2lt, q_m2le, q_ltm2, q_lem2, q_eqm2, q_mm2, q_m2m, q_mm, q_mnm, q_ix, q_inb, q_a0, q_a1, q_app, q_bind, if_true, if_false, if_pos, if_neg, pl_n h k1]
  · obtain ⟨k', S3⟩ := q
    obtain ⟨(e4 : k' = _), (k1 : SamS S S3), (k2 : TbS T F R S3), k3⟩ := hq
    subst e4
    refine ⟨S3, ?_, k1, fun a c hc hR => k3 a c (by omega) hc hR⟩
    unfold Pl_fillClashing_L2
    simp (disch := omega) only [q_lit, q_m1, q_m2, q_hid, q_add, q_mul, q_sub, q_le, q_lt, q_eq, q_mlt, q_mle, q_ltm, q_lem, q_meq, q_eqm, q_m2lt, q_m2le, q_ltm2, q_lem2, q_eqm2, q_mm2, q_m2m, q_mm, q_mnm, q_ix, q_inb, q_a0, q_a1, q_app, q_bind, if_true, if_false, if_pos, if_neg, pl_n h k1, Nat.le_refl]
theorem pl_fi (h6 : R ≤ 6) {S1 : Sm} (b : ∀ a c, a < c → c < R → gi S1 51 (6 * a + c) = nI (tbB (tbE T F a c) 9)) {v d : Nat} {ds : Nat → Nat} (hv : v < R) (hd : d ≤ 4) (hs : ∀ o, o < v → gi S1 52 o = nI (ds o) ∧ ds o ≤ 4) : Pl_fits (nI v) (nI d) S1 = some (bI (tbZ T F ds v d)) := by
  suffices hl : ∃ r, lpN (Pl_fits_L2 (nI v) (nI d) S1) FU 0 = some r ∧ ((r = .inl () ∧ tbZ T F ds v d = false) ∨ (r = .inr () ∧ tbZ T F ds v d = true)) by
    obtain ⟨r, e, ⟨rfl, e2⟩ | ⟨rfl, e2⟩⟩ := hl
    · unfold Pl_fits
      rw [e, e2]; rfl
    · unfold Pl_fits
      rw [e, e2]; rfl
  refine lp_inv (fun o (q : Int32) => q = nI o ∧ ∀ i, i < o → tbK T F i v (ds i + 4 - d) = 0) v (by omega) ⟨rfl, fun i z => absurd z (by omega)⟩ (fun o q ho hq => ?_) (fun q hq => ?_)
  · obtain ⟨rfl, hq⟩ := hq
    obtain ⟨s1, s2⟩ := hs o ho
    have b1 := b o v ho hv
    rw [Nat.mul_comm 6 o] at b1
    have lt := tbB_lt (tbE T F o v) 9
    have lt2 : tbB (tbE T F o v) 9 < 512 := lt
    have tt := tbB_t (tbE T F o v) (ds o + 4 - d) 9
    have hh := q_holds (a := tbB (tbE T F o v) 9) (i := ds o + 4 - d) (by omega) (by omega)
    have i4 := i4_sub (p := ds o) (q := d) (by omega)
    rw [tt, decide_eq_true (show ds o + 4 - d < 9 by omega), Bool.true_and] at hh
    by_cases y : tbK T F o v (ds o + 4 - d) = 0
    · have e0 : tbE T F o v (ds o + 4 - d) = false := decide_eq_false (by omega)
      rw [e0, bI_f] at hh
      refine Or.inl ⟨nI (o + 1), ?_, rfl, fun i hi => ?_⟩
      · unfold Pl_fits_L2
        simp (disch := omega) only [q_lit, q_m1, q_m2, q_hid, q_add, q_mul, q_sub, q_le, q_lt, q_eq, q_mlt, q_mle, q_ltm, q_lem, q_meq, q_eqm, q_m2lt, q_m2le, q_ltm2, q_lem2, q_eqm2, q_mm2, q_m2m, q_mm, q_mnm, q_ix, q_inb, q_a0, q_a1, q_app, q_bind, if_true, if_false, if_pos, if_neg, q_at, b1, s1, i4, hh]
      · by_cases z : i = o
        · rw [z]; exact y
        · exact hq i (by omega)
    · have e0 : tbE T F o v (ds o + 4 - d) = true := decide_eq_true (by omega)
      rw [e0, bI_t] at hh
      refine Or.inr ⟨.inl (), ?_, Or.inl ⟨rfl, ?_⟩⟩
      · unfold Pl_fits_L2
        simp (disch := omega) only [q_lit, q_m1, q_m2, q_hid, q_add, q_mul, q_sub, q_le, q_lt, q_eq, q_mlt, q_mle, q_ltm, q_lem, q_meq, q_eqm, q_m2lt, q_m2le, q_ltm2, q_lem2, q_eqm2, q_mm2, q_m2m, q_mm, q_mnm, q_ix, q_inb, q_a0, q_a1, q_app, q_bind, if_true, if_false, if_pos, if_neg, q_at, b1, s1, i4, hh]
      · rw [Bool.eq_false_iff]
        exact fun z => y (tbZ_t.mp z o ho)
  · obtain ⟨rfl, hq⟩ := hq
    refine ⟨.inr (), ?_, Or.inr ⟨rfl, tbZ_t.mpr hq⟩⟩
    unfold Pl_fits_L2
    simp (disch := omega) only [q_lit, q_m1, q_m2, q_hid, q_add, q_mul, q_sub, q_le, q_lt, q_eq, q_mlt, q_mle, q_ltm, q_lem, q_meq, q_eqm, q_m2lt, q_m2le, q_ltm2, q_lem2, q_eqm2, q_mm2, q_m2m, q_mm, q_mnm, q_ix, q_inb, q_a0, q_a1, q_app, q_bind, if_true, if_false, if_pos, if_neg, Nat.le_refl]
theorem pl_pl (h : RelP N K F R U X w T S) : ∀ k v ds sum dg st S1, R + 1 ≤ v + k → v ≤ R → sum ≤ 4 * v → dg < 10 ^ v → tbU sum st = true → TbO st → SamS S S1 → (∀ a c, a < c → c < R → gi S1 51 (6 * a + c) = nI (tbB (tbE T F a c) 9)) → (∀ o, o < v → gi S1 52 o = nI (ds o) ∧ ds o ≤ 4) → TbX st S1 → ∃ S2, fPl k 0 (nI v) (nI sum) (nI dg) S1 = some S2 ∧ SamS S S2 ∧ gi S2 51 = gi S1 51 ∧ (∀ o, o < v → gi S2 52 o = gi S1 52 o) ∧ TbX (tbP T F R k v ds sum dg st) S2
  | 0, v, _, _, _, _, _, h1, h2, _, _, _, _, _, _, _, _ => absurd h1 (by omega)
  | k + 1, v, ds, sum, dg, st, S1, hk, hv, hs, hg, hu, ho, g, b, hd, hx => by
    have h6 : R ≤ 6 := h.2.1.1
    have p6 : 10 ^ v ≤ 10 ^ 6 := Nat.pow_le_pow_right (by decide) (by omega)
    have dg6 : dg < 1000000 := by omega
    unfold tbP
    show ∃ S2, Pl_place (fPl k) (nI v) (nI sum) (nI dg) S1 = some S2 ∧ _
    unfold Pl_place Pl_place_14
    rw [pl_n h g]
    by_cases c : v = R
    · rw [if_pos c]
      refine ⟨si (si S1 47 7 (nI sum)) 47 8 (nI dg), ?_, (g.si rfl).si rfl, rfl, fun o _ => rfl, fun e => (by cases e), fun s e => ?_⟩
      · rw [if_neg (show ¬ nI v < nI R from fun z => by have := (q_lt (by omega) (by omega)).mp z; omega)]
        split <;> rfl
      · cases e
        exact ⟨rfl, rfl⟩
    · rw [if_neg c, if_neg (show ¬ (6 : Int32) ≤ nI v from fun z => by have := (q_le (a := 6) (by omega) (by omega)).mp z; omega), if_pos ((q_lt (by omega) (by omega)).mpr (by omega))]
      suffices hl : ∃ S2, lpN (Pl_place_L28 (fPl k) (nI v) (nI sum) (nI dg)) FU (0, S1) = some S2 ∧ SamS S S2 ∧ gi S2 51 = gi S1 51 ∧ (∀ o, o < v → gi S2 52 o = gi S1 52 o) ∧ TbX (fld (fun d st => if tbU (sum + d) st = true ∧ tbZ T F ds v d = true then tbP T F R k (v + 1) (fun o => if o = v then d else ds o) (sum + d) (dg * 10 + d) st else st) 5 st) S2 by
        obtain ⟨S2, e, k⟩ := hl
        refine ⟨S2, ?_, k⟩
        rw [e]; rfl
      refine lp_inv (fun d (q : Int32 × Sm) => q.1 = nI d ∧ SamS S q.2 ∧ gi q.2 51 = gi S1 51 ∧ (∀ o, o < v → gi q.2 52 o = gi S1 52 o) ∧ TbX (fld (fun d st => if tbU (sum + d) st = true ∧ tbZ T F ds v d = true then tbP T F R k (v + 1) (fun o => if o = v then d else ds o) (sum + d) (dg * 10 + d) st else st) d st) q.2 ∧ TbO (fld (fun d st => if tbU (sum + d) st = true ∧ tbZ T F ds v d = true then tbP T F R k (v + 1) (fun o => if o = v then d else ds o) (sum + d) (dg * 10 + d) st else st) d st)) 5 (by omega) ⟨rfl, g, rfl, fun _ _ => rfl, hx, ho⟩ (fun d q hd5 hq => ?_) (fun q hq => ?_)
      · obtain ⟨k', S2⟩ := q
        obtain ⟨(e4 : k' = _), (k1 : SamS S S2), (k2 : gi S2 51 = gi S1 51), k3, k4, k5⟩ := hq
        subst e4
        have k3 : ∀ o, o < v → gi S2 52 o = gi S1 52 o := k3
        have ff := fld_fix (f := fun d st => if tbU (sum + d) st = true ∧ tbZ T F ds v d = true then tbP T F R k (v + 1) (fun o => if o = v then d else ds o) (sum + d) (dg * 10 + d) st else st) (n := d) (x := st)
        have fs : fld (fun d st => if tbU (sum + d) st = true ∧ tbZ T F ds v d = true then tbP T F R k (v + 1) (fun o => if o = v then d else ds o) (sum + d) (dg * 10 + d) st else st) (d + 1) st = (fun y => if tbU (sum + d) y = true ∧ tbZ T F ds v d = true then tbP T F R k (v + 1) (fun o => if o = v then d else ds o) (sum + d) (dg * 10 + d) y else y) (fld (fun d st => if tbU (sum + d) st = true ∧ tbZ T F ds v d = true then tbP T F R k (v + 1) (fun o => if o = v then d else ds o) (sum + d) (dg * 10 + d) st else st) d st) := rfl
        have k4 : TbX (fld (fun d st => if tbU (sum + d) st = true ∧ tbZ T F ds v d = true then tbP T F R k (v + 1) (fun o => if o = v then d else ds o) (sum + d) (dg * 10 + d) st else st) d st) S2 := k4
        rw [fs]
        generalize fld (fun d st => if tbU (sum + d) st = true ∧ tbZ T F ds v d = true then tbP T F R k (v + 1) (fun o => if o = v then d else ds o) (sum + d) (dg * 10 + d) st else st) d st = y at k4 k5 ff ⊢
        have lim : (gi S2 47 7 ≤ nI (sum + d) ↔ ¬ tbU (sum + d) y = true) := by
          cases y with
          | none =>
            rw [(k4.1 rfl).1, q_le (by omega) (by omega)]
            exact ⟨fun z => absurd z (by omega), fun z => absurd rfl z⟩
          | some s =>
            have := (k5 s rfl).1
            rw [(k4.2 s rfl).1, q_le (by omega) (by omega)]
            show _ ↔ ¬ decide (sum + d < s.1) = true
            rw [decide_eq_true_eq]
            omega
        by_cases z : tbU (sum + d) y = true
        · have l1 : ¬ gi S2 47 7 ≤ nI sum + nI d := by rw [q_add]; exact fun t => lim.mp t z
          have n4 : ¬ (4 : Int32) < nI d := fun t => by have := (q_lt (a := 4) (by omega) (by omega)).mp t; omega
          have b2 : ∀ a c, a < c → c < R → gi S2 51 (6 * a + c) = nI (tbB (tbE T F a c) 9) := fun a c h1 h2 => (congrFun k2 _).trans (b a c h1 h2)
          have d2 : ∀ o, o < v → gi S2 52 o = nI (ds o) ∧ ds o ≤ 4 := fun o ho => ⟨(k3 o ho).trans (hd o ho).1, (hd o ho).2⟩
          have fi := pl_fi h6 b2 (v := v) (d := d) (by omega) (by omega) d2
          by_cases f : tbZ T F ds v d = true
          · rw [f, bI_t] at fi
            have g3 : SamS S (si S2 52 v (nI d)) := k1.si rfl
            obtain ⟨S3, r1, r2, r3, r4, r5⟩ := pl_pl h k (v + 1) (fun o => if o = v then d else ds o) (sum + d) (dg * 10 + d) y (si S2 52 v (nI d)) (by omega) (by omega) (by omega) (by rw [Nat.pow_succ]; omega) z k5 g3 (fun a c h1 h2 => b2 a c h1 h2) (fun o ho => by
              by_cases x : o = v
              · rw [x, tb_h, if_pos rfl]; exact ⟨rfl, by omega⟩
              · rw [tb_n (fun e => x e.2), if_neg x]; exact d2 o (by omega)) k4
            refine Or.inl ⟨(nI (d + 1), S3), ?_, rfl, r2, r3.trans k2, fun o ho => ?_, ?_, ?_⟩
            · unfold Pl_place_L28 Pl_place_83_L28
              have ev : (nI v + 1) = nI (v + 1) := q_add v 1
              have es : nI sum + nI d = nI (sum + d) := q_add _ _
              have eg : nI dg * 10 + nI d = nI (dg * 10 + d) := by rw [show (10 : Int32) = nI 10 from rfl, q_mul, q_add]
              show (if (4 : Int32) < nI d then _ else if gi S2 47 7 ≤ nI sum + nI d then _ else _) = _
              rw [if_neg n4, if_neg l1, fi, q_bind, if_neg (show ¬ nI 1 = 0 by decide), q_pu (by omega) (by omega), q_app, ev, es, eg, r1, q_bind]
              show some (Sum.inl (nI d + 1, S3)) = _
              rw [show nI d + 1 = nI (d + 1) from q_add d 1]
            · show gi S3 52 o = _
              rw [r4 o (by omega), tb_n (fun e => by omega)]
              exact k3 o ho
            · show TbX (if tbU (sum + d) y = true ∧ tbZ T F ds v d = true then tbP T F R k (v + 1) (fun o => if o = v then d else ds o) (sum + d) (dg * 10 + d) y else y) S3
              rw [if_pos ⟨z, f⟩]; exact r5
            · show TbO (if tbU (sum + d) y = true ∧ tbZ T F ds v d = true then tbP T F R k (v + 1) (fun o => if o = v then d else ds o) (sum + d) (dg * 10 + d) y else y)
              rw [if_pos ⟨z, f⟩]; exact tbP_o h6 k (v + 1) _ _ _ y (by omega) (by omega) (by rw [Nat.pow_succ]; omega) k5
          · have f0 : tbZ T F ds v d = false := Bool.eq_false_iff.mpr f
            rw [f0, bI_f] at fi
            refine Or.inl ⟨(nI (d + 1), S2), ?_, rfl, k1, k2, k3, ?_, ?_⟩
            · unfold Pl_place_L28 Pl_place_83_L28
              show (if (4 : Int32) < nI d then _ else if gi S2 47 7 ≤ nI sum + nI d then _ else _) = _
              rw [if_neg n4, if_neg l1, fi, q_bind, if_pos (show nI 0 = 0 from rfl)]
              show some (Sum.inl (nI d + 1, S2)) = _
              rw [show nI d + 1 = nI (d + 1) from q_add d 1]
            · show TbX (if tbU (sum + d) y = true ∧ tbZ T F ds v d = true then tbP T F R k (v + 1) (fun o => if o = v then d else ds o) (sum + d) (dg * 10 + d) y else y) S2
              rw [if_neg (fun e => f e.2)]; exact k4
            · show TbO (if tbU (sum + d) y = true ∧ tbZ T F ds v d = true then tbP T F R k (v + 1) (fun o => if o = v then d else ds o) (sum + d) (dg * 10 + d) y else y)
              rw [if_neg (fun e => f e.2)]; exact k5
        · have n4 : ¬ (4 : Int32) < nI d := fun t => by have := (q_lt (a := 4) (by omega) (by omega)).mp t; omega
          refine Or.inr ⟨S2, ?_, k1, k2, k3, ?_⟩
          · unfold Pl_place_L28
            show (if (4 : Int32) < nI d then _ else if gi S2 47 7 ≤ nI sum + nI d then _ else _) = _
            rw [if_neg n4, q_add, if_pos (lim.mpr z)]
          · have := ff (fun i hi => if_neg fun e => by
              refine z ?_
              have e1 := e.1
              cases y with
              | none => rfl
              | some s => exact decide_eq_true (Nat.lt_of_le_of_lt (by omega) (of_decide_eq_true e1))) (5 - d)
            rw [show d + (5 - d) = 5 by omega] at this
            rw [this]; exact k4
      · obtain ⟨k', S2⟩ := q
        obtain ⟨(e4 : k' = _), (k1 : SamS S S2), (k2 : gi S2 51 = gi S1 51), k3, k4, k5⟩ := hq
        subst e4
        refine ⟨S2, ?_, k1, k2, k3, k4⟩
        unfold Pl_place_L28
        rw [if_pos (show (4 : Int32) < nI 5 by decide)]
theorem md_tt (h : RelP N K F R U X w T S) (hN : 0 < N ∨ R = 0) : ∀ k v ds sum dg st T1, R + 1 ≤ v + k → v ≤ R → sum ≤ 4 * v → dg < 10 ^ v → TbO st → SamT T T1 → TbT T F (5 * R) T1 → (∀ o, o < v → gi T1 80 o = nI (ds o) ∧ ds o ≤ 4) → TbY st T1 → ∃ T2, fTt k 0 (nI v) (nI sum) (nI dg) T1 = some T2 ∧ SamT T T2 ∧ TbT T F (5 * R) T2 ∧ (∀ o, o < v → gi T2 80 o = gi T1 80 o) ∧ TbY (if tbU sum st = true then tbP T F R k v ds sum dg st else st) T2
  | 0, v, _, _, _, _, _, h1, h2, _, _, _, _, _, _, _ => absurd h1 (by omega)
  | k + 1, v, ds, sum, dg, st, T1, hk, hv, hs, hg, ho, g, b, hd, hy => by
    have h6 : R ≤ 6 := h.2.1.1
    have p6 : 10 ^ v ≤ 10 ^ 6 := Nat.pow_le_pow_right (by decide) (by omega)
    have dg6 : dg < 1000000 := by omega
    show ∃ T2, Md_tryTable (fTt k) (nI v) (nI sum) (nI dg) T1 = some T2 ∧ _
    by_cases u : tbU sum st = true
    · have en : Md_tryTable (fTt k) (nI v) (nI sum) (nI dg) T1 = Md_tryTable_17 (fTt k) (nI v) (nI sum) (nI dg) T1 := by
        unfold Md_tryTable
        cases st with
        | none => rw [if_pos (show gi T1 53 43 = -1 from hy.1 rfl)]
        | some s =>
          have s1 := (hy.2 s rfl).1
          have s2 := (ho s rfl).1
          rw [s1, if_neg (show ¬ nI s.1 = -1 from fun e => (q_eqm (by omega)).mp e), if_pos ((q_lt (by omega) (by omega)).mpr (of_decide_eq_true u))]
      rw [en, if_pos u]
      unfold Md_tryTable_17 tbP
      rw [md_n h g]
      by_cases c : v = R
      · rw [if_pos c, if_pos (congrArg nI c)]
        refine ⟨si (si T1 53 43 (nI sum)) 53 44 (nI dg), rfl, (g.si rfl).si rfl, b, fun o _ => rfl, fun e => (by cases e), fun s e => ?_⟩
        cases e
        exact ⟨rfl, rfl⟩
      · have hN' : 0 < N := hN.resolve_right (by omega)
        rw [if_neg c, if_neg (fun e => c ((q_eq (by omega) (by omega)).mp e))]
        suffices hl : ∃ T2, lpN (Md_tryTable_L39 (fTt k) (nI v) (nI sum) (nI dg)) FU (0, T1) = some T2 ∧ SamT T T2 ∧ TbT T F (5 * R) T2 ∧ (∀ o, o < v → gi T2 80 o = gi T1 80 o) ∧ TbY (fld (fun d st => if tbU (sum + d) st = true ∧ tbZ T F ds v d = true then tbP T F R k (v + 1) (fun o => if o = v then d else ds o) (sum + d) (dg * 10 + d) st else st) 5 st) T2 by
          obtain ⟨S2, e, k⟩ := hl
          refine ⟨S2, ?_, k⟩
          rw [e]; rfl
        refine lp_inv (fun d (q : Int32 × Sm) => q.1 = nI d ∧ SamT T q.2 ∧ TbT T F (5 * R) q.2 ∧ (∀ o, o < v → gi q.2 80 o = gi T1 80 o) ∧ TbY (fld (fun d st => if tbU (sum + d) st = true ∧ tbZ T F ds v d = true then tbP T F R k (v + 1) (fun o => if o = v then d else ds o) (sum + d) (dg * 10 + d) st else st) d st) q.2 ∧ TbO (fld (fun d st => if tbU (sum + d) st = true ∧ tbZ T F ds v d = true then tbP T F R k (v + 1) (fun o => if o = v then d else ds o) (sum + d) (dg * 10 + d) st else st) d st)) 5 (by omega) ⟨rfl, g, b, fun _ _ => rfl, hy, ho⟩ (fun d q hd5 hq => ?_) (fun q hq => ?_)
        · obtain ⟨k', T2⟩ := q
          obtain ⟨(e4 : k' = _), (k1 : SamT T T2), (k2 : TbT T F (5 * R) T2), k3, k4, k5⟩ := hq
          subst e4
          have k3 : ∀ o, o < v → gi T2 80 o = gi T1 80 o := k3
          have fs : fld (fun d st => if tbU (sum + d) st = true ∧ tbZ T F ds v d = true then tbP T F R k (v + 1) (fun o => if o = v then d else ds o) (sum + d) (dg * 10 + d) st else st) (d + 1) st = (fun y => if tbU (sum + d) y = true ∧ tbZ T F ds v d = true then tbP T F R k (v + 1) (fun o => if o = v then d else ds o) (sum + d) (dg * 10 + d) y else y) (fld (fun d st => if tbU (sum + d) st = true ∧ tbZ T F ds v d = true then tbP T F R k (v + 1) (fun o => if o = v then d else ds o) (sum + d) (dg * 10 + d) st else st) d st) := rfl
          have k4 : TbY (fld (fun d st => if tbU (sum + d) st = true ∧ tbZ T F ds v d = true then tbP T F R k (v + 1) (fun o => if o = v then d else ds o) (sum + d) (dg * 10 + d) st else st) d st) T2 := k4
          rw [fs]
          generalize fld (fun d st => if tbU (sum + d) st = true ∧ tbZ T F ds v d = true then tbP T F R k (v + 1) (fun o => if o = v then d else ds o) (sum + d) (dg * 10 + d) st else st) d st = y at k4 k5 ⊢
          have d2 : ∀ o, o < v → gi T2 80 o = nI (ds o) ∧ ds o ≤ 4 := fun o ho => ⟨(k3 o ho).trans (hd o ho).1, (hd o ho).2⟩
          have fi : ∃ r, lpN (Md_tryTable_L51 (fTt k) (nI v) (nI sum) (nI dg) (nI d) T2) FU (1, 0) = some r ∧ r = bI (tbZ T F ds v d) := by
            refine lp_inv (fun o (q : Int32 × Int32) => q.2 = nI o ∧ ((q.1 = nI 1 ∧ ∀ i, i < o → tbK T F i v (ds i + 4 - d) = 0) ∨ (q.1 = nI 0 ∧ tbZ T F ds v d = false))) v (by omega) ⟨rfl, Or.inl ⟨rfl, fun i z => absurd z (by omega)⟩⟩ (fun o q ho hq => ?_) (fun q hq => ?_)
            · obtain ⟨f, o'⟩ := q
              obtain ⟨(e1 : o' = nI o), hq⟩ := hq
              subst e1
              rcases hq with ⟨(e1 : f = nI 1), e2⟩ | ⟨(e1 : f = nI 0), e2⟩
              · subst e1
                obtain ⟨s1, s2⟩ := d2 o ho
                have e := md_co h hN' k2 (a := o) (c := v) (d := ds o + 4 - d) (la := ds o) (lc := d) (by omega) (by omega) (by omega) (by omega) (by omega)
                have kb : tbK T F o v (ds o + 4 - d) ≤ 9 := tbK_le T F o v (ds o + 4 - d) 3
                by_cases y : tbK T F o v (ds o + 4 - d) = 0
                · refine Or.inl ⟨(nI 1, nI (o + 1)), ?_, rfl, Or.inl ⟨rfl, fun i hi => ?_⟩⟩
                  · rw [y] at e
                    unfold Md_tryTable_L51 Md_tryTable_86_L51
                    simp (disch := omega) only [q_lit, q_m1, q_m2, q_hid, q_add, q_mul, q_sub, q_le, q_lt, q_eq, q_mlt, q_mle, q_ltm, q_lem, q_meq, q_eqm, q_m2lt, q_m2le, q_ltm2, q_lem2, q_eqm2, q_mm2, q_m2m, q_mm, q_mnm, q_ix, q_inb, q_a0, q_a1, q_app, q_bind, if_true, if_false, if_pos, if_neg, s1, e]
                  · by_cases z : i = o
                    · rw [z]; exact y
                    · exact e2 i (by omega)
                · refine Or.inl ⟨(nI 0, nI (o + 1)), ?_, rfl, Or.inr ⟨rfl, ?_⟩⟩
                  · unfold Md_tryTable_L51 Md_tryTable_86_L51
                    simp (disch := omega) only [q_lit, q_m1, q_m2, q_hid, q_add, q_mul, q_sub, q_le, q_lt, q_eq, q_mlt, q_mle, q_ltm, q_lem, q_meq, q_eqm, q_m2lt, q_m2le, q_ltm2, q_lem2, q_eqm2, q_mm2, q_m2m, q_mm, q_mnm, q_ix, q_inb, q_a0, q_a1, q_app, q_bind, if_true, if_false, if_pos, if_neg, s1, e, y]
                  · rw [Bool.eq_false_iff]
                    exact fun z => y (tbZ_t.mp z o ho)
              · subst e1
                refine Or.inr ⟨nI 0, ?_, by rw [e2, bI_f]⟩
                unfold Md_tryTable_L51
                simp (disch := omega) only [q_lit, q_m1, q_m2, q_hid, q_add, q_mul, q_sub, q_le, q_lt, q_eq, q_mlt, q_mle, q_ltm, q_lem, q_meq, q_eqm, q_m2lt, q_m2le, q_ltm2, q_lem2, q_eqm2, q_mm2, q_m2m, q_mm, q_mnm, q_ix, q_inb, q_a0, q_a1, q_app, q_bind, if_true, if_false, if_pos, if_neg]
            · obtain ⟨f, o'⟩ := q
              obtain ⟨(e1 : o' = nI v), hq⟩ := hq
              subst e1
              refine ⟨f, ?_, ?_⟩
              · unfold Md_tryTable_L51
                simp (disch := omega) only [q_lit, q_m1, q_m2, q_hid, q_add, q_mul, q_sub, q_le, q_lt, q_eq, q_mlt, q_mle, q_ltm, q_lem, q_meq, q_eqm, q_m2lt, q_m2le, q_ltm2, q_lem2, q_eqm2, q_mm2, q_m2m, q_mm, q_mnm, q_ix, q_inb, q_a0, q_a1, q_app, q_bind, if_true, if_false, if_pos, if_neg, Nat.le_refl]
              · rcases hq with ⟨(e1 : f = nI 1), e2⟩ | ⟨(e1 : f = nI 0), e2⟩
                · rw [tbZ_t.mpr e2, e1]; rfl
                · rw [e2, e1]; rfl
          obtain ⟨_, fi, rfl⟩ := fi
          have n5 : ¬ (5 : Int32) ≤ nI d := fun t => by have := (q_le (a := 5) (by omega) (by omega)).mp t; omega
          by_cases f : tbZ T F ds v d = true
          · rw [f, bI_t] at fi
            have g3 : SamT T (si T2 80 v (nI d)) := k1.si rfl
            obtain ⟨T3, r1, r2, r3, r4, r5⟩ := md_tt h hN k (v + 1) (fun o => if o = v then d else ds o) (sum + d) (dg * 10 + d) y (si T2 80 v (nI d)) (by omega) (by omega) (by omega) (by rw [Nat.pow_succ]; omega) k5 g3 k2 (fun o ho => by
              by_cases x : o = v
              · rw [x, tb_h, if_pos rfl]; exact ⟨rfl, by omega⟩
              · rw [tb_n (fun e => x e.2), if_neg x]; exact d2 o (by omega)) k4
            refine Or.inl ⟨(nI (d + 1), T3), ?_, rfl, r2, r3, fun o ho => ?_, ?_, ?_⟩
            · have ev : (nI v + 1) = nI (v + 1) := q_add v 1
              have es : nI sum + nI d = nI (sum + d) := q_add _ _
              have eg : 10 * nI dg + nI d = nI (dg * 10 + d) := by rw [show (10 : Int32) = nI 10 from rfl, q_mul, q_add, Nat.mul_comm]
              have ib : inb (nI v) 6 := nI_in (by omega) (by omega)
              have iv : ix (nI v) = v := q_ix (by omega)
              unfold Md_tryTable_L39 Md_tryTable_125_L39
              show (if (5 : Int32) ≤ nI d then _ else _) = _
              rw [if_neg n5, fi, q_bind, if_neg (show ¬ nI 1 = 0 by decide), if_pos ib, iv, ev, es, eg, r1, q_bind]
              show some (Sum.inl (nI d + 1, T3)) = _
              rw [show nI d + 1 = nI (d + 1) from q_add d 1]
            · show gi T3 80 o = _
              rw [r4 o (by omega), tb_n (fun e => by omega)]
              exact k3 o ho
            · have r5' : TbY (if tbU (sum + d) y = true ∧ tbZ T F ds v d = true then tbP T F R k (v + 1) (fun o => if o = v then d else ds o) (sum + d) (dg * 10 + d) y else y) T3 := by
                by_cases z : tbU (sum + d) y = true
                · rw [if_pos z] at r5; rw [if_pos ⟨z, f⟩]; exact r5
                · rw [if_neg z] at r5; rw [if_neg fun e => z e.1]; exact r5
              exact r5'
            · show TbO (if tbU (sum + d) y = true ∧ tbZ T F ds v d = true then tbP T F R k (v + 1) (fun o => if o = v then d else ds o) (sum + d) (dg * 10 + d) y else y)
              split
              · exact tbP_o h6 k (v + 1) _ _ _ y (by omega) (by omega) (by rw [Nat.pow_succ]; omega) k5
              · exact k5
          · have f0 : tbZ T F ds v d = false := Bool.eq_false_iff.mpr f
            rw [f0, bI_f] at fi
            refine Or.inl ⟨(nI (d + 1), T2), ?_, rfl, k1, k2, k3, ?_, ?_⟩
            · unfold Md_tryTable_L39 Md_tryTable_125_L39
              show (if (5 : Int32) ≤ nI d then _ else _) = _
              rw [if_neg n5, fi, q_bind, if_pos (show nI 0 = 0 from rfl)]
              show some (Sum.inl (nI d + 1, T2)) = _
              rw [show nI d + 1 = nI (d + 1) from q_add d 1]
            · show TbY (if tbU (sum + d) y = true ∧ tbZ T F ds v d = true then _ else y) T2
              rw [if_neg (fun e => f e.2)]; exact k4
            · show TbO (if tbU (sum + d) y = true ∧ tbZ T F ds v d = true then _ else y)
              rw [if_neg (fun e => f e.2)]; exact k5
        · obtain ⟨k', T2⟩ := q
          obtain ⟨(e4 : k' = _), (k1 : SamT T T2), (k2 : TbT T F (5 * R) T2), k3, k4, k5⟩ := hq
          subst e4
          refine ⟨T2, ?_, k1, k2, k3, k4⟩
          unfold Md_tryTable_L39
          rw [if_pos (show (5 : Int32) ≤ nI 5 by decide)]
    · rw [if_neg u]
      refine ⟨T1, ?_, g, b, fun o _ => rfl, hy⟩
      unfold Md_tryTable
      cases st with
      | none => exact absurd rfl u
      | some s =>
        have s1 := (hy.2 s rfl).1
        have s2 := (ho s rfl).1
        rw [s1, if_neg (show ¬ nI s.1 = -1 from fun e => (q_eqm (by omega)).mp e), if_neg (fun e => u (decide_eq_true ((q_lt (by omega) (by omega)).mp e)))]
theorem op_timetable (h : RelP N K F R U X w T S) (v1 : Int32) : ∃ q p, Dk_timetable v1 S = some q ∧ Md_timetable v1 T = some p ∧ q.1 = p.1 ∧ SamS S q.2 ∧ SamT T p.2 := by
  unfold Dk_timetable Dk_timetable_19 Dk_timetable_42 Md_timetable Md_timetable_18 Md_timetable_63
  rcases toldC h.1 with ⟨-, a, b⟩ | ⟨hN, a, b, c⟩
  · rw [a, b]
    exact ⟨(mI, S), (mI, T), rfl, rfl, rfl, SamS.rfl S, SamT.rfl T⟩
  · rw [a, if_neg (show ¬ nI 1 = 0 by decide), if_neg c]
    rcases rngG v1 0 1 (by omega) (by omega) with ⟨z, f⟩ | ⟨i, -, hi, rfl, f⟩
    · rw [show Md_in v1 0 1 = nI 0 from f, rng_le (a := 0) (n := 1) z]
      exact ⟨(mI, S), (mI, T), rfl, rfl, rfl, SamS.rfl S, SamT.rfl T⟩
    · rw [show Md_in (nI i) 0 1 = nI 1 from f, if_neg (show ¬ nI 1 = 0 by decide), if_neg (show ¬ nI i < 0 from nI_pos (by omega)), if_pos (show nI i ≤ 1 from nI_le (b := 1) hi (by omega))]
      have h6 : R ≤ 6 := h.2.1.1
      obtain ⟨S2, e1, k1, k2⟩ := pl_fts h hN
      obtain ⟨S3, e2, k3, k4⟩ := pl_fc h hN k1 k2
      have k5 : SamS S (si (si S3 47 7 1000) 47 8 mI) := (k3.si rfl).si rfl
      obtain ⟨S4, e3, k6, -, -, k7⟩ := pl_pl h 10 0 (fun _ => 0) 0 0 none (si (si S3 47 7 1000) 47 8 mI) (by omega) (by omega) (by omega) (by decide) rfl (fun s e => (by cases e)) k5 (fun a c h1 h2 => k4 a c h1 h2) (fun o z => absurd z (by omega)) ⟨fun _ => ⟨rfl, rfl⟩, fun s e => by cases e⟩
      obtain ⟨T2, e4, l1, l2⟩ := md_los h hN
      have l3 : SamT T (si T2 53 43 mI) := l1.si rfl
      obtain ⟨T4, e5, l4, -, -, l5⟩ := md_tt h (Or.inl hN) 10 0 (fun _ => 0) 0 0 none (si T2 53 43 mI) (by omega) (by omega) (by omega) (by decide) (fun s e => (by cases e)) l3 l2 (fun o z => absurd z (by omega)) ⟨fun _ => rfl, fun s e => by cases e⟩
      rw [if_pos (show tbU 0 none = true from rfl)] at l5
      have hO := tbP_o (T := T) (F := F) h6 10 0 (fun _ => 0) 0 0 none (by omega) (by omega) (by decide) (fun s e => (by cases e))
      generalize tbP T F R 10 0 (fun _ => 0) 0 0 none = st at k7 l5 hO
      have pS : Pl_plan S = some S4 := by
        unfold Pl_plan Pl_place_r
        rw [e1, q_bind, e2, q_bind]
        have e3' : fPl 10 0 0 0 0 (si (si S3 47 7 1000) 47 8 (-1)) = some S4 := e3
        rw [e3']; rfl
      have pT : Md_tryTable_r 0 0 0 (si T2 53 43 (-1)) = some T4 := e5
      unfold Pl_leastDelay Pl_delayDigits Pl_leastDelay_22
      rw [pS, e4, q_bind, q_bind, q_bind, q_bind, pT, q_bind]
      cases st with
      | none =>
        obtain ⟨x1, x2⟩ := k7.1 rfl
        have y1 := l5.1 rfl
        rw [x1, x2, y1, if_pos (show (1000 : Int32) ≤ nI 1000 by decide), if_pos (show mI = -1 from rfl)]
        refine ⟨(mI, S4), (mI, T4), ?_, rfl, rfl, k6, l4⟩
        split <;> rfl
      | some s =>
        obtain ⟨x1, x2⟩ := k7.2 s rfl
        obtain ⟨y1, y2⟩ := l5.2 s rfl
        obtain ⟨o1, o2⟩ := hO s rfl
        rw [x1, x2, y1, y2, if_neg (show ¬ (1000 : Int32) ≤ nI s.1 from fun t => by have := (q_le (a := 1000) (by omega) (by omega)).mp t; omega), if_neg (show ¬ nI s.1 = -1 from fun e => (q_eqm (by omega)).mp e)]
        by_cases z : nI i = 0
        · rw [if_pos z, if_pos z]
          exact ⟨(nI s.1, S4), (nI s.1, T4), rfl, rfl, rfl, k6, l4⟩
        · rw [if_neg z, if_neg z]
          exact ⟨(nI s.2, S4), (nI s.2, T4), rfl, rfl, rfl, k6, l4⟩
end TB
