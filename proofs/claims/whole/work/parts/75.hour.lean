/-! ===== an hour passes ===== -/
theorem lr_n {a N : Nat} (ha : a < 2147483648) (hN : N < 2147483648) : lRem (Int64.ofNat a) (Int64.ofNat N) = Int64.ofNat (a % N) := by
  show Int64.ofNat a - Int64.ofNat a / Int64.ofNat N * Int64.ofNat N = _
  rw [← Int64.ofNat_div (by omega) (by omega), ← Int64.ofNat_mul, ← Int64.ofNat_sub _ _ (Nat.div_mul_le_self a N)]
  exact congrArg Int64.ofNat (by have := Nat.div_add_mod' a N; omega)
theorem us_n (x : Int64) : ∃ a, a < 2147483648 ∧ lUsh x 33 = Int64.ofNat a := by
  have e : ((Int32.toInt64 33).toUInt64 &&& Int64.toUInt64 63) = 33 := by decide
  refine ⟨(x.toUInt64 >>> (33 : UInt64)).toNat, ?_, ?_⟩
  · rw [UInt64.toNat_shiftRight, show (33 : UInt64).toNat % 64 = 33 from rfl, Nat.shiftRight_eq_div_pow]
    have := UInt64.toNat_lt x.toUInt64
    omega
  · show (x.toUInt64 >>> ((Int32.toInt64 33).toUInt64 &&& Int64.toUInt64 63)).toInt64 = _
    rw [e]
    exact (congrArg UInt64.toInt64 (UInt64.ofNat_toNat (x := x.toUInt64 >>> (33 : UInt64))).symm)
theorem t64_n {N : Nat} (h : N < 2147483648) : Int32.toInt64 (nI N) = Int64.ofNat N := by
  apply Int64.toInt_inj.mp
  rw [Int32.toInt_toInt64, nI_toInt h, Int64.toInt_ofNat_of_lt (by omega)]
/-- what a draw gives -/
theorem draw_n (x : Int64) {N : Nat} (h0 : 0 < N) (h : N < 2147483648) : ∃ m, m < N ∧ Int64.toInt32 (lRem (lUsh x 33) (Int32.toInt64 (nI N))) = nI m := by
  obtain ⟨a, ha, e⟩ := us_n x
  refine ⟨a % N, Nat.mod_lt _ h0, ?_⟩
  rw [e, t64_n h, lr_n ha h, Int64.toInt32_ofNat']
  rfl
theorem t64_0 {N : Nat} (h0 : 0 < N) (h : N < 2147483648) : ¬ Int32.toInt64 (nI N) = (0 : Int64) := fun e => by
  have := congrArg Int64.toInt e
  rw [t64_n h, Int64.toInt_ofNat_of_lt (by omega), show (0 : Int64).toInt = 0 from by decide] at this
  omega
section PS
variable {N K F R w : Nat} {U : List Nat} {X : List (List Cl)} {T S : Sm}
theorem lamp_T {hh r : Nat} (hn : NetR N K F T S) (h9 : hh ≤ 9999) (d1 : T.1 70 137 = nI hh) (e5 : gi S 25 5 = nI hh) (hr : r < 8) (ht : TnR N K hh (T.1 70) (S.1 26) r) : ∃ c, (c < K ∨ c = 5) ∧ Hr_lampOf (nI r) S = some (nI c) ∧ Md_lampOf (nI r) T = some (nI c) := by
  have hf := n_f hn
  obtain ⟨-, -, -, -, -, f6, -, h5, hF, -⟩ := hn
  obtain ⟨m, c, s, t, d, hm, hc, hs, -, -, -, ⟨c1, c2⟩, ⟨s1, s2⟩, -⟩ := ht
  have hc6 : c < 6 := by omega
  have c1 : gi T 70 (88 + 6 * r + 1) = nI c := c1
  have c2 : gi S 26 (7 * r + 1) = nI c := c2
  have s1 : gi T 70 (88 + 6 * r + 2) = nI s := s1
  have s2 : gi S 26 (7 * r + 3) = nI s := s2
  have d1 : gi T 70 137 = nI hh := d1
  unfold Hr_lampOf Md_lampOf Mo_hour
  rw [show (1 : Int32) = nI 1 from rfl, show (2 : Int32) = nI 2 from rfl, show (3 : Int32) = nI 3 from rfl, mo_of (by omega) (by omega), mo_of (by omega) (by omega), md_of (by omega) (by omega), md_of (by omega) (by omega), c1, c2, s1, s2, e5, hf]
  show ∃ c', _ ∧ ((Dk_faded (nI c) (nI hh - nI s) (nI F)).bind _) = _ ∧ ((Md_faded (nI c) (gi T 70 137 - nI s) T).bind _) = _
  rw [d1]
  by_cases neg : hh < s
  · have ng := neg_age neg (by omega)
    refine ⟨c, hc, ?_, ?_⟩
    · have : Dk_faded (nI c) (nI hh - nI s) (nI F) = some (nI c) := by
        unfold Dk_faded Dk_faded_13
        by_cases c5 : nI c = 5
        · rw [if_pos c5]
        · rw [if_neg c5]
          by_cases f0 : nI F ≤ 0
          · rw [if_pos f0]
          · rw [if_neg f0, if_neg (Int32.not_le.mpr ng)]
      rw [this]; rfl
    · have : Md_faded (nI c) (nI hh - nI s) T = some (nI c) := by
        unfold Md_faded Md_faded_18
        by_cases c5 : nI c = 5
        · rw [if_pos c5]
        · rw [if_neg c5]
          by_cases f0 : gi T 68 3 = 0
          · rw [if_pos f0]
          · rw [if_neg f0, if_neg (fun q => Int32.lt_asymm q ng)]
      rw [this]; rfl
  · rw [q_sub (by omega), dk_fd hc6 (by omega) hF, md_fd f6 hc6 (by omega) hF]
    exact ⟨fd c (hh - s) F, fd_lamp hc, rfl, rfl⟩
/-- a moment while an hour passes -/
def PsN (N K n h q e : Nat) (M tr gd lg ob : Nat → Int32) : Prop := (∀ m, m < 8 → ∃ g, g ≤ 9 ∧ M (80 + m) = nI g ∧ gd m = nI g) ∧ n ≤ 8 ∧ h < 9999 ∧ q ≤ 8 * h + e ∧ (M 136 = nI n ∧ ob 4 = nI n) ∧ (M 137 = nI h ∧ ob 5 = nI h) ∧ M 138 = ob 6 ∧ (M 139 = nI (min q 60) ∧ ob 7 = nI q) ∧ (∀ r, r < n → TnR N K h M tr r) ∧ LgR M lg q
/-- the log, a step on -/
def kE (T : Sm) (k : Nat) : Sm := (fun i j => if i = 70 ∧ 140 ≤ j ∧ j < 140 + k then T.1 70 (j + 3) else T.1 i j, T.2)
theorem kE_s {T : Sm} {k : Nat} : si (kE T k) 70 (140 + k) (gi (kE T k) 70 (140 + (3 + k))) = kE T (k + 1) := by
  refine Prod.ext (funext fun i => funext fun j => ?_) rfl
  show (if i = 70 ∧ j = 140 + k then (if 70 = 70 ∧ 140 ≤ 140 + (3 + k) ∧ 140 + (3 + k) < 140 + k then T.1 70 (140 + (3 + k) + 3) else T.1 70 (140 + (3 + k))) else if i = 70 ∧ 140 ≤ j ∧ j < 140 + k then T.1 70 (j + 3) else T.1 i j) = if i = 70 ∧ 140 ≤ j ∧ j < 140 + (k + 1) then T.1 70 (j + 3) else T.1 i j
  rw [if_neg (fun (e : 70 = 70 ∧ 140 ≤ 140 + (3 + k) ∧ 140 + (3 + k) < 140 + k) => by omega)]
  by_cases c : i = 70 ∧ j = 140 + k
  · rw [if_pos c, if_pos (show i = 70 ∧ 140 ≤ j ∧ j < 140 + (k + 1) from ⟨c.1, by omega, by omega⟩), c.2]
    exact congrArg _ (by omega)
  · rw [if_neg c]
    by_cases d : i = 70 ∧ 140 ≤ j ∧ j < 140 + k
    · rw [if_pos d, if_pos (show i = 70 ∧ 140 ≤ j ∧ j < 140 + (k + 1) from ⟨d.1, d.2.1, by omega⟩)]
    · rw [if_neg d, if_neg (fun (e : i = 70 ∧ 140 ≤ j ∧ j < 140 + (k + 1)) => d ⟨e.1, e.2.1, by have := fun t => c ⟨e.1, t⟩; omega⟩)]
theorem md_n62 {T : Sm} {r m h a : Nat} (hr : r < 8) (ha : a < 60) (e0 : gi T 70 (88 + 6 * r + 0) = nI m) (e137 : gi T 70 137 = nI h) (e139 : gi T 70 139 = nI a) : Md_note_62 (nI r) T = some (si (si (si (si T 70 (140 + 3 * a) (nI r)) 70 (140 + 3 * a + 1) (nI m)) 70 (140 + 3 * a + 2) (nI h)) 70 139 (nI (a + 1))) := by
  have f1 : gi (si T 70 (140 + 3 * a) (nI r)) 70 (88 + 6 * r + 0) = nI m := (tb_n (by omega)).trans e0
  have f2 : gi (si (si T 70 (140 + 3 * a) (nI r)) 70 (140 + 3 * a + 1) (nI m)) 70 137 = nI h := (tb_n (by omega)).trans ((tb_n (by omega)).trans e137)
  have f3 : gi (si (si (si T 70 (140 + 3 * a) (nI r)) 70 (140 + 3 * a + 1) (nI m)) 70 (140 + 3 * a + 2) (nI h)) 70 139 = nI a := (tb_n (by omega)).trans ((tb_n (by omega)).trans ((tb_n (by omega)).trans e139))
  unfold Md_note_62
  simp (disch := omega) only [q_lit, q_m1, q_m2, q_hid, q_add, q_mul, q_sub, q_le, q_lt, q_eq, q_mlt, q_mle, q_ltm, q_lem, q_meq, q_eqm, q_m2lt, q_m2le, q_ltm2, q_lem2, q_eqm2, q_mm2, q_m2m, q_mm, q_mnm, q_ix, q_inb, q_a0, q_a1, q_app, q_bind, if_true, if_false, if_pos, if_neg, e139, md_of, f1, f2, f3]
theorem md_note {T : Sm} {r m h q : Nat} {lg lg' : Nat → Int32} (hr : r < 8) (hm : m < 8) (hh : h ≤ 9999) (e0 : gi T 70 (88 + 6 * r + 0) = nI m) (e137 : gi T 70 137 = nI h) (e139 : gi T 70 139 = nI (min q 60)) (hl : LgR (T.1 70) lg q) (l1 : lg' (q % 60) = nI ((h * 8 + m) * 8 + r)) (l2 : ∀ k, k < 60 → k ≠ q % 60 → lg' k = lg k) : ∃ T', Md_note (nI r) T = some T' ∧ T'.2 = T.2 ∧ (∀ b, b ≠ 70 → T'.1 b = T.1 b) ∧ (∀ k, k < 139 → T'.1 70 k = T.1 70 k) ∧ T'.1 70 139 = nI (min (q + 1) 60) ∧ LgR (T'.1 70) lg' (q + 1) := by
  unfold Md_note
  by_cases c : q < 60
  · have m1 : min q 60 = q := by omega
    have m2 : min (q + 1) 60 = q + 1 := by omega
    rw [m1] at e139
    rw [e139, if_neg (show ¬ nI q = 60 from fun z => by have := (q_eq (b := 60) (by omega) (by omega)).mp z; omega), md_n62 hr c e0 e137 e139, m2]
    refine ⟨_, rfl, rfl, fun b hb => ?_, fun k hk => ?_, ?_, fun i hi => ?_⟩
    · rw [si_row hb, si_row hb, si_row hb, si_row hb]
    · (show gi _ _ _ = _; repeat (first | rw [tb_h] | rw [tb_n (by omega)] | rw [tb_e (by omega)])); try rfl
    · (show gi _ _ _ = _; repeat (first | rw [tb_h] | rw [tb_n (by omega)] | rw [tb_e (by omega)])); try rfl
    · rw [m2] at hi
      by_cases z : i = q
      · subst z
        refine ⟨r, m, h, hr, hm, hh, ?_, ?_, ?_, ?_⟩
        · (show gi _ _ _ = _; repeat (first | rw [tb_h] | rw [tb_n (by omega)] | rw [tb_e (by omega)])); try rfl
        · (show gi _ _ _ = _; repeat (first | rw [tb_h] | rw [tb_n (by omega)] | rw [tb_e (by omega)])); try rfl
        · (show gi _ _ _ = _; repeat (first | rw [tb_h] | rw [tb_n (by omega)] | rw [tb_e (by omega)])); try rfl
        · rw [m2, show (i + 1 - (i + 1) + i) % 60 = i % 60 by omega]; exact l1
      · obtain ⟨r', m', t, r1, r2, r3, r4, r5, r6, r7⟩ := hl i (by omega)
        refine ⟨r', m', t, r1, r2, r3, ?_, ?_, ?_, ?_⟩
        · exact Eq.trans (by (show gi _ _ _ = _; repeat (first | rw [tb_h] | rw [tb_n (by omega)] | rw [tb_e (by omega)])); try rfl) r4
        · exact Eq.trans (by (show gi _ _ _ = _; repeat (first | rw [tb_h] | rw [tb_n (by omega)] | rw [tb_e (by omega)])); try rfl) r5
        · exact Eq.trans (by (show gi _ _ _ = _; repeat (first | rw [tb_h] | rw [tb_n (by omega)] | rw [tb_e (by omega)])); try rfl) r6
        · rw [m2, show (q + 1 - (q + 1) + i) % 60 = (q - min q 60 + i) % 60 by omega, l2 _ (Nat.mod_lt _ (by omega)) (by omega)]
          exact r7
  · have m1 : min q 60 = 60 := by omega
    have m2 : min (q + 1) 60 = 60 := by omega
    rw [m1] at e139
    have e1 : lpN (Md_note_L15 (nI r)) FU (3, T) = some (kE T 177) := by
      refine lpN_run0 (fun k => (nI (3 + k), kE T k)) 177 (by omega) (fun k hk => ?_) ?_ ?_
      · have s := kE_s (T := T) (k := k)
        have ea : 140 + (3 + k) - 3 = 140 + k := by omega
        unfold Md_note_L15
        simp (disch := omega) only [q_lit, q_m1, q_m2, q_hid, q_add, q_mul, q_sub, q_le, q_lt, q_eq, q_mlt, q_mle, q_ltm, q_lem, q_meq, q_eqm, q_m2lt, q_m2le, q_ltm2, q_lem2, q_eqm2, q_mm2, q_m2m, q_mm, q_mnm, q_ix, q_inb, q_a0, q_a1, q_app, q_bind, if_true, if_false, if_pos, if_neg, ea, s, Nat.add_assoc]
      · unfold Md_note_L15
        simp (disch := omega) only [q_lit, q_m1, q_m2, q_hid, q_add, q_mul, q_sub, q_le, q_lt, q_eq, q_mlt, q_mle, q_ltm, q_lem, q_meq, q_eqm, q_m2lt, q_m2le, q_ltm2, q_lem2, q_eqm2, q_mm2, q_m2m, q_mm, q_mnm, q_ix, q_inb, q_a0, q_a1, q_app, q_bind, if_true, if_false, if_pos, if_neg, Nat.le_refl]
      · show _ = (nI 3, kE T 0)
        refine Prod.ext rfl (Prod.ext (funext fun i => funext fun j => ?_) rfl)
        exact (if_neg (fun (e : i = 70 ∧ 140 ≤ j ∧ j < 140 + 0) => absurd e.2 (by omega))).symm
    have kl : ∀ k, k < 140 → (kE T 177).1 70 k = T.1 70 k := fun k hk => if_neg (fun e => absurd e.2.1 (by omega))
    have kh : ∀ k, 140 ≤ k → k < 317 → (kE T 177).1 70 k = T.1 70 (k + 3) := fun k h1 h2 => if_pos ⟨rfl, h1, by omega⟩
    have e2 : gi (kE T 177) 70 139 = nI 60 := (kl 139 (by omega)).trans e139
    have f0 : gi (si (kE T 177) 70 139 (nI 59)) 70 (88 + 6 * r + 0) = nI m := (tb_n (by omega)).trans ((kl _ (by omega)).trans e0)
    have f1 : gi (si (kE T 177) 70 139 (nI 59)) 70 137 = nI h := (tb_n (by omega)).trans ((kl _ (by omega)).trans e137)
    rw [e139, if_pos (show nI 60 = 60 from rfl), e1, q_bind, e2, show nI 60 - 1 = nI 59 by decide, md_n62 hr (by omega : 59 < 60) f0 f1 tb_h, m2]
    refine ⟨_, rfl, rfl, fun b hb => ?_, fun k hk => ?_, ?_, fun i hi => ?_⟩
    · rw [si_row hb, si_row hb, si_row hb, si_row hb, si_row hb]
      exact funext fun j => if_neg (fun e => hb e.1)
    · exact Eq.trans (by (show gi _ _ _ = _; repeat (first | rw [tb_h] | rw [tb_n (by omega)] | rw [tb_e (by omega)])); try rfl) (kl k (by omega))
    · (show gi _ _ _ = _; repeat (first | rw [tb_h] | rw [tb_n (by omega)] | rw [tb_e (by omega)])); try rfl
    · rw [m2] at hi
      by_cases z : i = 59
      · subst z
        refine ⟨r, m, h, hr, hm, hh, ?_, ?_, ?_, ?_⟩
        · (show gi _ _ _ = _; repeat (first | rw [tb_h] | rw [tb_n (by omega)] | rw [tb_e (by omega)])); try rfl
        · (show gi _ _ _ = _; repeat (first | rw [tb_h] | rw [tb_n (by omega)] | rw [tb_e (by omega)])); try rfl
        · (show gi _ _ _ = _; repeat (first | rw [tb_h] | rw [tb_n (by omega)] | rw [tb_e (by omega)])); try rfl
        · rw [m2, show (q + 1 - 60 + 59) % 60 = q % 60 by omega]; exact l1
      · obtain ⟨r', m', t, r1, r2, r3, r4, r5, r6, r7⟩ := hl (i + 1) (by omega)
        refine ⟨r', m', t, r1, r2, r3, ?_, ?_, ?_, ?_⟩
        · exact Eq.trans (b := (kE T 177).1 70 (140 + 3 * i)) (by (show gi _ _ _ = _; repeat (first | rw [tb_h] | rw [tb_n (by omega)] | rw [tb_e (by omega)])); try rfl) ((kh _ (by omega) (by omega)).trans r4)
        · exact Eq.trans (b := (kE T 177).1 70 (140 + 3 * i + 1)) (by (show gi _ _ _ = _; repeat (first | rw [tb_h] | rw [tb_n (by omega)] | rw [tb_e (by omega)])); try rfl) ((kh _ (by omega) (by omega)).trans r5)
        · exact Eq.trans (b := (kE T 177).1 70 (140 + 3 * i + 2)) (by (show gi _ _ _ = _; repeat (first | rw [tb_h] | rw [tb_n (by omega)] | rw [tb_e (by omega)])); try rfl) ((kh _ (by omega) (by omega)).trans r6)
        · rw [m2, show (q + 1 - 60 + i) % 60 = (q - min q 60 + (i + 1)) % 60 by omega, l2 _ (Nat.mod_lt _ (by omega)) (by omega)]
          exact r7
end PS
