/-! ===== acts kept ===== -/
theorem MoN.ext {N K n h q : Nat} {M M' tr tr' gd gd' lg lg' ob ob' : Nat → Int32} (h0 : MoN N K n h q M tr gd lg ob) (hM : ∀ k, 80 ≤ k → k < 320 → M' k = M k) (ht : ∀ k, k < 56 → tr' k = tr k) (hg : ∀ k, k < 8 → gd' k = gd k) (hl : ∀ k, k < 60 → lg' k = lg k) (ho : ∀ k, 4 ≤ k → k < 8 → ob' k = ob k) : MoN N K n h q M' tr' gd' lg' ob' := by
  obtain ⟨h1, h2, h3, h4, ⟨a1, a2⟩, ⟨b1, b2⟩, c, ⟨d1, d2⟩, e, f⟩ := h0
  refine ⟨fun m hm => ?_, h2, h3, h4, ⟨(hM _ (by omega) (by omega)).trans a1, (ho _ (by omega) (by omega)).trans a2⟩, ⟨(hM _ (by omega) (by omega)).trans b1, (ho _ (by omega) (by omega)).trans b2⟩, (hM _ (by omega) (by omega)).trans (c.trans (ho _ (by omega) (by omega)).symm), ⟨(hM _ (by omega) (by omega)).trans d1, (ho _ (by omega) (by omega)).trans d2⟩, fun r hr => ?_, fun i hi => ?_⟩
  · obtain ⟨g, g1, g2, g3⟩ := h1 m hm
    exact ⟨g, g1, (hM _ (by omega) (by omega)).trans g2, (hg _ hm).trans g3⟩
  · obtain ⟨m, c, s, t, d, i1, i2, i3, i4, i5, ⟨j1, j2⟩, ⟨k1, k2⟩, ⟨l1, l2⟩, ⟨m1, m2⟩, ⟨n1, n2⟩, o⟩ := e r hr
    refine ⟨m, c, s, t, d, i1, i2, i3, i4, i5, ⟨(hM _ (by omega) (by omega)).trans j1, (ht _ (by omega)).trans j2⟩, ⟨(hM _ (by omega) (by omega)).trans k1, (ht _ (by omega)).trans k2⟩, ⟨(hM _ (by omega) (by omega)).trans l1, (ht _ (by omega)).trans l2⟩, ⟨(hM _ (by omega) (by omega)).trans m1, (ht _ (by omega)).trans m2⟩, ⟨(hM _ (by omega) (by omega)).trans n1, (ht _ (by omega)).trans n2⟩, ?_⟩
    rcases o with ⟨o1, o2⟩ | ⟨u, u1, u2, u3, u4, u5⟩
    · exact Or.inl ⟨(hM _ (by omega) (by omega)).trans o1, (ht _ (by omega)).trans o2⟩
    · exact Or.inr ⟨u, u1, u2, (hM _ (by omega) (by omega)).trans u3, (ht _ (by omega)).trans u4, (ht _ (by omega)).trans u5⟩
  · obtain ⟨r, m, t, r1, r2, r3, r4, r5, r6, r7⟩ := f i hi
    exact ⟨r, m, t, r1, r2, r3, (hM _ (by omega) (by omega)).trans r4, (hM _ (by omega) (by omega)).trans r5, (hM _ (by omega) (by omega)).trans r6, (hl _ (Nat.mod_lt _ (by omega))).trans r7⟩
theorem DkR.ext {N : Nat} {U : List Nat} {len len' M M' ld ld' : Nat → Int32} (h : DkR N U len M ld) (hM : ∀ k, k < 80 → M' k = M k) (hl : ∀ k, k < 40 → ld' k = ld k) (hn : ∀ k, k < 40 → len' k = len k) : DkR N U len' M' ld' := fun m c hm hc => by
  obtain ⟨a, b, d⟩ := h m c hm hc
  rw [hM _ (by omega), hM _ (by omega), hl _ (by omega), hn _ (by omega)]
  exact ⟨a, b, d⟩
theorem MoR.ext {N K : Nat} {U : List Nat} {len len' M M' tr tr' ld ld' gd gd' lg lg' ob ob' : Nat → Int32} (h0 : MoR N K U len M tr ld gd lg ob) (hM : ∀ k, k < 320 → M' k = M k) (ht : ∀ k, k < 56 → tr' k = tr k) (hd : ∀ k, k < 40 → ld' k = ld k) (hg : ∀ k, k < 8 → gd' k = gd k) (hl : ∀ k, k < 60 → lg' k = lg k) (ho : ∀ k, 4 ≤ k → k < 8 → ob' k = ob k) (hn : ∀ k, k < 40 → len' k = len k) : MoR N K U len' M' tr' ld' gd' lg' ob' := by
  obtain ⟨h1, n, h, q, h2⟩ := h0
  exact ⟨fun p => (h1 p).ext (fun k hk => hM k (by omega)) hd hn, n, h, q, h2.ext (fun k _ hk => hM k hk) ht hg hl ho⟩
/-- a copy -/
def kC (T : Sm) (p pb q qb k : Nat) : Sm := (fun i j => if i = q ∧ qb ≤ j ∧ j < qb + k then T.1 p (j - qb + pb) else T.1 i j, T.2)
theorem kC_0 (T : Sm) (p pb q qb : Nat) : kC T p pb q qb 0 = T := Prod.ext (funext fun i => funext fun j => if_neg fun e => by omega) rfl
theorem kC_s {T : Sm} {p pb q qb k : Nat} (h : p ≠ q) : si (kC T p pb q qb k) q (qb + k) (gi (kC T p pb q qb k) p (pb + k)) = kC T p pb q qb (k + 1) := by
  refine Prod.ext (funext fun i => funext fun j => ?_) rfl
  show (if i = q ∧ j = qb + k then (if p = q ∧ qb ≤ pb + k ∧ pb + k < qb + k then T.1 p (pb + k - qb + pb) else T.1 p (pb + k)) else if i = q ∧ qb ≤ j ∧ j < qb + k then T.1 p (j - qb + pb) else T.1 i j) = if i = q ∧ qb ≤ j ∧ j < qb + (k + 1) then T.1 p (j - qb + pb) else T.1 i j
  rw [if_neg (fun (e : p = q ∧ qb ≤ pb + k ∧ pb + k < qb + k) => h e.1)]
  by_cases c : i = q ∧ j = qb + k
  · rw [if_pos c, if_pos (show i = q ∧ qb ≤ j ∧ j < qb + (k + 1) from ⟨c.1, by omega, by omega⟩), c.2, Nat.add_sub_cancel_left, Nat.add_comm]
  · rw [if_neg c]
    by_cases d : i = q ∧ qb ≤ j ∧ j < qb + k
    · rw [if_pos d, if_pos (show i = q ∧ qb ≤ j ∧ j < qb + (k + 1) from ⟨d.1, d.2.1, by omega⟩)]
    · rw [if_neg d, if_neg (fun (e : i = q ∧ qb ≤ j ∧ j < qb + (k + 1)) => d ⟨e.1, e.2.1, by have := fun t => c ⟨e.1, t⟩; omega⟩)]
theorem kC_i {T : Sm} {p pb q qb k i j : Nat} (h : i = q ∧ qb ≤ j ∧ j < qb + k) : (kC T p pb q qb k).1 i j = T.1 p (j - qb + pb) := if_pos h
theorem kC_o {T : Sm} {p pb q qb k i j : Nat} (h : ¬ (i = q ∧ qb ≤ j ∧ j < qb + k)) : (kC T p pb q qb k).1 i j = T.1 i j := if_neg h
def kD (T : Sm) (k : Nat) : Sm := (fun i j => if i = 73 ∧ j < k then T.1 73 (j + 320) else T.1 i j, T.2)
theorem kD_s {T : Sm} {k : Nat} : si (kD T k) 73 k (gi (kD T k) 73 (320 + k)) = kD T (k + 1) := by
  refine Prod.ext (funext fun i => funext fun j => ?_) rfl
  show (if i = 73 ∧ j = k then (if 73 = 73 ∧ 320 + k < k then T.1 73 (320 + k + 320) else T.1 73 (320 + k)) else if i = 73 ∧ j < k then T.1 73 (j + 320) else T.1 i j) = if i = 73 ∧ j < k + 1 then T.1 73 (j + 320) else T.1 i j
  rw [if_neg (fun (e : 73 = 73 ∧ 320 + k < k) => by omega)]
  by_cases c : i = 73 ∧ j = k
  · rw [if_pos c, if_pos (show i = 73 ∧ j < k + 1 from ⟨c.1, by omega⟩), c.2, Nat.add_comm]
  · rw [if_neg c]
    by_cases d : i = 73 ∧ j < k
    · rw [if_pos d, if_pos (show i = 73 ∧ j < k + 1 from ⟨d.1, by omega⟩)]
    · rw [if_neg d, if_neg (fun (e : i = 73 ∧ j < k + 1) => d ⟨e.1, by have := fun t => c ⟨e.1, t⟩; omega⟩)]
theorem md_k52 {T : Sm} {a : Nat} (ha : a < 40) (e : gi T 53 34 = nI a) : Md_keep_52 T = some (si (kC T 70 0 73 (320 * a) 320) 53 34 (nI (a + 1))) := by
  have e1 : lpN Md_keep_L54 FU (0, T) = some (kC T 70 0 73 (320 * a) 320) := by
    refine lpN_run0 (fun k => (nI k, kC T 70 0 73 (320 * a) k)) 320 (by omega) (fun k hk => ?_) ?_ (by rw [kC_0]; rfl)
    · have e2 : gi (kC T 70 0 73 (320 * a) k) 53 34 = nI a := e
      have s := kC_s (T := T) (pb := 0) (qb := 320 * a) (k := k) (show (70 : Nat) ≠ 73 by decide)
      rw [Nat.zero_add] at s
      unfold Md_keep_L54
      simp (disch := omega) only [q_lit, q_m1, q_m2, q_hid, q_add, q_mul, q_sub, q_le, q_lt, q_eq, q_mlt, q_mle, q_ltm, q_lem, q_meq, q_eqm, q_m2lt, q_m2le, q_ltm2, q_lem2, q_eqm2, q_mm2, q_m2m, q_mm, q_mnm, q_ix, q_inb, q_a0, q_a1, q_app, q_bind, if_true, if_false, if_pos, if_neg, e2, s]
    · unfold Md_keep_L54
      simp (disch := omega) only [q_lit, q_m1, q_m2, q_hid, q_add, q_mul, q_sub, q_le, q_lt, q_eq, q_mlt, q_mle, q_ltm, q_lem, q_meq, q_eqm, q_m2lt, q_m2le, q_ltm2, q_lem2, q_eqm2, q_mm2, q_m2m, q_mm, q_mnm, q_ix, q_inb, q_a0, q_a1, q_app, q_bind, if_true, if_false, if_pos, if_neg, Nat.le_refl]
  have e3 : gi (kC T 70 0 73 (320 * a) 320) 53 34 = nI a := e
  unfold Md_keep_52
  rw [e1, q_bind, e3, show (1 : Int32) = nI 1 from rfl, q_add]
theorem md_keep {T : Sm} {a : Nat} (ha : a ≤ 40) (e : gi T 53 34 = nI a) : ∃ T', Md_keep T = some T' ∧ T'.2 = T.2 ∧ (∀ b, b ≠ 73 → b ≠ 53 → T'.1 b = T.1 b) ∧ (∀ j, j ≠ 34 → T'.1 53 j = T.1 53 j) ∧ gi T' 53 34 = nI (min (a + 1) 40) ∧ (∀ k, k < 320 → T'.1 73 (320 * (min (a + 1) 40 - 1) + k) = T.1 70 k) ∧ ∀ j, j < min (a + 1) 40 - 1 → ∀ k, k < 320 → T'.1 73 (320 * j + k) = T.1 73 (320 * (if a = 40 then j + 1 else j) + k) := by
  unfold Md_keep
  rw [e]
  by_cases c : a = 40
  · subst c
    have e1 : lpN Md_keep_L13 FU (320, T) = some (kD T 12480) := by
      refine lpN_run0 (fun k => (nI (320 + k), kD T k)) 12480 (by omega) (fun k hk => ?_) ?_ ?_
      · have s := kD_s (T := T) (k := k)
        unfold Md_keep_L13
        simp (disch := omega) only [q_lit, q_m1, q_m2, q_hid, q_add, q_mul, q_sub, q_le, q_lt, q_eq, q_mlt, q_mle, q_ltm, q_lem, q_meq, q_eqm, q_m2lt, q_m2le, q_ltm2, q_lem2, q_eqm2, q_mm2, q_m2m, q_mm, q_mnm, q_ix, q_inb, q_a0, q_a1, q_app, q_bind, if_true, if_false, if_pos, if_neg, Nat.add_sub_cancel_left, s, Nat.add_assoc]
      · unfold Md_keep_L13
        simp (disch := omega) only [q_lit, q_m1, q_m2, q_hid, q_add, q_mul, q_sub, q_le, q_lt, q_eq, q_mlt, q_mle, q_ltm, q_lem, q_meq, q_eqm, q_m2lt, q_m2le, q_ltm2, q_lem2, q_eqm2, q_mm2, q_m2m, q_mm, q_mnm, q_ix, q_inb, q_a0, q_a1, q_app, q_bind, if_true, if_false, if_pos, if_neg, Nat.le_refl]
      · show _ = (nI 320, kD T 0)
        refine Prod.ext rfl (Prod.ext (funext fun i => funext fun j => ?_) rfl)
        exact (if_neg (fun (e : i = 73 ∧ j < 0) => absurd e.2 (by omega))).symm
    have e2 : gi (kD T 12480) 53 34 = nI 40 := e
    rw [if_pos (show nI 40 = 40 from rfl), e1, q_bind, e2, show nI 40 - 1 = nI 39 by decide, md_k52 (by omega) (show gi (si (kD T 12480) 53 34 (nI 39)) 53 34 = nI 39 from rfl)]
    refine ⟨_, rfl, rfl, fun b h1 h2 => funext fun j => ?_, fun j hj => ?_, rfl, fun k hk => ?_, fun j hj k hk => ?_⟩
    · rw [si_row h2]
      show (kC (si (kD T 12480) 53 34 (nI 39)) 70 0 73 (320 * 39) 320).1 b j = _
      rw [kC_o (fun e => h1 e.1), si_row h2]
      exact if_neg (fun (e : b = 73 ∧ j < 12480) => h1 e.1)
    · show gi (si (kC (si (kD T 12480) 53 34 (nI 39)) 70 0 73 (320 * 39) 320) 53 34 _) 53 j = _
      rw [tb_n (fun e => hj e.2)]
      show (kC (si (kD T 12480) 53 34 (nI 39)) 70 0 73 (320 * 39) 320).1 53 j = _
      rw [kC_o (fun e => absurd e.1 (by decide))]
      exact if_neg (fun e => hj e.2)
    · show (kC (si (kD T 12480) 53 34 (nI 39)) 70 0 73 (320 * 39) 320).1 73 (320 * 39 + k) = _
      rw [kC_i ⟨rfl, by omega, by omega⟩, Nat.add_sub_cancel_left]
      rfl
    · have hj : j < 39 := hj
      show (kC (si (kD T 12480) 53 34 (nI 39)) 70 0 73 (320 * 39) 320).1 73 (320 * j + k) = T.1 73 (320 * (if 40 = 40 then j + 1 else j) + k)
      rw [kC_o (fun e => by omega), if_pos rfl]
      show (kD T 12480).1 73 (320 * j + k) = _
      have e9 : (kD T 12480).1 73 (320 * j + k) = T.1 73 (320 * j + k + 320) := if_pos (show 73 = 73 ∧ 320 * j + k < 12480 from ⟨rfl, by omega⟩)
      rw [e9]
      exact congrArg _ (by omega)
  · have m1 : min (a + 1) 40 = a + 1 := by omega
    rw [if_neg (show ¬ nI a = 40 from fun z => c ((q_eq (b := 40) (by omega) (by omega)).mp z)), md_k52 (by omega) e, m1, Nat.add_sub_cancel]
    refine ⟨_, rfl, rfl, fun b h1 h2 => funext fun j => ?_, fun j hj => ?_, rfl, fun k hk => ?_, fun j hj k hk => ?_⟩
    · rw [si_row h2]
      exact kC_o (fun e => h1 e.1)
    · show gi (si (kC T 70 0 73 (320 * a) 320) 53 34 _) 53 j = _
      rw [tb_n (fun e => hj e.2)]
      exact kC_o (fun e => absurd e.1 (by decide))
    · show (kC T 70 0 73 (320 * a) 320).1 73 (320 * a + k) = _
      rw [kC_i ⟨rfl, by omega, by omega⟩, Nat.add_sub_cancel_left]
      rfl
    · show (kC T 70 0 73 (320 * a) 320).1 73 (320 * j + k) = _
      rw [kC_o (fun e => by omega), if_neg c]
theorem sc_o {S : Sm} {a b n i : Nat} (h : i ≠ b) : (sc S a b n).1 i = S.1 i := funext fun j => if_neg fun e => h e.1
theorem sc_i {S : Sm} {a b n k : Nat} (h : k < n) : (sc S a b n).1 b k = S.1 a k := if_pos ⟨rfl, h⟩
def bcQ (S : Sm) (a b : Nat) : Sm := sc (sc (sc (sc S (b + 1) (a + 1) 56) (b + 2) (a + 2) 40) (b + 3) (a + 3) 8) (b + 4) (a + 4) 60
theorem bcQ_o {S : Sm} {a b i : Nat} (h : i ≤ a ∨ a + 5 ≤ i) : (bcQ S a b).1 i = S.1 i := by
  unfold bcQ
  rw [sc_o (by omega), sc_o (by omega), sc_o (by omega), sc_o (by omega)]
theorem bc_e {S : Sm} {a b : Nat} (h : b ≠ a) : bcS S a b = si (si (si (si (bcQ S a b) a 4 ((bcQ S a b).1 b 4)) a 5 ((bcQ S a b).1 b 5)) a 6 ((bcQ S a b).1 b 6)) a 7 ((bcQ S a b).1 b 7) := by
  have k : ∀ (s : Sm) (j : Nat) (v : Int32) (x : Nat), gi (si s a j v) b x = gi s b x := fun s j v x => tb_n fun e => h e.1
  have e : bcS S a b = si (si (si (si (bcQ S a b) a 4 (gi (bcQ S a b) b 4)) a 5 (gi (si (bcQ S a b) a 4 (gi (bcQ S a b) b 4)) b 5)) a 6 (gi (si (si (bcQ S a b) a 4 (gi (bcQ S a b) b 4)) a 5 (gi (si (bcQ S a b) a 4 (gi (bcQ S a b) b 4)) b 5)) b 6)) a 7 (gi (si (si (si (bcQ S a b) a 4 (gi (bcQ S a b) b 4)) a 5 (gi (si (bcQ S a b) a 4 (gi (bcQ S a b) b 4)) b 5)) a 6 (gi (si (si (bcQ S a b) a 4 (gi (bcQ S a b) b 4)) a 5 (gi (si (bcQ S a b) a 4 (gi (bcQ S a b) b 4)) b 5)) b 6)) b 7) := rfl
  rw [e, k, k, k, k, k, k]
  rfl
theorem bc_r {S : Sm} {a b i : Nat} (hb : b ≠ a) (h : i ≠ a) : (bcS S a b).1 i = (bcQ S a b).1 i := by
  rw [bc_e hb, si_row h, si_row h, si_row h, si_row h]
theorem bc_o {S : Sm} {a b i : Nat} (hb : b ≠ a) (h : i < a ∨ a + 5 ≤ i) : (bcS S a b).1 i = S.1 i := by
  rw [bc_r hb (by omega), bcQ_o (by omega)]
theorem bc_c {S : Sm} {a b : Nat} (hd : b + 5 ≤ a ∨ a + 5 ≤ b) : (∀ k, k < 56 → (bcS S a b).1 (a + 1) k = S.1 (b + 1) k) ∧ (∀ k, k < 40 → (bcS S a b).1 (a + 2) k = S.1 (b + 2) k) ∧ (∀ k, k < 8 → (bcS S a b).1 (a + 3) k = S.1 (b + 3) k) ∧ (∀ k, k < 60 → (bcS S a b).1 (a + 4) k = S.1 (b + 4) k) ∧ ∀ k, 4 ≤ k → k < 8 → (bcS S a b).1 a k = S.1 b k := by
  have hb : b ≠ a := by omega
  refine ⟨fun k hk => ?_, fun k hk => ?_, fun k hk => ?_, fun k hk => ?_, fun k h4 hk => ?_⟩
  · rw [bc_r hb (by omega)]
    unfold bcQ
    rw [sc_o (by omega), sc_o (by omega), sc_o (by omega), sc_i hk]
  · rw [bc_r hb (by omega)]
    unfold bcQ
    rw [sc_o (by omega), sc_o (by omega), sc_i hk, sc_o (by omega)]
  · rw [bc_r hb (by omega)]
    unfold bcQ
    rw [sc_o (by omega), sc_i hk, sc_o (by omega), sc_o (by omega)]
  · rw [bc_r hb (by omega)]
    unfold bcQ
    rw [sc_i hk, sc_o (by omega), sc_o (by omega), sc_o (by omega)]
  · have eb : (bcQ S a b).1 b = S.1 b := bcQ_o (by omega)
    rw [bc_e hb, eb]
    have k4 : k = 4 ∨ k = 5 ∨ k = 6 ∨ k = 7 := by omega
    rcases k4 with rfl | rfl | rfl | rfl
    · show gi (si (si (si (si _ a 4 _) a 5 _) a 6 _) a 7 _) a 4 = _
      rw [tb_n (fun e => absurd e.2 (by decide)), tb_n (fun e => absurd e.2 (by decide)), tb_n (fun e => absurd e.2 (by decide)), tb_h]
    · show gi (si (si (si (si _ a 4 _) a 5 _) a 6 _) a 7 _) a 5 = _
      rw [tb_n (fun e => absurd e.2 (by decide)), tb_n (fun e => absurd e.2 (by decide)), tb_h]
    · show gi (si (si (si (si _ a 4 _) a 5 _) a 6 _) a 7 _) a 6 = _
      rw [tb_n (fun e => absurd e.2 (by decide)), tb_h]
    · exact tb_h
theorem fl_one {p q : Nat → Bool} {x m : Nat} (hp : p x = true) (hq : q x = false) (he : ∀ j, j < m → j ≠ x → q j = p j) : ∀ n, n ≤ m → ((List.range n).filter p).length = ((List.range n).filter q).length + (if x < n then 1 else 0)
  | 0, _ => rfl
  | n + 1, hn => by
    rw [List.range_succ, List.filter_append, List.filter_append, List.length_append, List.length_append, fl_one hp hq he n (by omega)]
    by_cases c : n = x
    · subst c
      rw [if_neg (Nat.lt_irrefl n), if_pos (Nat.lt_succ_self n), List.filter_cons_of_pos hp, List.filter_cons_of_neg (by rw [hq]; decide)]
      rfl
    · have e : List.filter p [n] = List.filter q [n] := List.filter_congr fun j hj => by
        rw [List.mem_singleton.mp hj]; exact (he n (by omega) c).symm
      rw [e]
      by_cases d : x < n
      · rw [if_pos d, if_pos (by omega)]; omega
      · rw [if_neg d, if_neg (by omega)]; omega
