/-! ===== ways: what readers of the net as it is need ===== -/
def WyP (N K : Nat) (L D : Nat → Nat → Nat) : Prop := N ≤ 8 ∧ K ≤ 5 ∧ 0 < N ∧ 0 < K ∧ ∀ m c, m < N → (c < K ∨ c = 5) → L m c < N ∧ 1 ≤ D m c ∧ D m c ≤ 9
def WyS (N K : Nat) (L D : Nat → Nat → Nat) (S : Sm) : Prop := Nt_mouths S = nI N ∧ Nt_colours S = nI K ∧ ∀ m c, m < N → (c < K ∨ c = 5) → Wy_leadsTo (nI m) (nI c) S = nI (L m c) ∧ Wy_takes (nI m) (nI c) S = nI (D m c)
def WyT (N K : Nat) (L D : Nat → Nat → Nat) (T : Sm) : Prop := gi T 68 0 = nI N ∧ gi T 68 1 = nI K ∧ ∀ m c, m < N → (c < K ∨ c = 5) → Md_leads (nI m) (nI c) T = some (nI (L m c)) ∧ Md_lasts (nI m) (nI c) T = some (nI (D m c))
theorem mo_leads {S : Sm} {m c : Nat} (hm : m < 8) (hc : c < 5) : Mo_leads (nI m) (nI c) S = gi S 27 (5 * m + c) := by
  unfold Mo_leads Dk_darkOf
  simp (disch := omega) only [q_lit, q_m1, q_m2, q_hid, q_add, q_mul, q_sub, q_le, q_lt, q_eq, q_mlt, q_mle, q_ltm, q_lem, q_meq, q_eqm, q_m2lt, q_m2le, q_ltm2, q_lem2, q_eqm2, q_mm2, q_m2m, q_mm, q_mnm, q_ix, q_inb, q_a0, q_a1, q_app, q_bind, if_true, if_false, if_pos, if_neg, q_at]
  exact congrArg _ (by omega)
theorem nt_len {S : Sm} {m c : Nat} (hm : m < 8) (hc : c < 5) : Nt_lengthOf (nI m) (nI c) S = gi S 13 (5 * m + c) := by
  unfold Nt_lengthOf Dk_darkOf
  simp (disch := omega) only [q_lit, q_m1, q_m2, q_hid, q_add, q_mul, q_sub, q_le, q_lt, q_eq, q_mlt, q_mle, q_ltm, q_lem, q_meq, q_eqm, q_m2lt, q_m2le, q_ltm2, q_lem2, q_eqm2, q_mm2, q_m2m, q_mm, q_mnm, q_ix, q_inb, q_a0, q_a1, q_app, q_bind, if_true, if_false, if_pos, if_neg, q_at]
  exact congrArg _ (by omega)
theorem ne5 {c : Nat} (hc : c < 5) : ¬ nI c = 5 := fun e => by
  rw [show (5 : Int32) = nI 5 from rfl, q_eq (by omega) (by omega)] at e
  omega
theorem md_ld {T : Sm} {m c : Nat} (hm : m < 8) (hc : c < 5) : Md_leads (nI m) (nI c) T = some (if 0 ≤ gi T 70 (5 * m + c) then gi T 70 (5 * m + c) else nI m) := by
  have i1 : ix (0 + 5 * nI m + nI c) = 5 * m + c := by simp (disch := omega) only [q_lit, q_m1, q_m2, q_hid, q_add, q_mul, q_sub, q_le, q_lt, q_eq, q_mlt, q_mle, q_ltm, q_lem, q_meq, q_eqm, q_m2lt, q_m2le, q_ltm2, q_lem2, q_eqm2, q_mm2, q_m2m, q_mm, q_mnm, q_ix, q_inb, q_a0, q_a1, q_app, q_bind, if_true, if_false, if_pos, if_neg]; omega
  have b1 : inb (0 + 5 * nI m + nI c) 320 := by simp (disch := omega) only [q_lit, q_m1, q_m2, q_hid, q_add, q_mul, q_sub, q_le, q_lt, q_eq, q_mlt, q_mle, q_ltm, q_lem, q_meq, q_eqm, q_m2lt, q_m2le, q_ltm2, q_lem2, q_eqm2, q_mm2, q_m2m, q_mm, q_mnm, q_ix, q_inb, q_a0, q_a1, q_app, q_bind, if_true, if_false, if_pos, if_neg]; omega
  unfold Md_leads Md_leads_21 Md_leads_31
  rw [if_neg (ne5 hc), if_pos b1, i1]
  by_cases q : 0 ≤ gi T 70 (5 * m + c)
  · rw [if_pos q, if_pos q]
  · rw [if_neg q, if_neg q]
theorem md_ls {T : Sm} {m c : Nat} (hm : m < 8) (hc : c < 5) : Md_lasts (nI m) (nI c) T = some (if 0 ≤ gi T 70 (5 * m + c) then gi T 70 (40 + (5 * m + c)) else 1) := by
  have i1 : ix (0 + 5 * nI m + nI c) = 5 * m + c := by simp (disch := omega) only [q_lit, q_m1, q_m2, q_hid, q_add, q_mul, q_sub, q_le, q_lt, q_eq, q_mlt, q_mle, q_ltm, q_lem, q_meq, q_eqm, q_m2lt, q_m2le, q_ltm2, q_lem2, q_eqm2, q_mm2, q_m2m, q_mm, q_mnm, q_ix, q_inb, q_a0, q_a1, q_app, q_bind, if_true, if_false, if_pos, if_neg]; omega
  have b1 : inb (0 + 5 * nI m + nI c) 320 := by simp (disch := omega) only [q_lit, q_m1, q_m2, q_hid, q_add, q_mul, q_sub, q_le, q_lt, q_eq, q_mlt, q_mle, q_ltm, q_lem, q_meq, q_eqm, q_m2lt, q_m2le, q_ltm2, q_lem2, q_eqm2, q_mm2, q_m2m, q_mm, q_mnm, q_ix, q_inb, q_a0, q_a1, q_app, q_bind, if_true, if_false, if_pos, if_neg]; omega
  have i2 : ix (40 + 5 * nI m + nI c) = 40 + (5 * m + c) := by simp (disch := omega) only [q_lit, q_m1, q_m2, q_hid, q_add, q_mul, q_sub, q_le, q_lt, q_eq, q_mlt, q_mle, q_ltm, q_lem, q_meq, q_eqm, q_m2lt, q_m2le, q_ltm2, q_lem2, q_eqm2, q_mm2, q_m2m, q_mm, q_mnm, q_ix, q_inb, q_a0, q_a1, q_app, q_bind, if_true, if_false, if_pos, if_neg]; omega
  have b2 : inb (40 + 5 * nI m + nI c) 320 := by simp (disch := omega) only [q_lit, q_m1, q_m2, q_hid, q_add, q_mul, q_sub, q_le, q_lt, q_eq, q_mlt, q_mle, q_ltm, q_lem, q_meq, q_eqm, q_m2lt, q_m2le, q_ltm2, q_lem2, q_eqm2, q_mm2, q_m2m, q_mm, q_mnm, q_ix, q_inb, q_a0, q_a1, q_app, q_bind, if_true, if_false, if_pos, if_neg]; omega
  unfold Md_lasts Md_lasts_20 Md_lasts_37
  rw [if_neg (ne5 hc), if_pos b1, if_pos b2, i1, i2]
  by_cases q : 0 ≤ gi T 70 (5 * m + c)
  · rw [if_pos q, if_pos q]
  · rw [if_neg q, if_neg q]
theorem wy_ld {S : Sm} {m c : Nat} (hm : m < 8) (hc : c < 5) : Wy_leadsTo (nI m) (nI c) S = if gi S 27 (5 * m + c) = -1 then nI m else gi S 27 (5 * m + c) := by
  unfold Wy_leadsTo Wy_leadsTo_18 Wy_leadsTo_29
  rw [if_neg (ne5 hc), mo_leads hm hc]
theorem wy_tk {S : Sm} {m c : Nat} (hm : m < 8) (hc : c < 5) : Wy_takes (nI m) (nI c) S = if gi S 27 (5 * m + c) = -1 then 1 else gi S 13 (5 * m + c) := by
  unfold Wy_takes Wy_takes_18 Wy_takes_37
  rw [if_neg (ne5 hc), mo_leads hm hc, nt_len hm hc]
section WO
variable {N K F R w : Nat} {U : List Nat} {X : List (List Cl)} {T S : Sm}
theorem dk_way {N : Nat} (hN : N ≤ 8) {U : List Nat} {T S : Sm} (hd : DkR N U (S.1 13) (T.1 70) (S.1 27)) {m c : Nat} (hm : m < N) (hc : c < 5) : (Ld (T.1 70) m c < N ∧ 1 ≤ Ln (T.1 70) m c ∧ Ln (T.1 70) m c ≤ 9) ∧ (Wy_leadsTo (nI m) (nI c) S = nI (Ld (T.1 70) m c) ∧ Wy_takes (nI m) (nI c) S = nI (Ln (T.1 70) m c)) ∧ Md_leads (nI m) (nI c) T = some (nI (Ld (T.1 70) m c)) ∧ Md_lasts (nI m) (nI c) T = some (nI (Ln (T.1 70) m c)) := by
  obtain ⟨h1, h2, l, h3, h4, h5⟩ := hd m c (by omega) hc
  rw [md_ld (by omega) hc, md_ls (by omega) hc, wy_ld (by omega) hc, wy_tk (by omega) hc]
  have e27 : gi S 27 (5 * m + c) = S.1 27 (5 * m + c) := rfl
  have e70 : gi T 70 (5 * m + c) = T.1 70 (5 * m + c) := rfl
  have e71 : gi T 70 (40 + (5 * m + c)) = nI l := h2.trans h5
  have e13 : gi S 13 (5 * m + c) = nI l := h5
  unfold Ld Ln
  rw [e27, e70]
  rcases h1 with ⟨p, q, -⟩ | ⟨p, q, r⟩ | ⟨a, ha, p, q⟩
  · have s0 : T.1 70 (5 * m + c) < 0 := by rw [p]; decide
    rw [if_pos (Or.inr s0), if_pos (Or.inr s0), q, if_neg (Int32.not_le.mpr s0), if_neg (Int32.not_le.mpr s0)]
    exact ⟨⟨hm, by omega, by omega⟩, ⟨rfl, rfl⟩, rfl, rfl⟩
  · have s0 : T.1 70 (5 * m + c) < 0 := by rw [p]; decide
    have n1 : ¬ nI m = -1 := fun e => (q_eqm (by omega)).mp e
    rw [if_pos (Or.inr s0), if_pos (Or.inr s0), q, if_neg (Int32.not_le.mpr s0), if_neg (Int32.not_le.mpr s0), if_neg n1, if_neg n1, show gi S 13 (5 * m + c) = nI 1 from r]
    exact ⟨⟨hm, by omega, by omega⟩, ⟨rfl, rfl⟩, rfl, rfl⟩
  · have s0 : ¬ T.1 70 (5 * m + c) < 0 := by rw [p]; exact nI_pos (by omega)
    have o : ¬ (c = 5 ∨ T.1 70 (5 * m + c) < 0) := fun z => z.elim (by omega) s0
    have n1 : ¬ nI a = -1 := fun e => (q_eqm (by omega)).mp e
    have i7 : ix (T.1 70 (40 + (5 * m + c))) = l := by rw [show T.1 70 (40 + (5 * m + c)) = nI l from e71, q_ix (by omega)]
    rw [if_neg o, if_neg o, q, if_pos (Int32.not_lt.mp s0), if_pos (Int32.not_lt.mp s0), if_neg n1, if_neg n1, e71, e13, i7, p, q_ix (by omega)]
    exact ⟨⟨ha, h3, h4⟩, ⟨rfl, rfl⟩, rfl, rfl⟩
theorem way_of (h : RelP N K F R U X w T S) (hN : 0 < N) : WyP N K (Ld (T.1 70)) (Ln (T.1 70)) ∧ WyS N K (Ld (T.1 70)) (Ln (T.1 70)) S ∧ WyT N K (Ld (T.1 70)) (Ln (T.1 70)) T := by
  obtain ⟨hn, -, -, ⟨hd, -⟩, -⟩ := h
  have hd := hd hN
  have hm := n_m hn
  have hk := n_k hn
  obtain ⟨a1, a2, a3, a4, a5, a6, a7, a8, a9, a10⟩ := hn
  have hK : 0 < K := by omega
  have f5 : ∀ m, m < N → Ld (T.1 70) m 5 = m ∧ Ln (T.1 70) m 5 = 1 := fun m _ => ⟨if_pos (Or.inl rfl), if_pos (Or.inl rfl)⟩
  have fc : ∀ m c, m < N → c < K → _ := fun m c hm hc => dk_way a7 hd (m := m) (c := c) hm (by omega)
  have f6 : ∀ m, m < N → (Wy_leadsTo (nI m) (nI 5) S = nI m ∧ Wy_takes (nI m) (nI 5) S = nI 1) ∧ Md_leads (nI m) (nI 5) T = some (nI m) ∧ Md_lasts (nI m) (nI 5) T = some (nI 1) := fun m hm => by
    have l0 : ¬ (0 : Int32) ≤ -1 := by decide
    refine ⟨⟨rfl, rfl⟩, ?_, rfl⟩
    unfold Md_leads Md_leads_21 Md_leads_31
    rw [if_pos (show nI 5 = 5 from rfl), if_neg l0]
  refine ⟨⟨a7, a8, hN, hK, fun m c hm hc => ?_⟩, ⟨hm, hk, fun m c hm hc => ?_⟩, a4, a5, fun m c hm hc => ?_⟩
  · rcases hc with hc | rfl
    · exact (fc m c hm hc).1
    · rw [(f5 m hm).1, (f5 m hm).2]; exact ⟨hm, by omega, by omega⟩
  · rcases hc with hc | rfl
    · exact (fc m c hm hc).2.1
    · rw [(f5 m hm).1, (f5 m hm).2]; exact (f6 m hm).1
  · rcases hc with hc | rfl
    · exact (fc m c hm hc).2.2
    · rw [(f5 m hm).1, (f5 m hm).2]; exact (f6 m hm).2
end WO
section WY
variable {N K : Nat} {L D : Nat → Nat → Nat} {T S : Sm}
def wk (L : Nat → Nat → Nat) (c n m : Nat) : Nat := itr (fun x => L x c) n m
theorem wk_lt (hP : WyP N K L D) {c m : Nat} (hc : c < K ∨ c = 5) (hm : m < N) (n : Nat) : wk L c n m < N := itr_lt (fun x hx => (hP.2.2.2.2 x c hx hc).1) hm n
theorem wy_behind (hP : WyP N K L D) (hS : WyS N K L D S) {m c n : Nat} (hm : m < N) (hc : c < K ∨ c = 5) (hn : n ≤ 1000) : Wy_behind (nI m) (nI c) (nI n) S = some (nI (wk L c n m)) := by
  have e : lpN (Wy_behind_L6 (nI c) (nI n) S) FU (nI m, 0) = some (nI (wk L c n m)) := by
    refine lpN_run0 (fun i => (nI (wk L c i m), nI i)) n (by omega) (fun i hi => ?_) ?_ rfl
    · have hx := (hS.2.2 (wk L c i m) c (wk_lt hP hc hm i) hc).1
      unfold Wy_behind_L6
      simp (disch := omega) only [q_lit, q_m1, q_m2, q_hid, q_add, q_mul, q_sub, q_le, q_lt, q_eq, q_mlt, q_mle, q_ltm, q_lem, q_meq, q_eqm, q_m2lt, q_m2le, q_ltm2, q_lem2, q_eqm2, q_mm2, q_m2m, q_mm, q_mnm, q_ix, q_inb, q_a0, q_a1, q_app, q_bind, if_true, if_false, if_pos, if_neg, hx]
      rfl
    · unfold Wy_behind_L6
      simp (disch := omega) only [q_lit, q_m1, q_m2, q_hid, q_add, q_mul, q_sub, q_le, q_lt, q_eq, q_mlt, q_mle, q_ltm, q_lem, q_meq, q_eqm, q_m2lt, q_m2le, q_ltm2, q_lem2, q_eqm2, q_mm2, q_m2m, q_mm, q_mnm, q_ix, q_inb, q_a0, q_a1, q_app, q_bind, if_true, if_false, if_pos, if_neg, Nat.le_refl]
  unfold Wy_behind
  rw [e]; rfl
theorem md_through (hP : WyP N K L D) (hT : WyT N K L D T) {m c n : Nat} (hm : m < N) (hc : c < K ∨ c = 5) (hn : n ≤ 1000) : Md_through (nI m) (nI c) (nI n) T = some (nI (wk L c n m)) := by
  have e : lpN (Md_through_L6 (nI c) (nI n) T) FU (nI m, 0) = some (nI (wk L c n m)) := by
    refine lpN_run0 (fun i => (nI (wk L c i m), nI i)) n (by omega) (fun i hi => ?_) ?_ rfl
    · have hx := (hT.2.2 (wk L c i m) c (wk_lt hP hc hm i) hc).1
      unfold Md_through_L6
      simp (disch := omega) only [q_lit, q_m1, q_m2, q_hid, q_add, q_mul, q_sub, q_le, q_lt, q_eq, q_mlt, q_mle, q_ltm, q_lem, q_meq, q_eqm, q_m2lt, q_m2le, q_ltm2, q_lem2, q_eqm2, q_mm2, q_m2m, q_mm, q_mnm, q_ix, q_inb, q_a0, q_a1, q_app, q_bind, if_true, if_false, if_pos, if_neg, hx]
      rfl
    · unfold Md_through_L6
      simp (disch := omega) only [q_lit, q_m1, q_m2, q_hid, q_add, q_mul, q_sub, q_le, q_lt, q_eq, q_mlt, q_mle, q_ltm, q_lem, q_meq, q_eqm, q_m2lt, q_m2le, q_ltm2, q_lem2, q_eqm2, q_mm2, q_m2m, q_mm, q_mnm, q_ix, q_inb, q_a0, q_a1, q_app, q_bind, if_true, if_false, if_pos, if_neg, Nat.le_refl]
  unfold Md_through
  rw [e]; rfl
end WY
