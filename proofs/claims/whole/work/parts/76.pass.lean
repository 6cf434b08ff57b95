/-! ===== an hour passes: out and in ===== -/
def PsR (N K n h q e : Nat) (T0 S0 T S : Sm) : Prop := (∀ b, b < 25 ∨ 30 ≤ b → b ≠ 41 → S.1 b = S0.1 b) ∧ S.1 27 = S0.1 27 ∧ (∀ b, b ≠ 70 → b ≠ 74 → T.1 b = T0.1 b) ∧ (∀ k, k < 80 → T.1 70 k = T0.1 70 k) ∧ (∀ m, m < 8 → gi S 41 m = gi T 74 m) ∧ (gl S0 40 6 = gl T0 53 35 → gl S 40 6 = gl T 53 35) ∧ PsN N K n h q e (T.1 70) (S.1 26) (S.1 28) (S.1 29) (S.1 25)
section PS
variable {N K F R w : Nat} {U : List Nat} {X : List (List Cl)} {T S : Sm}
theorem PsN.tr {n h q e q' e' : Nat} {M M' tr tr' gd lg lg' ob ob' : Nat → Int32} (h0 : PsN N K n h q e M tr gd lg ob) {r : Nat} (hr : r < n) (hM : ∀ k, k < 88 + 6 * r ∨ 94 + 6 * r ≤ k → k < 139 → M' k = M k) (hS : ∀ k, k < 7 * r ∨ 7 * r + 7 ≤ k → tr' k = tr k) (hn : TnR N K h M' tr' r) (hob : ∀ k, 4 ≤ k → k < 7 → ob' k = ob k) (hq : q' ≤ 8 * h + e') (h7 : M' 139 = nI (min q' 60) ∧ ob' 7 = nI q') (hl : LgR M' lg' q') : PsN N K n h q' e' M' tr' gd lg' ob' := by
  obtain ⟨h1, h2, h3, h4, ⟨a1, a2⟩, ⟨b1, b2⟩, c, d, e, f⟩ := h0
  refine ⟨fun m hm => ?_, h2, h3, hq, ⟨(hM _ (by omega) (by omega)).trans a1, (hob 4 (by omega) (by omega)).trans a2⟩, ⟨(hM _ (by omega) (by omega)).trans b1, (hob 5 (by omega) (by omega)).trans b2⟩, (hM _ (by omega) (by omega)).trans (c.trans (hob 6 (by omega) (by omega)).symm), h7, fun r' hr' => ?_, hl⟩
  · obtain ⟨g, g1, g2, g3⟩ := h1 m hm
    exact ⟨g, g1, (hM _ (by omega) (by omega)).trans g2, g3⟩
  · by_cases y : r' = r
    · rw [y]; exact hn
    · have uM : ∀ k, k < 6 → M' (88 + 6 * r' + k) = M (88 + 6 * r' + k) := fun k hk => hM _ (by omega) (by omega)
      have uS : ∀ k, k < 7 → tr' (7 * r' + k) = tr (7 * r' + k) := fun k hk => hS _ (by omega)
      obtain ⟨m, c, s, t, d, i1, i2, i3, i4, i5, ⟨j1, j2⟩, ⟨k1, k2⟩, ⟨l1, l2⟩, ⟨m1, m2⟩, ⟨n1, n2⟩, o⟩ := e r' hr'
      refine ⟨m, c, s, t, d, i1, i2, i3, i4, i5, ⟨(uM 0 (by omega)).trans j1, (uS 0 (by omega)).trans j2⟩, ⟨(uM 1 (by omega)).trans k1, (uS 1 (by omega)).trans k2⟩, ⟨(uM 2 (by omega)).trans l1, (uS 3 (by omega)).trans l2⟩, ⟨(uM 3 (by omega)).trans m1, (uS 2 (by omega)).trans m2⟩, ⟨(uM 4 (by omega)).trans n1, (uS 4 (by omega)).trans n2⟩, ?_⟩
      rcases o with ⟨o1, o2⟩ | ⟨u, u1, u2, u3, u4, u5⟩
      · exact Or.inl ⟨(uM 5 (by omega)).trans o1, (uS 5 (by omega)).trans o2⟩
      · exact Or.inr ⟨u, u1, u2, (uM 5 (by omega)).trans u3, (uS 5 (by omega)).trans u4, (uS 6 (by omega)).trans u5⟩
/-- one comes out -/
theorem ps_out {n h q e r m : Nat} {T0 S0 : Sm} (p : PsR N K n h q e T0 S0 T S) (he : e ≤ 100) (hr : r < n) (hm : m < N) (h8 : N ≤ 8) (v1 v2 v : Int32) : ∃ T' S', Md_pass_78_L23 v1 v2 (nI r) (nI r) 0 (nI m) T = some (Sum.inl (nI (r + 1), T')) ∧ Hr_comeOut_74_L25 v (nI r) (nI m) S = some (Sum.inl (nI (r + 1), S')) ∧ PsR N K n h (q + 1) (e + 1) T0 S0 T' S' ∧ T'.1 70 (88 + 6 * r + 5) = mI ∧ ∀ k, k < 88 + 6 * r ∨ 94 + 6 * r ≤ k → k < 139 → T'.1 70 k = T.1 70 k := by
  obtain ⟨p1, p2, p3, p4, p5, p6, pn⟩ := p
  have n8 := pn.2.1
  have hh := pn.2.2.1
  have hq := pn.2.2.2.1
  have e137 : gi T 70 137 = nI h := pn.2.2.2.2.2.1.1
  have e5 : gi S 25 5 = nI h := pn.2.2.2.2.2.1.2
  have e139 : gi T 70 139 = nI (min q 60) := pn.2.2.2.2.2.2.2.1.1
  have e7 : gi S 25 7 = nI q := pn.2.2.2.2.2.2.2.1.2
  obtain ⟨m0, c, s, t, d, i1, i2, i3, i4, i5, j, k, l, mm, nn, o⟩ := pn.2.2.2.2.2.2.2.2.1 r hr
  have hl := pn.2.2.2.2.2.2.2.2.2
  have qm : q % 60 < 60 := Nat.mod_lt _ (by omega)
  /- the class -/
  have cS : Mo_comeOut (nI r) (nI m) S = si (si (si (si S 26 (7 * r + 0) (nI m)) 26 (7 * r + 5) (nI 0)) 29 (q % 60) (nI ((h * 8 + m) * 8 + r))) 25 7 (nI (q + 1)) := by
    have f1 : gi (si (si S 26 (7 * r + 0) (nI m)) 26 (7 * r + 5) (nI 0)) 25 7 = nI q := (tb_n (fun e => absurd e.1 (by decide))).trans ((tb_n (fun e => absurd e.1 (by decide))).trans e7)
    have f2 : gi (si (si S 26 (7 * r + 0) (nI m)) 26 (7 * r + 5) (nI 0)) 25 5 = nI h := (tb_n (fun e => absurd e.1 (by decide))).trans ((tb_n (fun e => absurd e.1 (by decide))).trans e5)
    have f3 : ∀ v, gi (si (si (si S 26 (7 * r + 0) (nI m)) 26 (7 * r + 5) (nI 0)) 29 (q % 60) v) 25 7 = nI q := fun v => (tb_n (fun e => absurd e.1 (by decide))).trans f1
    unfold Mo_comeOut
    rw [show (0 : Int32) = nI 0 from rfl, show (5 : Int32) = nI 5 from rfl, tr_set (by omega) (by omega), q_app, tr_set (by omega) (by omega), q_app, f1, f2, show (60 : Int32) = nI 60 from rfl, show (8 : Int32) = nI 8 from rfl, show (1 : Int32) = nI 1 from rfl, q_rem (by omega) (by omega) (by omega), q_mul, q_add, q_mul, q_add, q_pu qm (by omega), q_app, f3, q_add]
  generalize hS4 : si (si (si (si S 26 (7 * r + 0) (nI m)) 26 (7 * r + 5) (nI 0)) 29 (q % 60) (nI ((h * 8 + m) * 8 + r))) 25 7 (nI (q + 1)) = S4 at cS
  have s4o : ∀ b, b < 25 ∨ 30 ≤ b ∨ b = 27 ∨ b = 28 → S4.1 b = S.1 b := fun b hb => by subst hS4; rw [si_row (by omega), si_row (by omega), si_row (by omega), si_row (by omega)]
  have e41 : atF (gi S4 41) 8 (nI m) = gi S 41 m := (q_at (by omega) (by omega)).trans (congrFun (s4o 41 (by omega)) m)
  have cS2 : Hr_comeOut_74_L25 v (nI r) (nI m) S = some (Sum.inl (nI (r + 1), si S4 41 m (gi S 41 m + 1))) := by
    unfold Hr_comeOut_74_L25 Hr_comeOut_102_L25
    rw [cS, q_app, e41, q_pu (by omega) (by omega), q_app, show nI r + 1 = nI (r + 1) from q_add r 1]
  /- the reference -/
  have t0 : gi (si T 70 (88 + 6 * r + 0) (nI m)) 70 (88 + 6 * r + 0) = nI m := tb_h
  have t0' : gi (si (si T 70 (88 + 6 * r + 0) (nI m)) 70 (88 + 6 * r + 5) mI) 70 (88 + 6 * r + 0) = nI m := (tb_n (by omega)).trans t0
  have t1 : ∀ v, gi (si (si (si T 70 (88 + 6 * r + 0) (nI m)) 70 (88 + 6 * r + 5) mI) 74 m v) 70 (88 + 6 * r + 0) = nI m := fun v => (tb_n (fun e => absurd e.1 (by decide))).trans t0'
  have t2 : ∀ v, gi (si (si (si T 70 (88 + 6 * r + 0) (nI m)) 70 (88 + 6 * r + 5) mI) 74 m v) 70 137 = nI h := fun v => (tb_n (fun e => absurd e.1 (by decide))).trans ((tb_n (by omega)).trans ((tb_n (by omega)).trans e137))
  have t3 : ∀ v, gi (si (si (si T 70 (88 + 6 * r + 0) (nI m)) 70 (88 + 6 * r + 5) mI) 74 m v) 70 139 = nI (min q 60) := fun v => (tb_n (fun e => absurd e.1 (by decide))).trans ((tb_n (by omega)).trans ((tb_n (by omega)).trans e139))
  have t4 : gi (si (si T 70 (88 + 6 * r + 0) (nI m)) 70 (88 + 6 * r + 5) mI) 74 m = gi T 74 m := (tb_n (fun e => absurd e.1 (by decide))).trans (tb_n (fun e => absurd e.1 (by decide)))
  have lgT : ∀ v, LgR ((si (si (si T 70 (88 + 6 * r + 0) (nI m)) 70 (88 + 6 * r + 5) mI) 74 m v).1 70) (S.1 29) q := fun v i hi => by
    obtain ⟨r', m', t, r1, r2, r3, r4, r5, r6, r7⟩ := hl i hi
    have u : ∀ k, 140 ≤ k → (si (si (si T 70 (88 + 6 * r + 0) (nI m)) 70 (88 + 6 * r + 5) mI) 74 m v).1 70 k = T.1 70 k := fun k hk => by (show gi _ _ _ = _; repeat (first | rw [tb_h] | rw [tb_n (by omega)] | rw [tb_e (by omega)])); try rfl
    exact ⟨r', m', t, r1, r2, r3, (u _ (by omega)).trans r4, (u _ (by omega)).trans r5, (u _ (by omega)).trans r6, r7⟩
  obtain ⟨T', n1, n2, n3, n4, n5, n6⟩ := md_note (T := si (si (si T 70 (88 + 6 * r + 0) (nI m)) 70 (88 + 6 * r + 5) mI) 74 m (gi T 74 m + 1)) (r := r) (m := m) (h := h) (q := q) (lg := S.1 29) (lg' := S4.1 29) (by omega) (by omega) (by omega) (t1 _) (t2 _) (t3 _) (lgT _) (by subst hS4; (show gi _ _ _ = _; repeat (first | rw [tb_h] | rw [tb_n (by omega)] | rw [tb_e (by omega)])); try rfl) (fun k hk hk2 => by subst hS4; (show gi _ _ _ = _; repeat (first | rw [tb_h] | rw [tb_n (by omega)] | rw [tb_e (by omega)])); try rfl)
  have cT : Md_pass_78_L23 v1 v2 (nI r) (nI r) 0 (nI m) T = some (Sum.inl (nI (r + 1), T')) := by
    have ib : inb (nI m) 8 := nI_in (by omega) (by omega)
    have u1 : Md_put_ (nI r) 0 (nI m) T = some (si T 70 (88 + 6 * r + 0) (nI m)) := md_put (k := 0) (by omega) (by omega)
    have u2 : Md_put_ (nI r) 5 (-1) (si T 70 (88 + 6 * r + 0) (nI m)) = some (si (si T 70 (88 + 6 * r + 0) (nI m)) 70 (88 + 6 * r + 5) mI) := md_put (k := 5) (by omega) (by omega)
    have u3 : Md_of (nI r) 0 (si (si T 70 (88 + 6 * r + 0) (nI m)) 70 (88 + 6 * r + 5) mI) = some (gi (si (si T 70 (88 + 6 * r + 0) (nI m)) 70 (88 + 6 * r + 5) mI) 70 (88 + 6 * r + 0)) := md_of (k := 0) (by omega) (by omega)
    unfold Md_pass_78_L23 Md_pass_108_L23
    rw [u1, q_bind, u2, q_bind, u3, q_bind, t0', if_pos ib, if_pos ib, q_ix (by omega), t4, n1, q_bind, show nI r + 1 = nI (r + 1) from q_add r 1]
  have tk : ∀ k, k < 139 → k ≠ 88 + 6 * r + 0 → k ≠ 88 + 6 * r + 5 → T'.1 70 k = T.1 70 k := fun k h1 h2 h3 => (n4 k h1).trans (by (show gi _ _ _ = _; repeat (first | rw [tb_h] | rw [tb_n (by omega)] | rw [tb_e (by omega)])); try rfl)
  have t5 : T'.1 70 (88 + 6 * r + 5) = mI := (n4 _ (by omega)).trans (by (show gi _ _ _ = _; repeat (first | rw [tb_h] | rw [tb_n (by omega)] | rw [tb_e (by omega)])); try rfl)
  refine ⟨T', si S4 41 m (gi S 41 m + 1), cT, cS2, ⟨fun b hb h4 => ?_, ?_, fun b h1 h2 => ?_, fun k hk => ?_, fun m' hm' => ?_, fun hg => ?_, ?_⟩, t5, fun k hk hk2 => tk k hk2 (by omega) (by omega)⟩
  · rw [si_row h4, s4o b (by omega)]; exact p1 b hb h4
  · rw [si_row (by omega), s4o 27 (by omega)]; exact p2
  · rw [n3 b h1, si_row h2, si_row h1, si_row h1]; exact p3 b h1 h2
  · rw [tk k (by omega) (by omega) (by omega)]; exact p4 k hk
  · have e74 : gi T' 74 m' = if m' = m then gi T 74 m + 1 else gi T 74 m' := by
      rw [show gi T' 74 m' = gi (si (si (si T 70 (88 + 6 * r + 0) (nI m)) 70 (88 + 6 * r + 5) mI) 74 m (gi T 74 m + 1)) 74 m' from congrFun (n3 74 (by omega)) m']
      by_cases z : m' = m
      · rw [if_pos z, z]; exact tb_h
      · rw [if_neg z, tb_n (fun e => z e.2), tb_n (fun e => absurd e.1 (by decide)), tb_n (fun e => absurd e.1 (by decide))]
    rw [e74]
    by_cases z : m' = m
    · rw [if_pos z, z, tb_h, p5 m (by omega)]
    · rw [if_neg z, tb_n (fun e => z e.2)]
      exact (congrFun (s4o 41 (by omega)) m').trans (p5 m' hm')
  · have g1 : gl T' 53 35 = gl T 53 35 := congrFun (congrFun n2 53) 35
    rw [g1]
    show S4.2 40 6 = _
    subst hS4
    exact p6 hg
  · have e25 : ∀ k, k ≠ 7 → (si S4 41 m (gi S 41 m + 1)).1 25 k = S.1 25 k := fun k hk => by subst hS4; (show gi _ _ _ = _; repeat (first | rw [tb_h] | rw [tb_n (by omega)] | rw [tb_e (by omega)])); try rfl
    have e257 : (si S4 41 m (gi S 41 m + 1)).1 25 7 = nI (q + 1) := by subst hS4; (show gi _ _ _ = _; repeat (first | rw [tb_h] | rw [tb_n (by omega)] | rw [tb_e (by omega)])); try rfl
    have e26 : ∀ k, k ≠ 7 * r + 0 → k ≠ 7 * r + 5 → (si S4 41 m (gi S 41 m + 1)).1 26 k = S.1 26 k := fun k h1 h2 => by subst hS4; (show gi _ _ _ = _; repeat (first | rw [tb_h] | rw [tb_n (by omega)] | rw [tb_e (by omega)])); try rfl
    have e260 : (si S4 41 m (gi S 41 m + 1)).1 26 (7 * r) = nI m := by subst hS4; (show gi _ _ _ = _; repeat (first | rw [tb_h] | rw [tb_n (by omega)] | rw [tb_e (by omega)])); try rfl
    have e265 : (si S4 41 m (gi S 41 m + 1)).1 26 (7 * r + 5) = nI 0 := by subst hS4; (show gi _ _ _ = _; repeat (first | rw [tb_h] | rw [tb_n (by omega)] | rw [tb_e (by omega)])); try rfl
    have e28 : (si S4 41 m (gi S 41 m + 1)).1 28 = S.1 28 := by rw [si_row (by omega), s4o 28 (by omega)]
    have e29 : (si S4 41 m (gi S 41 m + 1)).1 29 = S4.1 29 := si_row (by omega)
    rw [e28, e29]
    refine pn.tr hr (fun k hk hk2 => tk k hk2 (by omega) (by omega)) (fun k hk => e26 k (by omega) (by omega)) ⟨m, c, s, t, d, hm, i2, i3, i4, i5, ⟨?_, e260⟩, ⟨(tk _ (by omega) (by omega) (by omega)).trans k.1, (e26 _ (by omega) (by omega)).trans k.2⟩, ⟨(tk _ (by omega) (by omega) (by omega)).trans l.1, (e26 _ (by omega) (by omega)).trans l.2⟩, ⟨(tk _ (by omega) (by omega) (by omega)).trans mm.1, (e26 _ (by omega) (by omega)).trans mm.2⟩, ⟨(tk _ (by omega) (by omega) (by omega)).trans nn.1, (e26 _ (by omega) (by omega)).trans nn.2⟩, Or.inl ⟨t5, e265⟩⟩ (fun k h1 h2 => e25 k (by omega)) (by omega) ⟨n5, e257⟩ n6
    exact (n4 _ (by omega)).trans (t1 _)
theorem ps_way (h8 : N ≤ 8) (h5 : K ≤ 5) (hD : DkR N U (S.1 13) (T.1 70) (S.1 27)) {m c : Nat} (hm : m < N) (hc : c < K ∨ c = 5) : ∃ L D, L < N ∧ 1 ≤ D ∧ D ≤ 9 ∧ Wy_leadsTo (nI m) (nI c) S = nI L ∧ Wy_takes (nI m) (nI c) S = nI D ∧ ∀ T' : Sm, (∀ k, k < 80 → T'.1 70 k = T.1 70 k) → Md_leads (nI m) (nI c) T' = some (nI L) ∧ Md_lasts (nI m) (nI c) T' = some (nI D) := by
  rcases hc with hc | rfl
  · obtain ⟨⟨a1, a2, a3⟩, ⟨b1, b2⟩, -⟩ := dk_way h8 hD hm (show c < 5 by omega)
    refine ⟨_, _, a1, a2, a3, b1, b2, fun T' hT => ?_⟩
    have eL : Ld (T'.1 70) m c = Ld (T.1 70) m c := by unfold Ld; rw [hT _ (by omega)]
    have eN : Ln (T'.1 70) m c = Ln (T.1 70) m c := by unfold Ln; rw [hT _ (by omega), hT _ (by omega)]
    obtain ⟨-, -, c1, c2⟩ := dk_way (T := T') (S := S) h8 (hD.ext hT (fun _ _ => rfl) (fun _ _ => rfl)) hm (show c < 5 by omega)
    rw [eL] at c1
    rw [eN] at c2
    exact ⟨c1, c2⟩
  · refine ⟨m, 1, hm, by omega, by omega, rfl, rfl, fun T' _ => ⟨?_, rfl⟩⟩
    unfold Md_leads Md_leads_21 Md_leads_31
    rw [if_pos (show nI 5 = 5 from rfl), if_neg (show ¬ (0 : Int32) ≤ -1 by decide)]
/-- one goes in -/
theorem ps_in {n h q e r : Nat} {T0 S0 : Sm} (p : PsR N K n h q e T0 S0 T S) (hn : NetR N K F T S) (hD : DkR N U (S.1 13) (T.1 70) (S.1 27)) (hr : r < n) {c : Nat} (hc : c < K ∨ c = 5) (hl1 : Hr_lampOf (nI r) S = some (nI c)) (hl2 : Md_lampOf (nI r) T = some (nI c)) (hd0 : ¬ gi T 70 (88 + 6 * r + 4) ≤ 0) (v : Int32) : ∃ T' S', Md_pass_173_L116 v (nI r) 1 T = some (Sum.inl (nI (r + 1), T')) ∧ ((Hr_lampOf (nI r) S).bind fun q1 => (app (Mo_enter (nI r) (Wy_leadsTo (Mo_ofTrain (nI r) 0 S) q1 S) (Wy_takes (Mo_ofTrain (nI r) 0 S) q1 S) S) fun q2 => (Hr_goIn_66_L2 (nI r) q2))) = some (Sum.inl (nI (r + 1), S')) ∧ PsR N K n h q e T0 S0 T' S' ∧ (∃ u, h < u ∧ u < 2000000 ∧ T'.1 70 (88 + 6 * r + 5) = nI u) ∧ ∀ k, k < 88 + 6 * r ∨ 94 + 6 * r ≤ k → T'.1 70 k = T.1 70 k := by
  obtain ⟨p1, p2, p3, p4, p5, p6, pn⟩ := p
  have n8 := pn.2.1
  have hh := pn.2.2.1
  have hq := pn.2.2.2.1
  have h8 := hn.2.2.2.2.2.2.1
  have h5 := hn.2.2.2.2.2.2.2.1
  have e137 : gi T 70 137 = nI h := pn.2.2.2.2.2.1.1
  have e5 : gi S 25 5 = nI h := pn.2.2.2.2.2.1.2
  obtain ⟨m, c0, s, t, d, i1, i2, i3, i4, i5, ⟨j1, j2⟩, k, l, mm, ⟨nn1, nn2⟩, o⟩ := pn.2.2.2.2.2.2.2.2.1 r hr
  have hl := pn.2.2.2.2.2.2.2.2.2
  have j1 : gi T 70 (88 + 6 * r + 0) = nI m := j1
  have j2 : gi S 26 (7 * r + 0) = nI m := j2
  have nn1 : gi T 70 (88 + 6 * r + 4) = nI d := nn1
  have nn2 : gi S 26 (7 * r + 4) = nI d := nn2
  have d0 : 0 < d := by
    rw [nn1] at hd0
    exact Nat.pos_of_ne_zero fun z => hd0 (by rw [z]; decide)
  obtain ⟨L, D, hL, hD1, hD9, w1, w2, wT⟩ := ps_way (T := T) (S := S) h8 h5 hD i1 hc
  have cS : Mo_enter (nI r) (nI L) (nI D) S = si (si (si (si S 26 (7 * r + 0) (nI L)) 26 (7 * r + 6) (nI (h + D))) 26 (7 * r + 5) (nI 1)) 26 (7 * r + 4) (nI (d - 1)) := by
    have f1 : gi (si S 26 (7 * r + 0) (nI L)) 25 5 = nI h := (tb_n (fun e => absurd e.1 (by decide))).trans e5
    have f2 : gi (si (si (si S 26 (7 * r + 0) (nI L)) 26 (7 * r + 6) (nI (h + D))) 26 (7 * r + 5) (nI 1)) 26 (7 * r + 4) = nI d := (tb_n (by omega)).trans ((tb_n (by omega)).trans ((tb_n (by omega)).trans nn2))
    unfold Mo_enter
    simp (disch := omega) only [q_lit, q_m1, q_m2, q_hid, q_add, q_mul, q_sub, q_le, q_lt, q_eq, q_mlt, q_mle, q_ltm, q_lem, q_meq, q_eqm, q_m2lt, q_m2le, q_ltm2, q_lem2, q_eqm2, q_mm2, q_m2m, q_mm, q_mnm, q_ix, q_inb, q_a0, q_a1, q_app, q_bind, if_true, if_false, if_pos, if_neg, tr_set, f1, mo_of, f2]
  have oS : Mo_ofTrain (nI r) 0 S = nI m := (mo_of (k := 0) (by omega) (by omega)).trans j2
  have oT : Md_of (nI r) 0 T = some (nI m) := (md_of (k := 0) (by omega) (by omega)).trans (congrArg some j1)
  have u1 : Md_put_ (nI r) 5 (nI (h + D)) T = some (si T 70 (88 + 6 * r + 5) (nI (h + D))) := md_put (k := 5) (by omega) (by omega)
  have oT2 : Md_of (nI r) 0 (si T 70 (88 + 6 * r + 5) (nI (h + D))) = some (nI m) := (md_of (k := 0) (by omega) (by omega)).trans (congrArg some ((tb_n (by omega)).trans j1))
  have u2 : Md_put_ (nI r) 0 (nI L) (si T 70 (88 + 6 * r + 5) (nI (h + D))) = some (si (si T 70 (88 + 6 * r + 5) (nI (h + D))) 70 (88 + 6 * r + 0) (nI L)) := md_put (k := 0) (by omega) (by omega)
  have oT3 : Md_of (nI r) 4 (si (si T 70 (88 + 6 * r + 5) (nI (h + D))) 70 (88 + 6 * r + 0) (nI L)) = some (nI d) := (md_of (k := 4) (by omega) (by omega)).trans (congrArg some ((tb_n (by omega)).trans ((tb_n (by omega)).trans nn1)))
  have u3 : Md_put_ (nI r) 4 (nI (d - 1)) (si (si T 70 (88 + 6 * r + 5) (nI (h + D))) 70 (88 + 6 * r + 0) (nI L)) = some (si (si (si T 70 (88 + 6 * r + 5) (nI (h + D))) 70 (88 + 6 * r + 0) (nI L)) 70 (88 + 6 * r + 4) (nI (d - 1))) := md_put (k := 4) (by omega) (by omega)
  have t80 : ∀ k, k < 88 + 6 * r ∨ 94 + 6 * r ≤ k → (si (si (si T 70 (88 + 6 * r + 5) (nI (h + D))) 70 (88 + 6 * r + 0) (nI L)) 70 (88 + 6 * r + 4) (nI (d - 1))).1 70 k = T.1 70 k := fun k hk => by (show gi _ _ _ = _; repeat (first | rw [tb_h] | rw [tb_n (by omega)] | rw [tb_e (by omega)])); try rfl
  have wl := (wT T fun _ _ => rfl).2
  have wd := (wT (si T 70 (88 + 6 * r + 5) (nI (h + D))) fun k hk => by (show gi _ _ _ = _; repeat (first | rw [tb_h] | rw [tb_n (by omega)] | rw [tb_e (by omega)])); try rfl).1
  refine ⟨si (si (si T 70 (88 + 6 * r + 5) (nI (h + D))) 70 (88 + 6 * r + 0) (nI L)) 70 (88 + 6 * r + 4) (nI (d - 1)), si (si (si (si S 26 (7 * r + 0) (nI L)) 26 (7 * r + 6) (nI (h + D))) 26 (7 * r + 5) (nI 1)) 26 (7 * r + 4) (nI (d - 1)), ?_, ?_, ⟨fun b hb h4 => ?_, ?_, fun b h1 h2 => ?_, fun k hk => ?_, fun m' hm' => ?_, fun hg => p6 hg, ?_⟩, ⟨h + D, by omega, by omega, by (show gi _ _ _ = _; repeat (first | rw [tb_h] | rw [tb_n (by omega)] | rw [tb_e (by omega)])); try rfl⟩, t80⟩
  · unfold Md_pass_173_L116 Md_pass_246_L116
    rw [if_neg (show ¬ (1 : Int32) = 0 by decide), hl2, q_bind, oT, q_bind, wl, q_bind, e137, q_add, u1, q_bind, oT2, q_bind, wd, q_bind, u2, q_bind, oT3, q_bind, show nI d - 1 = nI (d - 1) from q_sub (b := 1) (by omega), u3, q_bind, show nI r + 1 = nI (r + 1) from q_add r 1]
  · unfold Hr_goIn_66_L2
    rw [hl1, q_bind, oS, w1, w2, cS, q_app, show nI r + 1 = nI (r + 1) from q_add r 1]
  · rw [si_row (by omega), si_row (by omega), si_row (by omega), si_row (by omega)]; exact p1 b hb h4
  · rw [si_row (by omega), si_row (by omega), si_row (by omega), si_row (by omega)]; exact p2
  · rw [si_row h1, si_row h1, si_row h1]; exact p3 b h1 h2
  · rw [t80 k (by omega)]; exact p4 k hk
  · exact p5 m' hm'
  · have e26 : ∀ k, k < 7 * r ∨ 7 * r + 7 ≤ k ∨ k = 7 * r + 1 ∨ k = 7 * r + 2 ∨ k = 7 * r + 3 → (si (si (si (si S 26 (7 * r + 0) (nI L)) 26 (7 * r + 6) (nI (h + D))) 26 (7 * r + 5) (nI 1)) 26 (7 * r + 4) (nI (d - 1))).1 26 k = S.1 26 k := fun k hk => by (show gi _ _ _ = _; repeat (first | rw [tb_h] | rw [tb_n (by omega)] | rw [tb_e (by omega)])); try rfl
    have tk : ∀ k, k ≠ 88 + 6 * r + 0 → k ≠ 88 + 6 * r + 4 → k ≠ 88 + 6 * r + 5 → (si (si (si T 70 (88 + 6 * r + 5) (nI (h + D))) 70 (88 + 6 * r + 0) (nI L)) 70 (88 + 6 * r + 4) (nI (d - 1))).1 70 k = T.1 70 k := fun k h1 h2 h3 => by (show gi _ _ _ = _; repeat (first | rw [tb_h] | rw [tb_n (by omega)] | rw [tb_e (by omega)])); try rfl
    refine pn.tr hr (fun k hk _ => t80 k hk) (fun k hk => e26 k (by omega)) ⟨L, c0, s, t, d - 1, hL, i2, i3, i4, by omega, ⟨?_, ?_⟩, ⟨(tk _ (by omega) (by omega) (by omega)).trans k.1, (e26 _ (by omega)).trans k.2⟩, ⟨(tk _ (by omega) (by omega) (by omega)).trans l.1, (e26 _ (by omega)).trans l.2⟩, ⟨(tk _ (by omega) (by omega) (by omega)).trans mm.1, (e26 _ (by omega)).trans mm.2⟩, ⟨?_, ?_⟩, Or.inr ⟨h + D, by omega, by omega, ?_, ?_, ?_⟩⟩ (fun _ _ _ => rfl) hq ⟨(t80 _ (by omega)).trans pn.2.2.2.2.2.2.2.1.1, pn.2.2.2.2.2.2.2.1.2⟩ (fun i hi => ?_)
    · (show gi _ _ _ = _; repeat (first | rw [tb_h] | rw [tb_n (by omega)] | rw [tb_e (by omega)])); try rfl
    · (show gi _ _ _ = _; repeat (first | rw [tb_h] | rw [tb_n (by omega)] | rw [tb_e (by omega)])); try rfl
    · (show gi _ _ _ = _; repeat (first | rw [tb_h] | rw [tb_n (by omega)] | rw [tb_e (by omega)])); try rfl
    · (show gi _ _ _ = _; repeat (first | rw [tb_h] | rw [tb_n (by omega)] | rw [tb_e (by omega)])); try rfl
    · (show gi _ _ _ = _; repeat (first | rw [tb_h] | rw [tb_n (by omega)] | rw [tb_e (by omega)])); try rfl
    · (show gi _ _ _ = _; repeat (first | rw [tb_h] | rw [tb_n (by omega)] | rw [tb_e (by omega)])); try rfl
    · (show gi _ _ _ = _; repeat (first | rw [tb_h] | rw [tb_n (by omega)] | rw [tb_e (by omega)])); try rfl
    · obtain ⟨r', m', t, r1, r2, r3, r4, r5, r6, r7⟩ := hl i hi
      exact ⟨r', m', t, r1, r2, r3, (t80 _ (by omega)).trans r4, (t80 _ (by omega)).trans r5, (t80 _ (by omega)).trans r6, r7⟩
end PS
