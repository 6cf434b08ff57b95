/-! ===== the reference: one net after another ===== -/
def nwS (r j : Nat) : Bool := r == 70 || r == 85 || r == 86 || (r == 53 && (j == 52 || j == 53))
def NwG (T T' : Sm) : Prop := ∀ r j, nwS r j = false → T'.1 r j = T.1 r j
theorem NwG.rfl (T : Sm) : NwG T T := fun _ _ _ => by rfl
theorem NwG.trans {T T1 T2 : Sm} (h : NwG T T1) (h2 : NwG T1 T2) : NwG T T2 := fun i j q => (h2 i j q).trans (h i j q)
theorem NwG.si {T T1 : Sm} (h : NwG T T1) {i j : Nat} {v : Int32} (hc : nwS i j = true) : NwG T (si T1 i j v) := fun a b q => by
  show (if a = i ∧ b = j then v else T1.1 a b) = T.1 a b
  rw [if_neg fun e => by rw [e.1, e.2, hc] at q; cases q]
  exact h a b q
theorem md_thr {N K : Nat} {T' : Sm} {L : Nat → Nat → Nat} (h8 : N ≤ 8) (h5 : K ≤ 5) (hL : ∀ m c, m < N → c < K → Md_leads (nI m) (nI c) T' = some (nI (L m c)) ∧ L m c < N) {m c n : Nat} (hm : m < N) (hc : c < K) (hn : n ≤ 1000) : Md_through (nI m) (nI c) (nI n) T' = some (nI (wk L c n m)) := by
  have hw : ∀ j, wk L c j m < N := itr_lt (fun x hx => (hL x c hx hc).2) hm
  have e : lpN (Md_through_L6 (nI c) (nI n) T') FU (nI m, nI 0) = some (nI (wk L c n m)) := by
    refine lpN_run0 (fun i => (nI (wk L c i m), nI i)) n (by omega) (fun i hi => ?_) ?_ rfl
    · have hx := (hL (wk L c i m) c (hw i) hc).1
      unfold Md_through_L6
      simp (disch := omega) only [q_lit, q_m1, q_m2, q_hid, q_add, q_mul, q_sub, q_le, q_lt, q_eq, q_mlt, q_mle, q_ltm, q_lem, q_meq, q_eqm, q_m2lt, q_m2le, q_ltm2, q_lem2, q_eqm2, q_mm2, q_m2m, q_mm, q_mnm, q_ix, q_inb, q_a0, q_a1, q_app, q_bind, if_true, if_false, if_pos, if_neg, hx]
      rfl
    · unfold Md_through_L6
      simp (disch := omega) only [q_lit, q_m1, q_m2, q_hid, q_add, q_mul, q_sub, q_le, q_lt, q_eq, q_mlt, q_mle, q_ltm, q_lem, q_meq, q_eqm, q_m2lt, q_m2le, q_ltm2, q_lem2, q_eqm2, q_mm2, q_m2m, q_mm, q_mnm, q_ix, q_inb, q_a0, q_a1, q_app, q_bind, if_true, if_false, if_pos, if_neg, Nat.le_refl]
  unfold Md_through
  rw [show (0 : Int32) = nI 0 from rfl, e]; rfl
theorem md_ten {k : Nat} (hk : k ≤ 8) : Md_ten (nI k) = some (nI (10 ^ k)) := by
  have e : lpN (Md_ten_L4 (nI k)) FU (nI 1, nI 0) = some (nI (10 ^ k)) := by
    refine lpN_run0 (fun i => (nI (10 ^ i), nI i)) k (by omega) (fun i hi => ?_) ?_ rfl
    · show Md_ten_L4 (nI k) (nI (10 ^ i), nI i) = _
      unfold Md_ten_L4
      simp (disch := omega) only [q_lit, q_m1, q_m2, q_hid, q_add, q_mul, q_sub, q_le, q_lt, q_eq, q_mlt, q_mle, q_ltm, q_lem, q_meq, q_eqm, q_m2lt, q_m2le, q_ltm2, q_lem2, q_eqm2, q_mm2, q_m2m, q_mm, q_mnm, q_ix, q_inb, q_a0, q_a1, q_app, q_bind, if_true, if_false, if_pos, if_neg, Nat.pow_succ]
    · show Md_ten_L4 (nI k) (nI (10 ^ k), nI k) = _
      unfold Md_ten_L4
      simp (disch := omega) only [q_lit, q_m1, q_m2, q_hid, q_add, q_mul, q_sub, q_le, q_lt, q_eq, q_mlt, q_mle, q_ltm, q_lem, q_meq, q_eqm, q_m2lt, q_m2le, q_ltm2, q_lem2, q_eqm2, q_mm2, q_m2m, q_mm, q_mnm, q_ix, q_inb, q_a0, q_a1, q_app, q_bind, if_true, if_false, if_pos, if_neg, Nat.le_refl]
  unfold Md_ten
  rw [show (0 : Int32) = nI 0 from rfl, show (1 : Int32) = nI 1 from rfl, e]; rfl
section NM
variable {N K F R w : Nat} {U : List Nat} {X : List (List Cl)} {T S : Sm}
theorem md_laid (h : RelP N K F R U X w T S) (hN : 0 < N) {T' : Sm} (hg : NwG T T') {x : Nat} (hr : NwRow (UN U (T.1 70)) N (UN U (T.1 70)).length x (T.1 70) (T'.1 70)) : Md_areLaidSo T' = some (bI (nwB (UN U (T.1 70)) N (T.1 70) T x)) := by
  have h8 := h.1.2.2.2.2.2.2.1
  have h5 := h.1.2.2.2.2.2.2.2.1
  have hd := h.2.2.2.1.1 hN
  obtain ⟨f, hf⟩ : ∃ f, f = T'.1 70 := ⟨_, rfl⟩
  rw [← hf] at hr
  have lf : ∀ m c, m < N → c < K → Md_leads (nI m) (nI c) T' = some (nI (Ld f m c)) ∧ Ld f m c < N := fun m c hm hc => by
    have := nw_ld (g := fun k => if k ∈ UN U (T.1 70) then f k else S.1 27 k) h8 hd hr (fun j u hj => by
      show (if u ∈ _ then f u else _) = _
      rw [if_pos (List.mem_of_getElem? hj), hr.1 j u hj, if_pos (List.getElem?_eq_some_iff.mp hj).1]) (fun k _ hk => if_neg hk) hm (by omega : c < 5)
    refine ⟨?_, this.2.1⟩
    rw [md_ld (by omega) (by omega), ← this.2.2, hf]; rfl
  obtain ⟨l, hl, s1, s2, s3⟩ := h.2.2.2.2.2.2.2.1
  have g49 : gi T' 53 49 = nI l := (hg 53 49 rfl).trans s1
  have ff : ∀ i, i < l → Md_through (gi T' 81 i) (gi T' 82 i) (gi T' 83 i) T' = some (nI (wk (Ld f) (ix (gi T 82 i)) (ix (gi T 83 i)) (ix (gi T 81 i)))) ∧ wk (Ld f) (ix (gi T 82 i)) (ix (gi T 83 i)) (ix (gi T 81 i)) < 8 ∧ ∃ t, t < 8 ∧ gi T 84 i = nI t ∧ gi T' 84 i = nI t := fun i hi => by
    obtain ⟨m, c, k, t, hm, hc, hk1, hk, ht, ⟨p1, q1⟩, ⟨p2, q2⟩, ⟨p3, q3⟩, p4, q4⟩ := s3 i hi
    rw [show gi T' 81 i = nI m from (hg 81 i rfl).trans q1, show gi T' 82 i = nI c from (hg 82 i rfl).trans q2, show gi T' 83 i = nI k from (hg 83 i rfl).trans q3, q1, q2, q3, q_ix (by omega), q_ix (by omega), q_ix (by omega)]
    have hw : ∀ j, wk (Ld f) c j m < N := itr_lt (fun x hx => (lf x c hx hc).2) hm
    have hwk := hw k
    exact ⟨md_thr h8 h5 lf hm hc (by omega), by omega, t, by omega, q4, (hg 84 i rfl).trans q4⟩
  suffices h2 : ∃ r, lpN (Md_areLaidSo_L2 T') FU (nI 0) = some r ∧ ((r = .inr () ∧ NwFit (UN U (T.1 70)) N (T.1 70) T x) ∨ r = .inl () ∧ ¬ NwFit (UN U (T.1 70)) N (T.1 70) T x) by
    obtain ⟨r, er, hr2⟩ := h2
    unfold Md_areLaidSo
    rw [show (0 : Int32) = nI 0 from rfl, er]
    rcases hr2 with ⟨rfl, y⟩ | ⟨rfl, y⟩
    · rw [nwB_t y]; rfl
    · rw [nwB_f y]; rfl
  refine lp_inv (fun i (q : Int32) => q = nI i ∧ ∀ i', i' < i → wk (Ld f) (ix (gi T 82 i')) (ix (gi T 83 i')) (ix (gi T 81 i')) = ix (gi T 84 i')) l (by omega) ⟨rfl, fun i' hi => absurd hi (by omega)⟩ (fun i q hi hq => ?_) (fun q hq => ?_)
  · obtain ⟨rfl, hq⟩ := hq
    have c0 : ¬ gi T' 53 49 ≤ nI i := by rw [g49, q_le (by omega) (by omega)]; omega
    have ib : inb (nI i) 10 := nI_in (by omega) (by omega)
    obtain ⟨f1, f2, t, ht, f3, f4⟩ := ff i hi
    unfold Md_areLaidSo_L2
    rw [if_neg c0, if_pos ib, if_pos ib, if_pos ib, q_ix (by omega), f1, q_bind, if_pos ib, f4]
    by_cases z : wk (Ld f) (ix (gi T 82 i)) (ix (gi T 83 i)) (ix (gi T 81 i)) = t
    · refine Or.inl ⟨nI (i + 1), ?_, rfl, fun i' hi' => ?_⟩
      · rw [if_pos (by rw [z]), show (1 : Int32) = nI 1 from rfl, q_add]
      · by_cases y : i' = i
        · rw [y, f3, q_ix (by omega)]; exact z
        · exact hq i' (by omega)
    · refine Or.inr ⟨.inl (), ?_, Or.inr ⟨rfl, fun hf2 => ?_⟩⟩
      · rw [if_neg fun y => z ((q_eq (by omega) (by omega)).mp y)]
      · have := (NwFit.of hr).mp hf2 i l s1 hl hi
        rw [f3, q_ix (by omega)] at this
        exact z this
  · obtain ⟨rfl, hq⟩ := hq
    have c0 : gi T' 53 49 ≤ nI l := by rw [g49, q_le (by omega) (by omega)]; exact Nat.le_refl _
    refine ⟨.inr (), ?_, Or.inl ⟨rfl, (NwFit.of hr).mpr fun i l' e1 _ hi => ?_⟩⟩
    · unfold Md_areLaidSo_L2
      rw [if_pos c0]
    · have : l' = l := (q_eq (by omega) (by omega)).mp (e1.symm.trans s1)
      exact hq i (by omega)
/-- what the reference holds when the first x are gone through -/
def NwB (un : List Nat) (N : Nat) (v : Int32) (b : Nat → Bool) (T0 : Sm) (x : Nat) (T' : Sm) : Prop := NwG T0 T' ∧ gi T' 53 52 = nI (cntN b x) ∧ gi T' 53 53 = nwF N un.length b v x ∧ NwO un.length (fun j m => nwO N un.length b j m x) (T'.1 86) ∧ T'.1 85 = T0.1 85
theorem md_leaf {rc : Nat → Int32 → Int32 → Int32 → Int32 → Sm → Option Sm} {un : List Nat} {N x : Nat} {v : Int32} {b : Nat → Bool} {T0 T' : Sm} (hN : 0 < N) (h8 : N ≤ 8) (hn : un.length ≤ 4) (hb : b x = true) (hB : NwB un N v b T0 x T') : ∃ T'', Md_tryNets_30 rc (nI un.length) (nI (nwDec N un.length x)) (if gi T' 53 52 = v then nI (nwDec N un.length x) else gi T' 53 53) T' = some T'' ∧ NwB un N v b T0 (x + 1) T'' ∧ T''.1 70 = T'.1 70 := by
  obtain ⟨n, hnn⟩ : ∃ n, n = un.length := ⟨_, rfl⟩
  unfold NwB at hB ⊢
  rw [← hnn] at hn hB ⊢
  obtain ⟨a1, a2, a3, a4, a5⟩ := hB
  obtain ⟨T1, hT1⟩ : ∃ T1, T1 = si (si T' 53 53 (if gi T' 53 52 = v then nI (nwDec N n x) else gi T' 53 53)) 53 52 (nI (cntN b (x + 1))) := ⟨_, rfl⟩
  have b1 : NwG T0 T1 := by rw [hT1]; exact (a1.si rfl).si rfl
  have b2 : gi T1 53 52 = nI (cntN b (x + 1)) := by rw [hT1]; rfl
  have b3 : gi T1 53 53 = nwF N n b v (x + 1) := by
    rw [hT1]
    show (if gi T' 53 52 = v then nI (nwDec N n x) else gi T' 53 53) = (if b x = true ∧ nI (cntN b x) = v then _ else _)
    rw [a2, a3]
    by_cases z : nI (cntN b x) = v
    · rw [if_pos z, if_pos ⟨hb, z⟩]
    · rw [if_neg z, if_neg fun y => z y.2]
  have b4 : T1.1 86 = T'.1 86 := by rw [hT1]; exact (si_row (by omega)).trans (si_row (by omega))
  have b5 : T1.1 70 = T'.1 70 := by rw [hT1]; exact (si_row (by omega)).trans (si_row (by omega))
  have b6 : T1.1 85 = T0.1 85 := by rw [hT1]; exact (si_row (by omega)).trans ((si_row (by omega)).trans a5)
  have hdb := nwDec_b (n := n) (x := x) hN h8 hn
  suffices hl : ∃ r, lpN (Md_tryNets_L46 rc (nI n) (nI (nwDec N n x))) FU (nI 0, T1) = some r ∧ (NwG T0 r ∧ gi r 53 52 = nI (cntN b (x + 1)) ∧ gi r 53 53 = nwF N n b v (x + 1) ∧ NwO n (fun j m => nwO N n b j m (x + 1)) (r.1 86) ∧ r.1 85 = T0.1 85) ∧ r.1 70 = T'.1 70 by
    obtain ⟨r, e, c1, c2⟩ := hl
    refine ⟨r, ?_, c1, c2⟩
    unfold Md_tryNets_30 Md_tryNets_87
    have : gi (si T' 53 53 (if gi T' 53 52 = v then nI (nwDec N n x) else gi T' 53 53)) 53 52 + 1 = nI (cntN b (x + 1)) := by
      show gi T' 53 52 + 1 = _
      rw [a2, cnt_t hb, show (1 : Int32) = nI 1 from rfl, q_add]
    rw [this, ← hT1, show (0 : Int32) = nI 0 from rfl, e]; rfl
  refine lp_inv (fun i (q : Int32 × Sm) => q.1 = nI i ∧ (NwG T0 q.2 ∧ gi q.2 53 52 = nI (cntN b (x + 1)) ∧ gi q.2 53 53 = nwF N n b v (x + 1) ∧ NwO n (fun j m => nwO N n b j m x + if j < i ∧ nwDg N n x j = m then 1 else 0) (q.2.1 86) ∧ q.2.1 85 = T0.1 85) ∧ q.2.1 70 = T'.1 70) n (by omega) ⟨rfl, ⟨b1, b2, b3, fun j m hj hm => ?_, b6⟩, b5⟩ (fun i q hi hq => ?_) (fun q hq => ?_)
  · show T1.1 86 (8 * j + m) = nI (_ + if j < 0 ∧ _ then 1 else 0)
    rw [if_neg fun z => absurd z.1 (Nat.not_lt_zero j), b4]; exact a4 j m hj hm
  · obtain ⟨q1, T2⟩ := q
    obtain ⟨hq1, ⟨c1, c2, c3, c4, c6⟩, c5⟩ := hq
    have hq1 : q1 = nI i := hq1
    subst hq1
    have hdl := nwDg_lt (n := n) (x := x) (j := i) hN
    have dat := nwDec_at (n := n) (x := x) (j := i) hN h8 hn hi
    obtain ⟨d, hdd⟩ : ∃ d, d = nwDg N n x i := ⟨_, rfl⟩
    rw [← hdd] at hdl dat
    have o1 : gi T2 86 (8 * i + d) = nI (nwO N n b i d x) := by
      have this : T2.1 86 (8 * i + d) = nI (nwO N n b i d x + if i < i ∧ nwDg N n x i = d then 1 else 0) := c4 i d hi (by omega)
      rw [if_neg (fun (z : i < i ∧ nwDg N n x i = d) => absurd z.1 (Nat.lt_irrefl i))] at this
      exact this
    refine Or.inl ⟨(nI (i + 1), si T2 86 (8 * i + d) (nI (nwO N n b i d x + 1))), ?_, rfl, ⟨c1.si rfl, c2, c3, fun j m hj hm => ?_, (si_row (by omega)).trans c6⟩, (si_row (by omega)).trans c5⟩
    · have c0 : ¬ nI n ≤ nI i := by rw [q_le (by omega) (by omega)]; omega
      have hp : 0 < 10 ^ (n - 1 - i) := Nat.pow_pos (by decide)
      have hp2 : 10 ^ (n - 1 - i) ≤ 10 ^ 4 := Nat.pow_le_pow_right (by decide) (by omega)
      unfold Md_tryNets_L46
      simp only []
      rw [if_neg c0, show nI n - 1 - nI i = nI (n - 1 - i) by rw [show (1 : Int32) = nI 1 from rfl, q_sub (by omega), q_sub (by omega)], md_ten (by omega), q_bind, if_neg (show ¬ nI (10 ^ (n - 1 - i)) = 0 from fun z => by
        have := (q_eq (by omega) (by omega)).mp (show nI (10 ^ (n - 1 - i)) = nI 0 from z)
        omega), q_div (by omega) hp (by omega), show (10 : Int32) = nI 10 from rfl, q_rem (by
          have := Nat.div_le_self (nwDec N n x) (10 ^ (n - 1 - i))
          omega) (by omega) (by omega), dat, show (8 : Int32) = nI 8 from rfl, q_mul, q_add, if_pos (nI_in (by omega) (by omega)), if_pos (nI_in (by omega) (by omega)), q_ix (by omega), o1, show (1 : Int32) = nI 1 from rfl, q_add, q_add]
    · show (if 86 = 86 ∧ 8 * j + m = 8 * i + d then nI (nwO N n b i d x + 1) else T2.1 86 (8 * j + m)) = nI (nwO N n b j m x + if j < i + 1 ∧ nwDg N n x j = m then 1 else 0)
      have this : T2.1 86 (8 * j + m) = nI (nwO N n b j m x + if j < i ∧ nwDg N n x j = m then 1 else 0) := c4 j m hj hm
      by_cases z : j = i
      · subst z
        rw [if_neg (fun (z : j < j ∧ nwDg N n x j = m) => absurd z.1 (Nat.lt_irrefl j))] at this
        by_cases y : m = d
        · subst y
          rw [if_pos ⟨rfl, rfl⟩, if_pos ⟨Nat.lt_succ_self j, hdd.symm⟩]
        · rw [if_neg (fun (z : 86 = 86 ∧ 8 * j + m = 8 * j + d) => y (by omega)), if_neg (fun (z : j < j + 1 ∧ nwDg N n x j = m) => y (by rw [hdd]; exact z.2.symm))]
          exact this
      · rw [if_neg (fun (z : 86 = 86 ∧ 8 * j + m = 8 * i + d) => by omega), this]
        by_cases y : j < i ∧ nwDg N n x j = m
        · rw [if_pos y, if_pos ⟨by omega, y.2⟩]
        · rw [if_neg y, if_neg (fun (u : j < i + 1 ∧ nwDg N n x j = m) => y ⟨by omega, u.2⟩)]
  · obtain ⟨q1, T2⟩ := q
    obtain ⟨hq1, ⟨c1, c2, c3, c4, c6⟩, c5⟩ := hq
    have hq1 : q1 = _ := hq1
    subst hq1
    refine ⟨T2, ?_, ⟨c1, c2, c3, fun j m hj hm => ?_, c6⟩, c5⟩
    · unfold Md_tryNets_L46
      exact if_pos ((q_le (by omega) (by omega)).mpr (Nat.le_refl _))
    · have this : T2.1 86 (8 * j + m) = nI (nwO N n b j m x + if j < n ∧ nwDg N n x j = m then 1 else 0) := c4 j m hj hm
      show T2.1 86 (8 * j + m) = nI (nwO N n b j m (x + 1))
      rw [nwO_s, this]
      by_cases y : nwDg N n x j = m
      · rw [if_pos ⟨hj, y⟩, if_pos ⟨hb, y⟩]
      · rw [if_neg (fun (z : j < n ∧ nwDg N n x j = m) => y z.2), if_neg (fun (z : b x = true ∧ nwDg N n x j = m) => y z.2)]
end NM
