/-! ===== changes ===== -/
section CH
variable {N K : Nat} {L D : Nat → Nat → Nat} {T S : Sm} {s a : Nat}
/-- by at most k lamps -/
def Al (N K : Nat) (L : Nat → Nat → Nat) (s a : Nat) : Nat → Nat → Prop
  | 0 => fun j => a = j
  | k + 1 => fun j => Al N K L s a k j ∨ ∃ c, c < K ∧ s.testBit c = true ∧ Rch N K L (2 ^ c) (Al N K L s a k) 8 j
theorem Rch.ltP (hL : ∀ m o, m < N → o < K → L m o < N) {s : Nat} {P : Nat → Prop} (hP : ∀ j, P j → j < N) : ∀ k j, Rch N K L s P k j → j < N
  | 0, j, h => hP j h
  | k + 1, j, h => h.elim (Rch.ltP hL hP k j) fun ⟨x, c, h1, _, h3, _, h5⟩ => h5 ▸ hL x c h1 h3
theorem Rch.allP (h8 : N ≤ 8) (hL : ∀ m o, m < N → o < K → L m o < N) {s : Nat} {P : Nat → Prop} (hP : ∀ j, P j → j < N) (k j : Nat) (h : Rch N K L s P k j) : Rch N K L s P 8 j :=
  sat (N := 8) (Rch N K L s P) (fun k j q => Nat.lt_of_lt_of_le (Rch.ltP hL hP k j q) h8) (fun k j q => Or.inl q) Rch.stop k j h
theorem Rch.monoP {s : Nat} {P Q : Nat → Prop} (h : ∀ j, P j → Q j) : ∀ k j, Rch N K L s P k j → Rch N K L s Q k j
  | 0, j, q => h j q
  | k + 1, j, q => q.imp (Rch.monoP h k j) (Sto.mono (Rch.monoP h k) j)
theorem Al.lt (hL : ∀ m o, m < N → o < K → L m o < N) (ha : a < N) : ∀ k j, Al N K L s a k j → j < N
  | 0, j, h => by cases h; exact ha
  | k + 1, j, h => h.elim (Al.lt hL ha k j) fun ⟨c, _, _, q⟩ => Rch.ltP hL (Al.lt hL ha k) 8 j q
theorem Al.stop (k : Nat) (h : ∀ j, Al N K L s a (k + 1) j → Al N K L s a k j) (j : Nat) (hj : Al N K L s a (k + 2) j) : Al N K L s a (k + 1) j :=
  hj.elim id fun ⟨c, h1, h2, h3⟩ => Or.inr ⟨c, h1, h2, Rch.monoP h 8 j h3⟩
theorem Al.all (h8 : N ≤ 8) (hL : ∀ m o, m < N → o < K → L m o < N) (ha : a < N) (k j : Nat) (h : Al N K L s a k j) : Al N K L s a 8 j :=
  sat (N := 8) (Al N K L s a) (fun k j q => Nat.lt_of_lt_of_le (Al.lt hL ha k j q) h8) (fun k j q => Or.inl q) Al.stop k j h
theorem Al.up (k d j : Nat) (h : Al N K L s a k j) : Al N K L s a (k + d) j := grow (Al N K L s a) (fun k j q => Or.inl q) k d j h
/-- what fewest changes is -/
def ChR (N K : Nat) (L : Nat → Nat → Nat) (s a to : Nat) (v : Int32) : Prop := (v = mI ∧ ∀ k, ¬ Al N K L s a k to) ∨ ∃ k, k < 1000 ∧ v = nI k ∧ Al N K L s a (k + 1) to ∧ ¬ Al N K L s a k to
theorem ChR.uniq {to : Nat} {v u : Int32} (h : ChR N K L s a to v) (g : ChR N K L s a to u) : v = u := by
  rcases h with ⟨rfl, h⟩ | ⟨k, k0, rfl, h1, h2⟩ <;> rcases g with ⟨rfl, g⟩ | ⟨j, j0, rfl, g1, g2⟩
  · rfl
  · exact absurd g1 (h (j + 1))
  · exact absurd h1 (g (k + 1))
  · have x : ¬ k + 1 ≤ j := fun q => g2 (by have := Al.up (k + 1) (j - (k + 1)) to h1; rwa [show k + 1 + (j - (k + 1)) = j by omega] at this)
    have y : ¬ j + 1 ≤ k := fun q => h2 (by have := Al.up (j + 1) (k - (j + 1)) to g1; rwa [show j + 1 + (k - (j + 1)) = k by omega] at this)
    rw [show k = j by omega]
theorem wy_trail (hP : WyP N K L D) (hS : WyS N K L D S) {P : Nat → Prop} {x : Int32} {c : Nat} (hx : Msk P x) (hc : c < 5) : ∃ r, Wy_trailOf x (nI c) S = some r ∧ Msk (Rch N K L (2 ^ c) P 8) r := by
  have p5 : 2 ^ c < 32 := bit_lt (n := 5) hc
  suffices hl : ∃ r, lpN (Wy_trailOf_L5 (nI c) S) FU (x, nI 0) = some r ∧ Msk (Rch N K L (2 ^ c) P 8) r by
    obtain ⟨r, e, hr⟩ := hl
    refine ⟨r, ?_, hr⟩
    unfold Wy_trailOf
    rw [show (0 : Int32) = nI 0 from rfl, e]; rfl
  refine lp_inv (fun i (q : Int32 × Int32) => q.2 = nI i ∧ Msk (Rch N K L (2 ^ c) P i) q.1) 8 (by omega) ⟨rfl, hx⟩ (fun i q hi hq => ?_) (fun q hq => ?_)
  · obtain ⟨b, ii⟩ := q
    obtain ⟨rfl, hb⟩ := hq
    obtain ⟨r, e, hr⟩ := wy_bo hP hS hb p5
    have sh := q_shl (m := c) (by omega)
    refine Or.inl ⟨(b ||| r, nI (i + 1)), ?_, rfl, hb.or hr⟩
    unfold Wy_trailOf_L5
    simp (disch := omega) only [q_lit, q_m1, q_m2, q_hid, q_add, q_mul, q_sub, q_le, q_lt, q_eq, q_mlt, q_mle, q_ltm, q_lem, q_meq, q_eqm, q_m2lt, q_m2le, q_ltm2, q_lem2, q_eqm2, q_mm2, q_m2m, q_mm, q_mnm, q_ix, q_inb, q_a0, q_a1, q_app, q_bind, if_true, if_false, if_pos, if_neg, sh, e]
  · obtain ⟨b, ii⟩ := q
    obtain ⟨rfl, hb⟩ := hq
    refine ⟨b, ?_, hb⟩
    unfold Wy_trailOf_L5
    simp (disch := omega) only [q_lit, q_m1, q_m2, q_hid, q_add, q_mul, q_sub, q_le, q_lt, q_eq, q_mlt, q_mle, q_ltm, q_lem, q_meq, q_eqm, q_m2lt, q_m2le, q_ltm2, q_lem2, q_eqm2, q_mm2, q_m2m, q_mm, q_mnm, q_ix, q_inb, q_a0, q_a1, q_app, q_bind, if_true, if_false, if_pos, if_neg, Nat.le_refl]
theorem wy_rol (hP : WyP N K L D) (hS : WyS N K L D S) {P : Nat → Prop} {x : Int32} (hx : Msk P x) (hs : s < 32) : ∃ r, Wy_reachedByOneLamp x (nI s) S = some r ∧ Msk (fun j => P j ∨ ∃ c, c < K ∧ s.testBit c = true ∧ Rch N K L (2 ^ c) P 8 j) r := by
  have h5 := hP.2.1
  suffices hl : ∃ r, lpN (Wy_reachedByOneLamp_L5 x (nI s) S) FU (x, nI 0) = some r ∧ Msk (fun j => P j ∨ ∃ c, c < K ∧ s.testBit c = true ∧ Rch N K L (2 ^ c) P 8 j) r by
    obtain ⟨r, e, hr⟩ := hl
    refine ⟨r, ?_, hr⟩
    unfold Wy_reachedByOneLamp
    rw [show (0 : Int32) = nI 0 from rfl, e]; rfl
  refine lp_inv (fun i (q : Int32 × Int32) => q.2 = nI i ∧ Msk (fun j => P j ∨ ∃ c, c < i ∧ s.testBit c = true ∧ Rch N K L (2 ^ c) P 8 j) q.1) K (by omega) ⟨rfl, hx.of fun j => ⟨Or.inl, fun h => h.elim id fun ⟨c, q, _⟩ => absurd q (Nat.not_lt_zero c)⟩⟩ (fun i q hi hq => ?_) (fun q hq => ?_)
  · obtain ⟨b, ii⟩ := q
    obtain ⟨rfl, hb⟩ := hq
    have hb : Msk (fun j => P j ∨ ∃ c, c < i ∧ s.testBit c = true ∧ Rch N K L (2 ^ c) P 8 j) b := hb
    refine Or.inl ?_
    unfold Wy_reachedByOneLamp_L5 Wy_reachedByOneLamp_36_L5
    by_cases t : s.testBit i = true
    · have t1 := set_h1 (by omega) (by omega) t
      obtain ⟨r, e, hr⟩ := wy_trail hP hS hx (c := i) (by omega)
      refine ⟨(b ||| r, nI (i + 1)), ?_, rfl, (hb.or hr).of fun j => ⟨?_, ?_⟩⟩
      · simp (disch := omega) only [q_lit, q_m1, q_m2, q_hid, q_add, q_mul, q_sub, q_le, q_lt, q_eq, q_mlt, q_mle, q_ltm, q_lem, q_meq, q_eqm, q_m2lt, q_m2le, q_ltm2, q_lem2, q_eqm2, q_mm2, q_m2m, q_mm, q_mnm, q_ix, q_inb, q_a0, q_a1, q_app, q_bind, if_true, if_false, if_pos, if_neg, hS.2.1, t1, e]
      · rintro ((h | ⟨c, h1, h2⟩) | h)
        · exact Or.inl h
        · exact Or.inr ⟨c, by omega, h2⟩
        · exact Or.inr ⟨i, by omega, t, h⟩
      · rintro (h | ⟨c, h1, h2, h3⟩)
        · exact Or.inl (Or.inl h)
        · by_cases z : c = i
          · subst z; exact Or.inr h3
          · exact Or.inl (Or.inr ⟨c, by omega, h2, h3⟩)
    · have t0 := set_h0 (by omega) (by omega) t
      refine ⟨(b, nI (i + 1)), ?_, rfl, hb.of fun j => ⟨?_, ?_⟩⟩
      · simp (disch := omega) only [q_lit, q_m1, q_m2, q_hid, q_add, q_mul, q_sub, q_le, q_lt, q_eq, q_mlt, q_mle, q_ltm, q_lem, q_meq, q_eqm, q_m2lt, q_m2le, q_ltm2, q_lem2, q_eqm2, q_mm2, q_m2m, q_mm, q_mnm, q_ix, q_inb, q_a0, q_a1, q_app, q_bind, if_true, if_false, if_pos, if_neg, hS.2.1, t0]
      · rintro (h | ⟨c, h1, h2⟩)
        · exact Or.inl h
        · exact Or.inr ⟨c, by omega, h2⟩
      · rintro (h | ⟨c, h1, h2, h3⟩)
        · exact Or.inl h
        · by_cases z : c = i
          · subst z; exact absurd h2 t
          · exact Or.inr ⟨c, by omega, h2, h3⟩
  · obtain ⟨b, ii⟩ := q
    obtain ⟨rfl, hb⟩ := hq
    refine ⟨b, ?_, hb⟩
    unfold Wy_reachedByOneLamp_L5
    simp (disch := omega) only [q_lit, q_m1, q_m2, q_hid, q_add, q_mul, q_sub, q_le, q_lt, q_eq, q_mlt, q_mle, q_ltm, q_lem, q_meq, q_eqm, q_m2lt, q_m2le, q_ltm2, q_lem2, q_eqm2, q_mm2, q_m2m, q_mm, q_mnm, q_ix, q_inb, q_a0, q_a1, q_app, q_bind, if_true, if_false, if_pos, if_neg, hS.2.1, Nat.le_refl]
theorem wy_fc (hP : WyP N K L D) (hS : WyS N K L D S) {to : Nat} (ha : a < N) (ht : to < N) (hne : a ≠ to) (hs : s < 32) : ∃ v, Wy_fewestChanges (nI a) (nI to) (nI s) S = some v ∧ ChR N K L s a to v := by
  have h8 := hP.1
  have hL : ∀ m o, m < N → o < K → L m o < N := fun m o h1 h2 => (hP.2.2.2.2 m o h1 (Or.inl h2)).1
  suffices hl : ∃ r, lpN (Wy_fewestChanges_L15 (nI to) (nI s) S) FU (nI (2 ^ a), nI 0) = some r ∧ ((∃ k, k < 1000 ∧ r = .inl (nI k) ∧ Al N K L s a (k + 1) to ∧ ¬ Al N K L s a k to) ∨ (r = .inr (.inl ()) ∨ r = .inr (.inr ())) ∧ ∀ k, ¬ Al N K L s a k to) by
    obtain ⟨r, e, hr⟩ := hl
    unfold Wy_fewestChanges
    rw [if_neg (fun e => hne ((q_eq (by omega) (by omega)).mp e)), show iShl 1 (nI a) = nI (2 ^ a) from q_shl (by omega), show (0 : Int32) = nI 0 from rfl, e]
    rcases hr with ⟨k, k0, rfl, h1, h2⟩ | ⟨rfl | rfl, h⟩
    · exact ⟨nI k, rfl, Or.inr ⟨k, k0, rfl, h1, h2⟩⟩
    · exact ⟨mI, rfl, Or.inl ⟨rfl, h⟩⟩
    · exact ⟨mI, rfl, Or.inl ⟨rfl, h⟩⟩
  refine lp_inv (fun i (q : Int32 × Int32) => q.2 = nI i ∧ Msk (Al N K L s a i) q.1 ∧ ¬ Al N K L s a i to) 9 (by omega) ⟨rfl, (show Msk (fun j => a = j) (nI (2 ^ a)) from Msk.one (by omega)), hne⟩ (fun i q hi hq => ?_) (fun q hq => ?_)
  · obtain ⟨b, ii⟩ := q
    obtain ⟨rfl, hb, hn⟩ := hq
    have hb : Msk (Al N K L s a i) b := hb
    obtain ⟨r, e, hr⟩ := wy_rol hP hS hb hs
    have hr : Msk (Al N K L s a (i + 1)) r := hr
    unfold Wy_fewestChanges_L15
    by_cases p : Al N K L s a (i + 1) to
    · have p1 := hr.h1 (i := to) (by omega) p
      refine Or.inr ⟨.inl (nI i), ?_, Or.inl ⟨i, by omega, rfl, p, hn⟩⟩
      simp (disch := omega) only [q_lit, q_m1, q_m2, q_hid, q_add, q_mul, q_sub, q_le, q_lt, q_eq, q_mlt, q_mle, q_ltm, q_lem, q_meq, q_eqm, q_m2lt, q_m2le, q_ltm2, q_lem2, q_eqm2, q_mm2, q_m2m, q_mm, q_mnm, q_ix, q_inb, q_a0, q_a1, q_app, q_bind, if_true, if_false, if_pos, if_neg, e, p1]
    · have p0 := hr.h0 (i := to) (by omega) p
      by_cases z : r = b
      · refine Or.inr ⟨.inr (.inl ()), ?_, Or.inr ⟨Or.inl rfl, fun k hk => ?_⟩⟩
        · rw [z] at e p0
          simp (disch := omega) only [q_lit, q_m1, q_m2, q_hid, q_add, q_mul, q_sub, q_le, q_lt, q_eq, q_mlt, q_mle, q_ltm, q_lem, q_meq, q_eqm, q_m2lt, q_m2le, q_ltm2, q_lem2, q_eqm2, q_mm2, q_m2m, q_mm, q_mnm, q_ix, q_inb, q_a0, q_a1, q_app, q_bind, if_true, if_false, if_pos, if_neg, e, p0]
        · have st : ∀ j, Al N K L s a (i + 1) j → Al N K L s a i j := fun j => by rw [z] at hr; exact (hr.iff hb j).mp
          have u := Al.up k i to hk
          rw [Nat.add_comm] at u
          exact hn (stab (Al N K L s a) Al.stop st k to u)
      · refine Or.inl ⟨(r, nI (i + 1)), ?_, rfl, hr, p⟩
        simp (disch := omega) only [q_lit, q_m1, q_m2, q_hid, q_add, q_mul, q_sub, q_le, q_lt, q_eq, q_mlt, q_mle, q_ltm, q_lem, q_meq, q_eqm, q_m2lt, q_m2le, q_ltm2, q_lem2, q_eqm2, q_mm2, q_m2m, q_mm, q_mnm, q_ix, q_inb, q_a0, q_a1, q_app, q_bind, if_true, if_false, if_pos, if_neg, e, p0, z]
  · obtain ⟨b, ii⟩ := q
    obtain ⟨rfl, hb, hn⟩ := hq
    refine ⟨.inr (.inr ()), ?_, Or.inr ⟨Or.inr rfl, fun k hk => hn (Or.inl (Al.all h8 hL ha k to hk))⟩⟩
    unfold Wy_fewestChanges_L15
    simp (disch := omega) only [q_lit, q_m1, q_m2, q_hid, q_add, q_mul, q_sub, q_le, q_lt, q_eq, q_mlt, q_mle, q_ltm, q_lem, q_meq, q_eqm, q_m2lt, q_m2le, q_ltm2, q_lem2, q_eqm2, q_mm2, q_m2m, q_mm, q_mnm, q_ix, q_inb, q_a0, q_a1, q_app, q_bind, if_true, if_false, if_pos, if_neg]
/-! the reference: labels made less until none changes -/
/-- labels that are true -/
def LaI (N K : Nat) (L : Nat → Nat → Nat) (s a B : Nat) (f : Nat → Nat) : Prop := ∀ m c, m < N → c < K → f (5 * m + c) ≤ 1000000 ∧ (f (5 * m + c) < 1000000 → f (5 * m + c) ≤ B ∧ s.testBit c = true ∧ Rch N K L (2 ^ c) (Al N K L s a (f (5 * m + c))) 8 m)
theorem LaI.wide {B B' : Nat} {f : Nat → Nat} (h : LaI N K L s a B f) (hB : B ≤ B') : LaI N K L s a B' f := fun m c h1 h2 => ⟨(h m c h1 h2).1, fun q => ⟨Nat.le_trans ((h m c h1 h2).2 q).1 hB, ((h m c h1 h2).2 q).2⟩⟩
theorem la_put {B : Nat} {f : Nat → Nat} (hf : LaI N K L s a B f) {m c v : Nat} (hc : c < K) (hv : v ≤ B) (hB : B < 1000000) (hs : s.testBit c = true) (hr : Rch N K L (2 ^ c) (Al N K L s a v) 8 m) (h5 : K ≤ 5) : LaI N K L s a B (fun j => if j = 5 * m + c then v else f j) := by
  intro m' c' hm' hc'
  show (if 5 * m' + c' = 5 * m + c then v else f (5 * m' + c')) ≤ 1000000 ∧ ((if 5 * m' + c' = 5 * m + c then v else f (5 * m' + c')) < 1000000 → (if 5 * m' + c' = 5 * m + c then v else f (5 * m' + c')) ≤ B ∧ s.testBit c' = true ∧ Rch N K L (2 ^ c') (Al N K L s a (if 5 * m' + c' = 5 * m + c then v else f (5 * m' + c'))) 8 m')
  by_cases q : 5 * m' + c' = 5 * m + c
  · rw [if_pos q]
    have e1 : c' = c := by omega
    have e2 : m' = m := by omega
    subst e1
    subst e2
    exact ⟨by omega, fun _ => ⟨hv, hs, hr⟩⟩
  · rw [if_neg q]; exact hf m' c' hm' hc'
theorem si75 {T0 T1 : Sm} (h : SamT T0 T1) {j : Nat} {v : Int32} : SamT T0 (si T1 75 j v) := h.si rfl
theorem si_same {T : Sm} {i j : Nat} {v : Int32} (h : gi T i j = v) : si T i j v = T := by
  refine Prod.ext (funext fun x => funext fun y => ?_) rfl
  show (if x = i ∧ y = j then v else T.1 x y) = T.1 x y
  by_cases w : x = i ∧ y = j
  · rw [if_pos w, w.1, w.2]; exact h.symm
  · rw [if_neg w]
/-- from one state on: along its lamp, and to the other lamps -/
theorem md_spread (hP : WyP N K L D) (hW : ∀ T1, SamT T T1 → WyT N K L D T1) (hs : s < 32) (ha : a < N) {T1 : Sm} (h1 : SamT T T1) {f : Nat → Nat} {B m c : Nat} (hm : m < N) (hc : c < K) (hg : ∀ j, j < 40 → gi T1 75 j = nI (f j)) (hf : LaI N K L s a B f) (hB : B < 900000) (h40 : ∀ j, j < 40 → f j ≤ 1000000) : ∃ b T2, Md_spreadChanges (nI m) (nI c) (nI s) T1 = some (b, T2) ∧ SamT T T2 ∧ ∃ f' : Nat → Nat, (∀ j, j < 40 → gi T2 75 j = nI (f' j)) ∧ LaI N K L s a (B + 1) f' ∧ (∀ j, j < 40 → f' j ≤ f j) ∧ (f (5 * m + c) < 1000000 → f' (5 * L m c + c) ≤ f (5 * m + c) ∧ ∀ o, o < K → s.testBit o = true → f' (5 * m + o) ≤ f (5 * m + c) + 1) ∧ (b = nI 1 ∧ (∃ x y, x < N ∧ y < K ∧ f' (5 * x + y) < f (5 * x + y)) ∨ b = nI 0 ∧ ∀ j, j < 40 → f' j = f j) := by
  have hPP := hP
  obtain ⟨h8, h5, hN, hK, hL⟩ := hP
  have hL' : ∀ m o, m < N → o < K → L m o < N := fun m o h1 h2 => (hL m o h1 (Or.inl h2)).1
  have ll := hL' m c hm hc
  have hT := hW T1 h1
  have e1 := (hT.2.2 m c hm (Or.inl hc)).1
  have e2 := hg (5 * m + c) (by omega)
  have e3 := hg (5 * L m c + c) (by omega)
  have l2 := h40 (5 * m + c) (by omega)
  have l3 := h40 (5 * L m c + c) (by omega)
  unfold Md_spreadChanges Md_spreadChanges_51
  by_cases z : f (5 * m + c) = 1000000
  · refine ⟨nI 0, T1, ?_, h1, f, hg, hf.wide (by omega), fun j _ => Nat.le_refl _, fun h => absurd h (by omega), Or.inr ⟨rfl, fun j _ => rfl⟩⟩
    simp (disch := omega) only [q_lit, q_m1, q_m2, q_hid, q_add, q_mul, q_sub, q_le, q_lt, q_eq, q_mlt, q_mle, q_ltm, q_lem, q_meq, q_eqm, q_m2lt, q_m2le, q_ltm2, q_lem2, q_eqm2, q_mm2, q_m2m, q_mm, q_mnm, q_ix, q_inb, q_a0, q_a1, q_app, q_bind, if_true, if_false, if_pos, if_neg, e2, z]
  · obtain ⟨hB2, hs1, hR⟩ := (hf m c hm hc).2 (by omega)
    obtain ⟨v, hv⟩ : ∃ v, v = f (5 * m + c) := ⟨_, rfl⟩
    rw [← hv] at e2 l2 hB2 hR
    have hR2 : Rch N K L (2 ^ c) (Al N K L s a v) 8 (L m c) := Rch.allP h8 hL' (Al.lt hL' ha v) 9 _ (Or.inr ⟨m, c, hm, hR, hc, by rw [tb_pow, decide_eq_true rfl], rfl⟩)
    have hA : Al N K L s a (v + 1) m := Or.inr ⟨c, hc, hs1, hR⟩
    -- the place ahead
    obtain ⟨f1, hf1⟩ : ∃ f1 : Nat → Nat, f1 = fun j => if j = 5 * L m c + c then min (f (5 * L m c + c)) v else f j := ⟨_, rfl⟩
    obtain ⟨T2, hT2⟩ : ∃ T2, T2 = si T1 75 (5 * L m c + c) (nI (min (f (5 * L m c + c)) v)) := ⟨_, rfl⟩
    have r2 : ∀ j, j < 40 → gi T2 75 j = nI (f1 j) := fun j hj => by
      rw [hT2, hf1]
      show (if 75 = 75 ∧ j = 5 * L m c + c then _ else T1.1 75 j) = nI (if j = 5 * L m c + c then _ else f j)
      by_cases x : j = 5 * L m c + c
      · rw [if_pos ⟨rfl, x⟩, if_pos x]
      · rw [if_neg fun h => x h.2, if_neg x]; exact hg j hj
    have s2 : SamT T T2 := by rw [hT2]; exact si75 h1
    have m1 : ∀ j, j < 40 → f1 j ≤ f j := fun j hj => by
      rw [hf1]
      show (if j = 5 * L m c + c then _ else f j) ≤ f j
      by_cases x : j = 5 * L m c + c
      · rw [if_pos x, x]; exact Nat.min_le_left _ _
      · rw [if_neg x]; exact Nat.le_refl _
    have on1 : f1 (5 * L m c + c) ≤ v := by
      rw [hf1]
      show (if 5 * L m c + c = 5 * L m c + c then _ else _) ≤ v
      rw [if_pos rfl]; exact Nat.min_le_right _ _
    have la1 : LaI N K L s a (B + 1) f1 := by
      rw [hf1]
      by_cases low : v < f (5 * L m c + c)
      · rw [Nat.min_eq_right (by omega)]
        exact la_put (hf.wide (by omega)) hc (by omega) (by omega) hs1 hR2 h5
      · rw [Nat.min_eq_left (by omega)]
        have : (fun j => if j = 5 * L m c + c then f (5 * L m c + c) else f j) = f := funext fun j => by
          by_cases x : j = 5 * L m c + c
          · rw [if_pos x, x]
          · rw [if_neg x]
        rw [this]; exact hf.wide (by omega)
    have b1 : ∃ b, (b = nI 1 ∧ v < f (5 * L m c + c) ∨ b = nI 0 ∧ f (5 * L m c + c) ≤ v) := by
      by_cases low : v < f (5 * L m c + c)
      · exact ⟨nI 1, Or.inl ⟨rfl, low⟩⟩
      · exact ⟨nI 0, Or.inr ⟨rfl, by omega⟩⟩
    obtain ⟨b, hb⟩ := b1
    have b2 : (b = nI 1 ∧ (∃ x y, x < N ∧ y < K ∧ f1 (5 * x + y) < f (5 * x + y)) ∨ b = nI 0 ∧ ∀ j, j < 40 → f1 j = f j) := by
      rcases hb with ⟨rfl, low⟩ | ⟨rfl, low⟩
      · exact Or.inl ⟨rfl, L m c, c, ll, hc, by omega⟩
      · refine Or.inr ⟨rfl, fun j hj => ?_⟩
        rw [hf1]
        show (if j = 5 * L m c + c then _ else f j) = f j
        by_cases x : j = 5 * L m c + c
        · rw [if_pos x, x, Nat.min_eq_left low]
        · rw [if_neg x]
    suffices hl : ∃ r, lpN (Md_spreadChanges_L75 (nI m) (nI s) (nI v)) FU (b, nI 0, T2) = some r ∧ ((r.1 = nI 1 ∨ r.1 = nI 0) ∧ SamT T r.2 ∧ ∃ f' : Nat → Nat, (∀ j, j < 40 → gi r.2 75 j = nI (f' j)) ∧ LaI N K L s a (B + 1) f' ∧ (∀ j, j < 40 → f' j ≤ f1 j) ∧ (∀ o, o < K → s.testBit o = true → f' (5 * m + o) ≤ v + 1) ∧ (r.1 = nI 1 ∧ (∃ x y, x < N ∧ y < K ∧ f' (5 * x + y) < f (5 * x + y)) ∨ r.1 = nI 0 ∧ ∀ j, j < 40 → f' j = f j)) by
      obtain ⟨r, e, hr1, k1, f', k2, k3, k4, k5, k6⟩ := hl
      refine ⟨r.1, r.2, ?_, k1, f', k2, k3, fun j hj => Nat.le_trans (k4 j hj) (m1 j hj), fun _ => ⟨?_, fun o h1 h2 => ?_⟩, k6⟩
      · have hr : r.1 &&& nI 1 = r.1 := by
          rcases hr1 with h | h <;> rw [h] <;> decide
        rcases hb with ⟨rfl, low⟩ | ⟨rfl, low⟩
        · simp (disch := omega) only [q_lit, q_m1, q_m2, q_hid, q_add, q_mul, q_sub, q_le, q_lt, q_eq, q_mlt, q_mle, q_ltm, q_lem, q_meq, q_eqm, q_m2lt, q_m2le, q_ltm2, q_lem2, q_eqm2, q_mm2, q_m2m, q_mm, q_mnm, q_ix, q_inb, q_a0, q_a1, q_app, q_bind, if_true, if_false, if_pos, if_neg, e2, z, e1, e3, q_min, ← hT2, e, hr]
        · simp (disch := omega) only [q_lit, q_m1, q_m2, q_hid, q_add, q_mul, q_sub, q_le, q_lt, q_eq, q_mlt, q_mle, q_ltm, q_lem, q_meq, q_eqm, q_m2lt, q_m2le, q_ltm2, q_lem2, q_eqm2, q_mm2, q_m2m, q_mm, q_mnm, q_ix, q_inb, q_a0, q_a1, q_app, q_bind, if_true, if_false, if_pos, if_neg, e2, z, e1, e3, q_min, ← hT2, e, hr]
      · rw [← hv]; exact Nat.le_trans (k4 _ (by omega)) on1
      · rw [← hv]; exact k5 o h1 h2
    refine lp_inv (fun i (q : Int32 × Int32 × Sm) => q.2.1 = nI i ∧ (q.1 = nI 1 ∨ q.1 = nI 0) ∧ SamT T q.2.2 ∧ ∃ f' : Nat → Nat, (∀ j, j < 40 → gi q.2.2 75 j = nI (f' j)) ∧ LaI N K L s a (B + 1) f' ∧ (∀ j, j < 40 → f' j ≤ f1 j) ∧ (∀ o, o < i → s.testBit o = true → f' (5 * m + o) ≤ v + 1) ∧ (q.1 = nI 1 ∧ (∃ x y, x < N ∧ y < K ∧ f' (5 * x + y) < f (5 * x + y)) ∨ q.1 = nI 0 ∧ ∀ j, j < 40 → f' j = f j)) K (by omega) ⟨rfl, b2.elim (fun h => Or.inl h.1) (fun h => Or.inr h.1), s2, f1, r2, la1, fun j _ => Nat.le_refl _, fun o h => absurd h (Nat.not_lt_zero o), b2⟩ (fun i q hi hq => ?_) (fun q hq => ?_)
    · obtain ⟨q1, q2, T3⟩ := q
      obtain ⟨rfl, g0, g1, f', g2, g3, g4, g5, g6⟩ := hq
      have g1 : SamT T T3 := g1
      have g2 : ∀ j, j < 40 → gi T3 75 j = nI (f' j) := g2
      have hT3 := hW T3 g1
      have e4 := g2 (5 * m + i) (by omega)
      have l4 := (g3 m i hm hi).1
      refine Or.inl ?_
      unfold Md_spreadChanges_L75 Md_spreadChanges_131_L75
      by_cases t : s.testBit i = true
      · have t1 : Md_has (nI s) (nI i) = nI 1 := set_h1 (by omega) (by omega) t
        by_cases low : f' (5 * m + i) ≤ v + 1
        · refine ⟨(q1, nI (i + 1), T3), ?_, rfl, g0, g1, f', g2, g3, g4, fun o ho hso => ?_, g6⟩
          · simp (disch := omega) only [q_lit, q_m1, q_m2, q_hid, q_add, q_mul, q_sub, q_le, q_lt, q_eq, q_mlt, q_mle, q_ltm, q_lem, q_meq, q_eqm, q_m2lt, q_m2le, q_ltm2, q_lem2, q_eqm2, q_mm2, q_m2m, q_mm, q_mnm, q_ix, q_inb, q_a0, q_a1, q_app, q_bind, if_true, if_false, if_pos, if_neg, hT3.2.1, t1, e4, low]
          · by_cases x : o = i
            · rw [x]; exact low
            · exact g5 o (by omega) hso
        · have base : Rch N K L (2 ^ i) (Al N K L s a (v + 1)) 8 m := Rch.allP h8 hL' (Al.lt hL' ha (v + 1)) 0 m hA
          refine ⟨(nI 1, nI (i + 1), si T3 75 (5 * m + i) (nI (v + 1))), ?_, rfl, Or.inl rfl, si75 g1, fun j => if j = 5 * m + i then v + 1 else f' j, fun j hj => ?_, la_put g3 hi (by omega) (by omega) t base h5, fun j hj => ?_, fun o ho hso => ?_, Or.inl ⟨rfl, m, i, hm, hi, ?_⟩⟩
          · simp (disch := omega) only [q_lit, q_m1, q_m2, q_hid, q_add, q_mul, q_sub, q_le, q_lt, q_eq, q_mlt, q_mle, q_ltm, q_lem, q_meq, q_eqm, q_m2lt, q_m2le, q_ltm2, q_lem2, q_eqm2, q_mm2, q_m2m, q_mm, q_mnm, q_ix, q_inb, q_a0, q_a1, q_app, q_bind, if_true, if_false, if_pos, if_neg, hT3.2.1, t1, e4, low]
          · show (if 75 = 75 ∧ j = 5 * m + i then _ else T3.1 75 j) = nI (if j = 5 * m + i then _ else f' j)
            by_cases x : j = 5 * m + i
            · rw [if_pos ⟨rfl, x⟩, if_pos x]
            · rw [if_neg fun h => x h.2, if_neg x]; exact g2 j hj
          · show (if j = 5 * m + i then _ else f' j) ≤ f1 j
            have := g4 j hj
            by_cases x : j = 5 * m + i
            · rw [if_pos x]; subst x; omega
            · rw [if_neg x]; exact this
          · show (if 5 * m + o = 5 * m + i then _ else f' (5 * m + o)) ≤ v + 1
            by_cases x : o = i
            · rw [if_pos (by omega)]; exact Nat.le_refl _
            · rw [if_neg (by omega)]; exact g5 o (by omega) hso
          · show (if 5 * m + i = 5 * m + i then v + 1 else _) < f (5 * m + i)
            rw [if_pos rfl]
            have u1 := g4 (5 * m + i) (by omega)
            have u2 := m1 (5 * m + i) (by omega)
            omega
      · have t0 : Md_has (nI s) (nI i) = nI 0 := set_h0 (by omega) (by omega) t
        refine ⟨(q1, nI (i + 1), T3), ?_, rfl, g0, g1, f', g2, g3, g4, fun o ho hso => ?_, g6⟩
        · simp (disch := omega) only [q_lit, q_m1, q_m2, q_hid, q_add, q_mul, q_sub, q_le, q_lt, q_eq, q_mlt, q_mle, q_ltm, q_lem, q_meq, q_eqm, q_m2lt, q_m2le, q_ltm2, q_lem2, q_eqm2, q_mm2, q_m2m, q_mm, q_mnm, q_ix, q_inb, q_a0, q_a1, q_app, q_bind, if_true, if_false, if_pos, if_neg, hT3.2.1, t0]
        · by_cases x : o = i
          · rw [x] at hso; exact absurd hso t
          · exact g5 o (by omega) hso
    · obtain ⟨q1, q2, T3⟩ := q
      obtain ⟨rfl, g0, g1, f', g2, g3, g4, g5, g6⟩ := hq
      have hT3 := hW T3 g1
      refine ⟨(q1, T3), ?_, g0, g1, f', g2, g3, g4, g5, g6⟩
      unfold Md_spreadChanges_L75
      simp (disch := omega) only [q_lit, q_m1, q_m2, q_hid, q_add, q_mul, q_sub, q_le, q_lt, q_eq, q_mlt, q_mle, q_ltm, q_lem, q_meq, q_eqm, q_m2lt, q_m2le, q_ltm2, q_lem2, q_eqm2, q_mm2, q_m2m, q_mm, q_mnm, q_ix, q_inb, q_a0, q_a1, q_app, q_bind, if_true, if_false, if_pos, if_neg, hT3.2.1, Nat.le_refl]
end CH
