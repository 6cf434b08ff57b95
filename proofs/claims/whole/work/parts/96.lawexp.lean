/-! ===== a law's text: sums at any depth, comparisons ===== -/
theorem TyE.up {q : Bool} {k k' : Nat} {us : List Tk} (h : TyE q k us) (hk : k ≤ k') : TyE q k' us := ⟨h.1, fun st hst => h.2 st (by omega)⟩
theorem TyC.up {k k' : Nat} {us : List Tk} (h : TyC k us) (hk : k ≤ k') : TyC k' us := fun st hst => h st (by omega)
/-- tokens that make a truth of a number -/
def TyQ (k : Nat) (us : List Tk) : Prop := ∀ st : List Bool, st.length + k ≤ 60 → rt us (false :: st) = some (true :: st)
/-- what the reference does behind a fault -/
def XR (G : Sm → Option Sm) : Prop := ∀ T, ¬ gi T 53 4 = -1 → G T = some T
section LC
variable {n : Nat} {b : Nat → Nat} {L v : Nat} {T0 S0 T S : Sm}
theorem SimQ.imp {P Q : List Tk → Prop} {d : Nat} {F G : Sm → Option Sm} (h : SimQ n b L v T0 S0 P d F G) (hq : ∀ us, P us → Q us) : SimQ n b L v T0 S0 Q d F G := fun i cs ts T S hz => by
  obtain ⟨T', S', h1, h2, h3, h4⟩ := h i cs ts T S hz
  exact ⟨T', S', h1, h2, h3, h4.imp hq⟩
theorem sim_seq {P Q R : List Tk → Prop} {d : Nat} {F G F' G' : Sm → Option Sm} (h : SimQ n b L v T0 S0 P d F G) (h' : SimQ n b L v T0 S0 Q d F' G') (hS : XS n b L v T0 S0 F') (hT : XR G') (hr : ∀ us ws, P us → Q ws → R (us ++ ws)) : SimQ n b L v T0 S0 R d (fun S => (F S).bind F') (fun T => (G T).bind G') := fun i cs ts T S hz => by
  obtain ⟨T1, S1, h1, h2, h3, h4⟩ := h i cs ts T S hz
  dsimp only
  rw [h1, h2, q_bind, q_bind]
  rcases h4.e4 with ⟨us, j, u1, u2, u3, u4⟩ | ⟨x, u4⟩
  · obtain ⟨T2, S2, g1, g2, g3, g4⟩ := h' _ _ _ _ _ u3
    exact ⟨T2, S2, g1, g2, h3.trans g3, g4.after u1 fun ws hw => hr us ws u2 hw⟩
  · obtain ⟨S2, g1, g2⟩ := hS _ _ _ _ _ x
    exact ⟨T1, S2, g1, hT T1 u4, h3, Or.inr g2⟩
theorem xs_seq {F F' : Sm → Option Sm} (h : XS n b L v T0 S0 F) (h' : XS n b L v T0 S0 F') : XS n b L v T0 S0 (fun S => (F S).bind F') := fun i t0 A T S x => by
  obtain ⟨S1, h1, h2⟩ := h i t0 A T S x
  obtain ⟨S2, g1, g2⟩ := h' i t0 A T S1 h2
  exact ⟨S2, by dsimp only; rw [h1, q_bind, g1], g2⟩
theorem xr_seq {G G' : Sm → Option Sm} (h : XR G) (h' : XR G') : XR (fun T => (G T).bind G') := fun T x => by
  dsimp only; rw [h T x, q_bind, h' T x]
/-- sums, terms, atoms: the depth from behind -/
theorem sim_up {e : Nat} (he : e ≤ 6) (hA : ∀ D, 3 * e + 1 ≤ D → SimQ n b L v T0 S0 (TyE false (1 + 2 * e)) (6 - e) (fLs D 2 (nI (6 - e))) (fMs D 2)) : ∀ D, 3 * e + 3 ≤ D → SimQ n b L v T0 S0 (TyE false (3 + 2 * e)) (6 - e) (fLs D 0 (nI (6 - e))) (fMs D 0) := by
  intro D hD
  obtain ⟨D, rfl⟩ : ∃ x, D = x + 2 := ⟨D - 2, by omega⟩
  have t1 : SimQ n b L v T0 S0 (TyE false (1 + 2 * e + 1)) (6 - e) (gcF 42 47 (fLs D 2 (nI (6 - e)))) (gtF 42 47 4 5 (fMs D 2)) := sim_g (c1 := 42) (c2 := 47) (t1 := 4) (t2 := 5) (hA D (by omega)) (by omega) (by omega) (by omega) ⟨by omega, by omega⟩ rfl rfl (fun _ => rfl) (fun _ => rfl)
  have t2 : SimQ n b L v T0 S0 (TyE false (1 + 2 * e + 1 + 1)) (6 - e) (gcF 43 45 (gcF 42 47 (fLs D 2 (nI (6 - e))))) (gtF 43 45 2 3 (gtF 42 47 4 5 (fMs D 2))) := sim_g (c1 := 43) (c2 := 45) (t1 := 2) (t2 := 3) t1 (by omega) (by omega) (by omega) ⟨by omega, by omega⟩ rfl rfl (fun _ => rfl) (fun _ => rfl)
  exact t2.imp fun us hu => hu.up (by omega)
theorem sim_ls : ∀ e, e ≤ 6 → ∀ D, 3 * e + 3 ≤ D → SimQ n b L v T0 S0 (TyE false (3 + 2 * e)) (6 - e) (fLs D 0 (nI (6 - e))) (fMs D 0)
  | 0, _ => by
    refine sim_up (by omega) fun D hD => ?_
    obtain ⟨D, rfl⟩ : ∃ x, D = x + 1 := ⟨D - 1, by omega⟩
    exact sim_atom (d := 6) (rcS := fLs D) (rcT := fMs D) (by omega) (by omega) (fun h => absurd h (by omega))
  | e + 1, he => by
    refine sim_up he fun D hD => ?_
    obtain ⟨D, rfl⟩ : ∃ x, D = x + 1 := ⟨D - 1, by omega⟩
    refine sim_atom (d := 6 - (e + 1)) (rcS := fLs D) (rcT := fMs D) (by omega) (by omega) fun h => ?_
    have := sim_ls e (by omega) D (by omega)
    rw [show 6 - (e + 1) + 1 = 6 - e by omega]
    exact this.imp fun us hu => hu.up (by omega)
theorem sim_sum {d : Nat} (hd : d ≤ 6) : SimQ n b L v T0 S0 (TyE false (15 - 2 * d)) d (Lr_readSum_r (nI d)) Md_sum_r := by
  have := sim_ls (n := n) (b := b) (L := L) (v := v) (T0 := T0) (S0 := S0) (6 - d) (by omega) 40 (by omega)
  rw [show 6 - (6 - d) = d by omega, show 3 + 2 * (6 - d) = 15 - 2 * d by omega] at this
  exact this
theorem xs_sum (d : Int32) : XS n b L v T0 S0 (Lr_readSum_r d) := by
  have a : XS n b L v T0 S0 (fLs 38 2 d) := xs_atom (fLs 37) d
  have t : XS n b L v T0 S0 (gcF 42 47 (fLs 38 2 d)) := xs_g (by decide) (by decide) a
  exact xs_g (o1 := 43) (o2 := 45) (by decide) (by decide) t
theorem xs_comp (d : Int32) : XS n b L v T0 S0 (Lr_readComparison d) := fun i t0 A T S h => by
  obtain ⟨s1, s2, -⟩ := h.sg
  refine ⟨S, ?_, h⟩
  unfold Lr_readComparison
  rw [s1, q_bind]
  dsimp only
  rw [show Lr_isComparing mI = 0 by decide, if_pos rfl, s2]; rfl
theorem xr_comp : XR Md_compare := fun T h => by
  unfold Md_compare Md_compare_16
  rw [if_neg h, show Md_isSign (-1) = 0 by decide, if_pos rfl]
  unfold Md_bad Md_bad_20
  rw [if_neg h, si_same rfl]; rfl
theorem t_cmp : ∀ c, c < 256 → (Lr_isComparing (nI c) = 0 ∧ Md_isSign (nI c) = 0 ∧ c ≠ 61 ∧ c ≠ 60 ∧ c ≠ 62) ∨ (Lr_isComparing (nI c) = 1 ∧ Md_isSign (nI c) = 1 ∧ (c = 61 ∨ c = 60 ∨ c = 62)) := by decide +kernel
theorem sim_cmp {d : Nat} (hd : d ≤ 6) : SimQ n b L v T0 S0 (TyQ (16 - 2 * d)) d (Lr_readComparison (nI d)) Md_compare := fun i cs ts T S h => by
  have hb := h.2.1.1.2.1
  have n240 := h.2.1.1.1
  have hc := h.2.2.2.1
  have ht := h.2.2.2.2.1
  obtain ⟨kk, w1, w2, w3, w4, w5⟩ := lx_look h.2.1
  have P1 := h.mv w1 w2
  have E1 : EqC T (si T 53 3 (nI kk)) := (EqC.rfl T).si (by omega)
  unfold Lr_readComparison Md_compare Md_compare_16
  rw [w4, if_pos (show gi T 53 4 = -1 from h.2.1.2.2.1), w5, q_bind, q_bind]
  dsimp only
  by_cases y : kk < n ∧ (b kk = 61 ∨ b kk = 60 ∨ b kk = 62)
  · obtain ⟨kn, y⟩ := y
    have q : Lr_isComparing (nI (b kk)) = 1 ∧ Md_isSign (nI (b kk)) = 1 := by
      rcases y with e | e | e <;> rw [e] <;> decide
    have tk := lx_take P1.2.1 w3 (lxs n b kk)
    rw [if_pos rfl, lx_ss, lxs_in kn] at tk
    have go : ∀ c t : Nat, b kk = c → -(nI c) = tkC (t, 0) → (∀ st, rt1 (t, 0) (false :: false :: st) = some (true :: st)) → ∃ T' S', ((Tp_take (nI c) (si S 8 2 (nI kk))).bind fun q2 => ((Lr_readSum_r (nI d) q2.2).bind fun q3 => (app (La_write (-(nI c)) q3) fun q4 => (some q4)))) = some S' ∧ ((Md_sum_r (si (si T 53 3 (nI kk)) 53 3 ((gi (si T 53 3 (nI kk)) 53 3) + 1))).bind fun q1 => Md_compare_68 (nI t) q1) = some T' ∧ EqC T T' ∧ PzR n b L v T0 S0 (TyQ (16 - 2 * d)) i d cs ts T' S' := fun c t e en er => by
      have h0 : PzO n b L v T0 S0 i d (cs ++ ([] : List Tk).map tkC) (ts ++ []) T S := by
        rw [List.map_nil, List.append_nil, List.append_nil]; exact h
      obtain ⟨S4, T4, T5, y1, y2, y3, y4, y5⟩ := sim_op (P := fun us => us = []) (R := TyQ (16 - 2 * d)) (t := t) (sim_sum hd) h0 rfl (Nat.le_refl _) hc ht w1 kn (fun ws hw st hst => by
        rw [List.nil_append, rt_app, hw.2 (false :: st) (by show st.length + 1 + (15 - 2 * d) ≤ 60; omega)]
        show (rt1 (t, 0) (false :: false :: st)).bind (rt []) = _
        rw [er]; rfl)
      rw [← e, tk, q_bind]
      dsimp only
      rw [y1, q_bind, q_app, e, en, show gi (si T 53 3 (nI kk)) 53 3 = nI kk from tb_h, lx_ss, show nI kk + 1 = nI (kk + 1) from q_add kk 1, y2, q_bind]
      unfold Md_compare_68
      rw [y3, q_bind]
      exact ⟨_, _, rfl, rfl, y4, y5⟩
    rw [lxs_in kn, q.1, q.2, if_neg (show ¬ (1 : Int32) = 0 by decide), if_neg (show ¬ (1 : Int32) = 0 by decide)]
    rcases y with e | e | e
    · rw [e]
      obtain ⟨T', S', z1, z2, z3, z4⟩ := go 61 6 e rfl (fun _ => rfl)
      exact ⟨T', S', z1, z2, z3, z4⟩
    · rw [e]
      obtain ⟨T', S', z1, z2, z3, z4⟩ := go 60 7 e rfl (fun _ => rfl)
      exact ⟨T', S', z1, z2, z3, z4⟩
    · rw [e]
      obtain ⟨T', S', z1, z2, z3, z4⟩ := go 62 8 e rfl (fun _ => rfl)
      exact ⟨T', S', z1, z2, z3, z4⟩
  · have q : Lr_isComparing (lxs n b kk) = 0 ∧ Md_isSign (lxs n b kk) = 0 := by
      by_cases kn : kk < n
      · rcases t_cmp (b kk) (by have := hb kk kn; omega) with e | e
        · rw [lxs_in kn]; exact ⟨e.1, e.2.1⟩
        · exact absurd ⟨kn, e.2.2⟩ y
      · rw [lxs_out kn]; decide
    have X := h.bad (i0 := i) (t0 := ts.length) (A := kk) w1 w2 (by omega) (Nat.le_refl _)
    rw [q.1, q.2, if_pos rfl, if_pos rfl, (lx_fail P1.2.1).1, (lx_fail P1.2.1).2, q_app, q_app]
    exact ⟨_, _, rfl, rfl, E1.si (by omega), Or.inr (X.w (Nat.le_refl _) (by omega))⟩
end LC
