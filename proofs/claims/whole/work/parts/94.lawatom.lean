/-! ===== a law's text: atoms ===== -/
theorem rt_app (us ws : List Tk) : ∀ st, rt (us ++ ws) st = (rt us st).bind (rt ws) := by
  induction us with
  | nil => intro st; rfl
  | cons t us ih =>
    intro st
    show (rt1 t st).bind (rt (us ++ ws)) = ((rt1 t st).bind (rt us)).bind (rt ws)
    cases rt1 t st with
    | none => rfl
    | some x => exact ih x
section LA
variable {n : Nat} {b : Nat → Nat} {L v : Nat} {T0 S0 T S : Sm}
/-- tokens that put one thing of a kind on any stack that leaves k free -/
def TyE (q : Bool) (k : Nat) (us : List Tk) : Prop := us ≠ [] ∧ ∀ st : List Bool, st.length + k ≤ 60 → rt us st = some (q :: st)
/-- tokens that go on with a truth -/
def TyC (k : Nat) (us : List Tk) : Prop := ∀ st : List Bool, st.length + k ≤ 60 → rt us (true :: st) = some (true :: st)
/-- both read tokens of the form P, or both have the same fault -/
def PzR (n : Nat) (b : Nat → Nat) (L v : Nat) (T0 S0 : Sm) (P : List Tk → Prop) (i d : Nat) (cs : List Int32) (ts : List Tk) (T S : Sm) : Prop := (∃ us j, i + us.length ≤ j ∧ P us ∧ PzO n b L v T0 S0 j d (cs ++ us.map tkC) (ts ++ us) T S) ∨ PzX n b L v T0 S0 i ts.length (250 - d) T S
def SimQ (n : Nat) (b : Nat → Nat) (L v : Nat) (T0 S0 : Sm) (P : List Tk → Prop) (d : Nat) (F G : Sm → Option Sm) : Prop := ∀ i cs ts T S, PzO n b L v T0 S0 i d cs ts T S → ∃ T' S', F S = some S' ∧ G T = some T' ∧ EqC T T' ∧ PzR n b L v T0 S0 P i d cs ts T' S'
theorem PzR.imp {P Q : List Tk → Prop} {i d : Nat} {cs : List Int32} {ts : List Tk} (h : PzR n b L v T0 S0 P i d cs ts T S) (hq : ∀ us, P us → Q us) : PzR n b L v T0 S0 Q i d cs ts T S := by
  rcases h with ⟨us, j, h1, h2, h3⟩ | h
  · exact Or.inl ⟨us, j, h1, hq us h2, h3⟩
  · exact Or.inr h
theorem PzR.after {P Q : List Tk → Prop} {i j d : Nat} {cs : List Int32} {ts us : List Tk} (h : PzR n b L v T0 S0 P j d (cs ++ us.map tkC) (ts ++ us) T S) (hj : i + us.length ≤ j) (hq : ∀ ws, P ws → Q (us ++ ws)) : PzR n b L v T0 S0 Q i d cs ts T S := by
  rcases h with ⟨ws, j2, h1, h2, h3⟩ | h
  · refine Or.inl ⟨us ++ ws, j2, by rw [List.length_append]; omega, hq ws h2, ?_⟩
    rw [List.map_append, ← List.append_assoc, ← List.append_assoc]
    exact h3
  · exact Or.inr (h.w (by rw [List.length_append]; omega) (Nat.le_refl _))
theorem PzR.put {P Q : List Tk → Prop} {i d a c : Nat} {cs : List Int32} {ts : List Tk} (h : PzR n b L v T0 S0 P (i + 1) d cs ts T S) (h1 : cs.length ≤ i) (h2 : ts.length ≤ i) (hq : ∀ us, P us → Q (us ++ [(a, c)])) : ∃ T', Md_put (nI a) (nI c) T = some T' ∧ EqC T T' ∧ PzR n b L v T0 S0 Q i d cs ts T' (La_write (tkC (a, c)) S) := by
  rcases h with ⟨us, j, u1, u2, u3⟩ | h
  · obtain ⟨T', e1, e2, e3⟩ := pz_w (a := a) (c := c) u3 (by rw [List.length_append, List.length_map]; omega) (by rw [List.length_append]; omega)
    refine ⟨T', e1, e3, Or.inl ⟨us ++ [(a, c)], j, by rw [List.length_append]; show i + (us.length + 1) ≤ j; omega, hq us u2, ?_⟩⟩
    rw [List.map_append, ← List.append_assoc, ← List.append_assoc]
    exact e2
  · obtain ⟨T', e1, e2, e3⟩ := h.put h2 (by omega) (nI a) (nI c)
    exact ⟨T', e1, e3, Or.inr (e2.wr _)⟩
/-- what the class does behind a fault -/
def XS (n : Nat) (b : Nat → Nat) (L v : Nat) (T0 S0 : Sm) (F : Sm → Option Sm) : Prop := ∀ i t0 A T S, PzX n b L v T0 S0 i t0 A T S → ∃ S', F S = some S' ∧ PzX n b L v T0 S0 i t0 A T S'
theorem pl_num {k j : Nat} (h : LxO n b k T S) (h0 : dgt n b k) (hj : j ≤ 4) (j1 : ∀ t, t < j → dgt n b (k + t)) (j2 : j < 4 → ¬ dgt n b (k + j)) : Md_plainNumber T = some (nI (dgv b k j), if dgt n b (k + j) then si (si T 53 3 (nI (k + j))) 53 4 (nI (k + j)) else si T 53 3 (nI (k + j))) := by
  have hh := h
  obtain ⟨hB, f1, f2, f3, f4, hi⟩ := h
  have h2 := hB.2.1
  have n240 := hB.1
  have kj : ∀ t, t ≤ j → k + t ≤ n := fun t ht => by
    by_cases z : t = 0
    · omega
    · have := (j1 (t - 1) (by omega)).1; omega
  have st : ∀ t, t ≤ j → LxO n b (k + t) (si T 53 3 (nI (k + t))) (si S 8 2 (nI (k + t))) := fun t ht => hh.move (kj t ht)
  have hr : ∀ t, t ≤ j → Md_here (si T 53 3 (nI (k + t))) = some (lxs n b (k + t)) := fun t ht => lx_here (st t ht).1 (st t ht).2.2.2.2.1 (by have := kj t ht; omega)
  have lp : lpN Md_plainNumber_L4 FU (0, 0, T) = some (nI (dgv b k j), si T 53 3 (nI (k + j))) := by
    refine lpN_run0 (fun t => (nI (dgv b k t), nI t, si T 53 3 (nI (k + t)))) j (by omega) (fun t ht => ?_) ?_ (by
      show (0, 0, T) = (nI 0, nI 0, si T 53 3 (nI (k + 0)))
      rw [Nat.add_zero, si_same f4]; rfl)
    · have d := j1 t ht
      have lt := dgv_lt (n := n) (b := b) (k := k) t fun x hx => j1 x (by omega)
      have p4 : 10 ^ t ≤ 10 ^ 4 := Nat.pow_le_pow_right (by decide) (by omega)
      have := h2 (k + t) d.1
      have d1 := d.2.1
      have ev : 10 * nI (dgv b k t) + nI (b (k + t)) - 48 = nI (dgv b k (t + 1)) := by
        rw [show (10 : Int32) = nI 10 from rfl, q_mul, q_add, show (48 : Int32) = nI 48 from rfl, q_sub (by omega)]
        exact congrArg nI (by show _ = dgv b k t * 10 + (b (k + t) - 48); omega)
      unfold Md_plainNumber_L4
      dsimp only
      rw [if_neg (show ¬ (4 : Int32) ≤ nI t from fun z => by have := (q_le (a := 4) (by omega) (by omega)).mp z; omega), hr t (by omega), q_bind, dg_T h2, decide_eq_true d, bI_t, if_neg (show ¬ nI 1 = 0 by decide), q_bind, lxs_in d.1, ev, show gi (si T 53 3 (nI (k + t))) 53 3 = nI (k + t) from tb_h, lx_ss, show nI t + 1 = nI (t + 1) from q_add t 1, show nI (k + t) + 1 = nI (k + (t + 1)) from q_add (k + t) 1]
    · unfold Md_plainNumber_L4
      dsimp only
      by_cases z : j = 4
      · rw [if_pos (show (4 : Int32) ≤ nI j by rw [z]; decide)]
      · rw [if_neg (show ¬ (4 : Int32) ≤ nI j from fun z => by have := (q_le (a := 4) (by omega) (by omega)).mp z; omega), hr j (Nat.le_refl _), q_bind, dg_T h2, decide_eq_false (j2 (by omega)), bI_f, if_pos (show nI 0 = 0 from rfl)]
  unfold Md_plainNumber Md_plainNumber_62
  rw [lp, q_bind]
  dsimp only
  rw [hr j (Nat.le_refl _), q_bind, dg_T h2]
  by_cases z : dgt n b (k + j)
  · rw [decide_eq_true z, bI_t, if_neg (show ¬ nI 1 = 0 by decide), if_pos z, (lx_fail (st j (Nat.le_refl _))).2]; rfl
  · rw [decide_eq_false z, bI_f, if_pos (show nI 0 = 0 from rfl), if_neg z]
def ltr_ (l : Nat) : Nat := [99, 108, 97, 98, 103].getD l 0
theorem t_ltr : ∀ c, c < 256 → (Md_letterOf (nI c) = mI ∧ Lr_isLetter (nI c) = 0) ∨ (List.range 5).any (fun l => decide (Md_letterOf (nI c) = nI l ∧ Lr_isLetter (nI c) = 1 ∧ -(nI c) = tkC (1, l) ∧ ¬ (48 ≤ c ∧ c ≤ 57) ∧ c ≠ 91)) = true := by decide +kernel
theorem t_91 : Md_letterOf (nI 91) = mI ∧ Md_letterOf mI = mI ∧ Lr_isLetter mI = 0 := by decide
/-- the class's readers, behind a fault -/
theorem xs_atom (rc : Nat → Int32 → Sm → Option Sm) (d : Int32) : XS n b L v T0 S0 (Lr_readAtom rc d) := fun i t0 A T S h => by
  obtain ⟨s1, -, -⟩ := h.sg
  refine ⟨La_write 0 S, ?_, h.wr 0⟩
  unfold Lr_readAtom Lr_readAtom_85
  rw [s1, q_bind]
  dsimp only
  rw [if_neg (show ¬ mI = 91 by decide), t_91.2.2, if_pos rfl, h.nm, q_bind, q_app]
/-- two operators between things -/
def gcL (o1 o2 : Int32) (A : Sm → Option Sm) (q : Int32 × Sm) : Option ((Int32 × Sm) ⊕ (Sm ⊕ Sm)) := (if (240 : Int32) ≤ q.1 then (some (.inr (.inr q.2))) else ((Tp_sign q.2).bind fun q2 => (if q2.1 = o1 then ((Tp_take q2.1 q2.2).bind fun q3 => ((A q3.2).bind fun q4 => (app (La_write (-q2.1) q4) fun q5 => (some (.inl (q.1 + 1, q5)))))) else (if q2.1 = o2 then ((Tp_take q2.1 q2.2).bind fun q3 => ((A q3.2).bind fun q4 => (app (La_write (-q2.1) q4) fun q5 => (some (.inl (q.1 + 1, q5)))))) else (some (.inr (.inl q2.2)))))))
def gcF (o1 o2 : Int32) (A : Sm → Option Sm) (S : Sm) : Option Sm := ((A S).bind fun q1 => ((lpN (gcL o1 o2 A) FU (0, q1)).bind fun q9 => (Sum.elim (fun a10 => (some a10)) (fun a11 => (some a11)) q9)))
def gt59 (s1 : Int32) (S : Sm) : Option ((Int32 × Sm) ⊕ Sm) := ((Md_put s1 0 S).bind fun q3 => (if (gi q3 53 4) = ((-1)) then ((Md_look q3).bind fun q4 => (some (.inl (q4.1, q4.2)))) else (some (.inl (((-1)), q3)))))
def gtL (o1 o2 t1 t2 : Int32) (A : Sm → Option Sm) (q : Int32 × Sm) : Option ((Int32 × Sm) ⊕ Sm) := (if q.1 = o1 then ((A (si q.2 53 3 ((gi q.2 53 3) + 1))).bind fun q2 => (if q.1 = o1 then (gt59 t1 q2) else (gt59 t2 q2))) else (if q.1 = o2 then ((A (si q.2 53 3 ((gi q.2 53 3) + 1))).bind fun q2 => (if q.1 = o1 then (gt59 t1 q2) else (gt59 t2 q2))) else (some (.inr q.2))))
def gtF (o1 o2 t1 t2 : Int32) (A : Sm → Option Sm) (S : Sm) : Option Sm := ((A S).bind fun q1 => (if (gi q1 53 4) = ((-1)) then ((Md_look q1).bind fun q10 => ((lpN (gtL o1 o2 t1 t2 A) FU (q10.1, q10.2)).bind fun q9 => (some q9))) else ((lpN (gtL o1 o2 t1 t2 A) FU (((-1)), q1)).bind fun q9 => (some q9))))
theorem lr_sum (rc : Nat → Int32 → Sm → Option Sm) (d : Int32) (S : Sm) : Lr_readSum rc d S = gcF 43 45 (rc 1 d) S := rfl
theorem lr_term (rc : Nat → Int32 → Sm → Option Sm) (d : Int32) (S : Sm) : Lr_readTerm rc d S = gcF 42 47 (rc 2 d) S := rfl
theorem md_sum (rc : Nat → Sm → Option Sm) (S : Sm) : Md_sum rc S = gtF 43 45 2 3 (rc 1) S := rfl
theorem md_term (rc : Nat → Sm → Option Sm) (S : Sm) : Md_term rc S = gtF 42 47 4 5 (rc 2) S := rfl
theorem xs_g {o1 o2 : Int32} {A : Sm → Option Sm} (h1 : ¬ mI = o1) (h2 : ¬ mI = o2) (hA : XS n b L v T0 S0 A) : XS n b L v T0 S0 (gcF o1 o2 A) := fun i t0 AA T S h => by
  obtain ⟨S1, e1, x1⟩ := hA i t0 AA T S h
  obtain ⟨s1, -, -⟩ := x1.sg
  refine ⟨S1, ?_, x1⟩
  have lp : lpN (gcL o1 o2 A) FU (0, S1) = some (.inl S1) := by
    refine lpN_run0 (fun _ => (0, S1)) 0 (by omega) (fun t ht => absurd ht (by omega)) ?_ rfl
    unfold gcL
    dsimp only
    rw [if_neg (show ¬ (240 : Int32) ≤ 0 by decide), s1, q_bind]
    dsimp only
    rw [if_neg h1, if_neg h2]
  unfold gcF
  rw [e1, q_bind, lp]; rfl
/-- where a reader of tokens stands -/
theorem PzR.e4 {P : List Tk → Prop} {i d : Nat} {cs : List Int32} {ts : List Tk} (h : PzR n b L v T0 S0 P i d cs ts T S) : (∃ us j, i + us.length ≤ j ∧ P us ∧ PzO n b L v T0 S0 j d (cs ++ us.map tkC) (ts ++ us) T S ∧ gi T 53 4 = -1) ∨ (PzX n b L v T0 S0 i ts.length (250 - d) T S ∧ ¬ gi T 53 4 = -1) := by
  rcases h with ⟨us, j, u1, u2, u3⟩ | h
  · exact Or.inl ⟨us, j, u1, u2, u3, u3.2.1.2.2.1⟩
  · obtain ⟨p, -, -, -, -, -, p4⟩ := h.p
    exact Or.inr ⟨h, p4⟩
/-- an operator, the thing behind it, its token -/
theorem sim_op {P Q R : List Tk → Prop} {i j d t kk : Nat} {A B : Sm → Option Sm} {cs : List Int32} {ts us : List Tk} (hA : SimQ n b L v T0 S0 Q d A B) (h : PzO n b L v T0 S0 j d (cs ++ us.map tkC) (ts ++ us) T S) (hu : P us) (h1 : i + us.length ≤ j) (hc : cs.length ≤ i) (ht : ts.length ≤ i) (hk : j ≤ kk) (kn : kk < n) (hr : ∀ ws, Q ws → R (us ++ ws ++ [(t, 0)])) : ∃ S4 T4 T5, A (si S 8 2 (nI (kk + 1))) = some S4 ∧ B (si T 53 3 (nI (kk + 1))) = some T4 ∧ Md_put (nI t) 0 T4 = some T5 ∧ EqC T T5 ∧ PzR n b L v T0 S0 R i d cs ts T5 (La_write (tkC (t, 0)) S4) := by
  have P2 := h.mv (show j ≤ kk + 1 by omega) (show kk + 1 ≤ n from kn)
  obtain ⟨T4, S4, y1, y2, y3, y4⟩ := hA _ _ _ _ _ P2
  have y5 : PzR n b L v T0 S0 (fun ws => ∃ vs, Q vs ∧ ws = us ++ vs) (i + 1) d cs ts T4 S4 := y4.after (by omega) fun ws hw => ⟨ws, hw, rfl⟩
  obtain ⟨T5, z1, z2, z3⟩ := y5.put (a := t) (c := 0) (Q := R) hc ht (fun ws ⟨vs, v1, v2⟩ => by rw [v2]; exact hr vs v1)
  exact ⟨S4, T4, T5, y1, y2, z1, (((EqC.rfl T).si (by omega)).trans y3).trans z2, z3⟩
/-- the chain of two operators, on both sides -/
theorem sim_g {d k c1 c2 t1 t2 : Nat} {A B : Sm → Option Sm} (hA : SimQ n b L v T0 S0 (TyE false k) d A B) (cc1 : c1 < 256) (cc2 : c2 < 256) (c12 : c1 ≠ c2) (c32 : c1 ≠ 32 ∧ c2 ≠ 32) (e1 : -(nI c1) = tkC (t1, 0)) (e2 : -(nI c2) = tkC (t2, 0)) (r1 : ∀ st, rt1 (t1, 0) (false :: false :: st) = some (false :: st)) (r2 : ∀ st, rt1 (t2, 0) (false :: false :: st) = some (false :: st)) : SimQ n b L v T0 S0 (TyE false (k + 1)) d (gcF (nI c1) (nI c2) A) (gtF (nI c1) (nI c2) (nI t1) (nI t2) B) := fun i cs ts T S h => by
  have hb := h.2.1.1.2.1
  have n240 := h.2.1.1.1
  have hc := h.2.2.2.1
  have ht := h.2.2.2.2.1
  have m1 : ¬ mI = nI c1 := fun e => (q_meq (by omega)).mp e
  have m2 : ¬ mI = nI c2 := fun e => (q_meq (by omega)).mp e
  obtain ⟨T1, S1, a1, a2, a3, a4⟩ := hA i cs ts T S h
  -- where the loop stands
  let I : Nat → (Int32 × Sm) → (Int32 × Sm) → Prop := fun it s t => s.1 = nI it ∧ EqC T t.2 ∧ ((∃ us j T2, i + us.length ≤ j ∧ it + 1 ≤ us.length ∧ TyE false (k + 1) us ∧ PzO n b L v T0 S0 j d (cs ++ us.map tkC) (ts ++ us) T2 s.2 ∧ EqC T T2 ∧ Md_look T2 = some t) ∨ (t.1 = mI ∧ PzX n b L v T0 S0 i ts.length (250 - d) t.2 s.2))
  -- after a put: the reference looks on
  have goes : ∀ it Sx Ty, EqC T Ty → PzR n b L v T0 S0 (fun us => TyE false (k + 1) us ∧ it + 1 ≤ us.length) i d cs ts Ty Sx → ∃ t, (if (gi Ty 53 4) = ((-1)) then ((Md_look Ty).bind fun q4 => (some (Sum.inl (q4.1, q4.2)) : Option ((Int32 × Sm) ⊕ Sm))) else (some (Sum.inl (((-1)), Ty)))) = some (.inl t) ∧ I it (nI it, Sx) t := fun it Sx Ty ey r => by
    rcases r.e4 with ⟨us, j, u1, ⟨u2, u3⟩, u4, u5⟩ | ⟨x, u5⟩
    · obtain ⟨kk, w1, w2, w3, w4, w5⟩ := lx_look u4.2.1
      rw [if_pos u5, w5, q_bind]
      exact ⟨_, rfl, rfl, ey.si (by omega), Or.inl ⟨us, j, Ty, u1, u3, u2, u4, ey, w5⟩⟩
    · rw [if_neg u5]
      exact ⟨_, rfl, rfl, ey, Or.inr ⟨rfl, x⟩⟩
  obtain ⟨t0, g1, g2⟩ := goes 0 S1 T1 a3 (a4.imp fun us hu => ⟨⟨hu.1, fun st hst => hu.2 st (by omega)⟩, by have := List.length_pos_iff.mpr hu.1; omega⟩)
  have loop : ∃ (r : Sm ⊕ Sm) (T' : Sm), lpN (gcL (nI c1) (nI c2) A) FU (0, S1) = some r ∧ lpN (gtL (nI c1) (nI c2) (nI t1) (nI t2) B) FU t0 = some T' ∧ EqC T T' ∧ ∃ S', (r = .inl S' ∨ r = .inr S') ∧ PzR n b L v T0 S0 (TyE false (k + 1)) i d cs ts T' S' := by
    refine lp_rel (Q := fun (r : Sm ⊕ Sm) (T' : Sm) => EqC T T' ∧ ∃ S', (r = .inl S' ∨ r = .inr S') ∧ PzR n b L v T0 S0 (TyE false (k + 1)) i d cs ts T' S') I 240 (by omega) g2 (fun it s t hit hq => ?_) (fun s t hq => ?_)
    · obtain ⟨s1, S2⟩ := s
      obtain ⟨t1', T3⟩ := t
      obtain ⟨(f1 : s1 = nI it), (f0 : EqC T T3), hq⟩ := hq
      subst f1
      have c240 : ¬ (240 : Int32) ≤ nI it := fun z => by have := (q_le (a := 240) (by omega) (by omega)).mp z; omega
      rcases hq with ⟨us, j, T2, v1, v2, v3, (v5 : PzO n b L v T0 S0 j d _ _ T2 S2), v7, (v6 : Md_look T2 = some (t1', T3))⟩ | ⟨(f2 : t1' = mI), (x : PzX n b L v T0 S0 i ts.length (250 - d) T3 S2)⟩
      · obtain ⟨kk, w1, w2, w3, w4, w5⟩ := lx_look v5.2.1
        have ev := Option.some.inj (v6.symm.trans w5)
        have ev1 : t1' = lxs n b kk := congrArg Prod.fst ev
        have ev2 : T3 = si T2 53 3 (nI kk) := congrArg Prod.snd ev
        subst ev1 ev2
        have P1 := v5.mv w1 w2
        have oper : ∀ c tt : Nat, kk < n → lxs n b kk = nI c → -(nI c) = tkC (tt, 0) → (∀ st, rt1 (tt, 0) (false :: false :: st) = some (false :: st)) → ∃ S4 t', ((Tp_take (nI c) (si S2 8 2 (nI kk))).bind fun q3 => ((A q3.2).bind fun q4 => (app (La_write (-(nI c)) q4) fun q5 => (some (Sum.inl (nI it + 1, q5)) : Option ((Int32 × Sm) ⊕ (Sm ⊕ Sm)))))) = some (Sum.inl (nI (it + 1), S4)) ∧ ((B (si (si T2 53 3 (nI kk)) 53 3 ((gi (si T2 53 3 (nI kk)) 53 3) + 1))).bind fun q2 => gt59 (nI tt) q2) = some (Sum.inl t') ∧ I (it + 1) (nI (it + 1), S4) t' := fun c tt kn ec en er => by
          have tk := lx_take P1.2.1 w3 (lxs n b kk)
          rw [if_pos rfl, lx_ss, ec] at tk
          obtain ⟨S4, T4, T5, y1, y2, y3, y4, y5⟩ := sim_op (P := TyE false (k + 1)) (R := fun us => TyE false (k + 1) us ∧ it + 1 + 1 ≤ us.length) (t := tt) hA v5 v3 v1 hc ht w1 kn (fun ws hw => ⟨⟨by simp, fun st hst => by
            rw [rt_app, rt_app, v3.2 st hst]
            show ((rt ws (false :: st)).bind _) = _
            rw [hw.2 (false :: st) (by show st.length + 1 + k ≤ 60; omega)]
            show (rt1 (tt, 0) (false :: false :: st)).bind (rt []) = _
            rw [er]; rfl⟩, by rw [List.length_append, List.length_append]; show it + 1 + 1 ≤ us.length + ws.length + 1; omega⟩)
          obtain ⟨t', z1, z2⟩ := goes (it + 1) _ T5 (v7.trans y4) y5
          refine ⟨_, t', ?_, ?_, z2⟩
          · rw [tk, q_bind]
            dsimp only
            rw [y1, q_bind, q_app, en, show nI it + 1 = nI (it + 1) from q_add it 1]
          · rw [show gi (si T2 53 3 (nI kk)) 53 3 = nI kk from tb_h, lx_ss, show nI kk + 1 = nI (kk + 1) from q_add kk 1, y2, q_bind]
            unfold gt59
            rw [show (0 : Int32) = nI 0 from rfl] at *
            rw [y3, q_bind]
            exact z1
        by_cases x1 : lxs n b kk = nI c1
        · obtain ⟨kn, -⟩ := (lxs_eq hb (by omega)).mp x1
          obtain ⟨S4, t', z1, z2, z3⟩ := oper c1 t1 kn x1 e1 r1
          refine Or.inl ⟨_, t', ?_, ?_, z3⟩
          · unfold gcL
            dsimp only
            rw [if_neg c240, w4, q_bind]
            dsimp only
            rw [if_pos x1, x1]
            exact z1
          · unfold gtL
            dsimp only
            rw [if_pos x1, show (fun q2 => if lxs n b kk = nI c1 then gt59 (nI t1) q2 else gt59 (nI t2) q2) = fun q2 => gt59 (nI t1) q2 from funext fun q2 => if_pos x1]
            exact z2
        · by_cases x2 : lxs n b kk = nI c2
          · obtain ⟨kn, -⟩ := (lxs_eq hb (by omega)).mp x2
            obtain ⟨S4, t', z1, z2, z3⟩ := oper c2 t2 kn x2 e2 r2
            refine Or.inl ⟨_, t', ?_, ?_, z3⟩
            · unfold gcL
              dsimp only
              rw [if_neg c240, w4, q_bind]
              dsimp only
              rw [if_neg x1, if_pos x2, x2]
              exact z1
            · unfold gtL
              dsimp only
              rw [if_neg x1, if_pos x2, show (fun q2 => if lxs n b kk = nI c1 then gt59 (nI t1) q2 else gt59 (nI t2) q2) = fun q2 => gt59 (nI t2) q2 from funext fun q2 => if_neg x1]
              exact z2
          · refine Or.inr ⟨.inl (si S2 8 2 (nI kk)), _, ?_, ?_, f0, _, Or.inl rfl, Or.inl ⟨us, kk, by omega, v3, P1⟩⟩
            · unfold gcL
              dsimp only
              rw [if_neg c240, w4, q_bind]
              dsimp only
              rw [if_neg x1, if_neg x2]
            · unfold gtL
              dsimp only
              rw [if_neg x1, if_neg x2]
      · subst f2
        obtain ⟨s1, -, -⟩ := x.sg
        refine Or.inr ⟨.inl S2, T3, ?_, ?_, f0, S2, Or.inl rfl, Or.inr x⟩
        · unfold gcL
          dsimp only
          rw [if_neg c240, s1, q_bind]
          dsimp only
          rw [if_neg m1, if_neg m2]
        · unfold gtL
          dsimp only
          rw [if_neg m1, if_neg m2]
    · obtain ⟨s1, S2⟩ := s
      obtain ⟨t1', T3⟩ := t
      obtain ⟨(f1 : s1 = nI 240), (f0 : EqC T T3), hq⟩ := hq
      subst f1
      rcases hq with ⟨us, j, T2, v1, v2, v3, (v5 : PzO n b L v T0 S0 j d _ _ T2 S2), v7, (v6 : Md_look T2 = some (t1', T3))⟩ | ⟨(f2 : t1' = mI), (x : PzX n b L v T0 S0 i ts.length (250 - d) T3 S2)⟩
      · have := v5.2.1.2.2.2.2.2; omega
      · subst f2
        refine ⟨.inr S2, T3, ?_, ?_, f0, S2, Or.inr rfl, Or.inr x⟩
        · unfold gcL
          dsimp only
          rw [if_pos (show (240 : Int32) ≤ nI 240 by decide)]
        · unfold gtL
          dsimp only
          rw [if_neg m1, if_neg m2]
  obtain ⟨r, T', p1, p2, p3, S', p4, p5⟩ := loop
  refine ⟨T', S', ?_, ?_, p3, p5⟩
  · unfold gcF
    rw [a1, q_bind, p1, q_bind]
    rcases p4 with rfl | rfl <;> rfl
  · unfold gtF
    rw [a2, q_bind]
    by_cases y : gi T1 53 4 = -1
    · rw [if_pos y] at g1 ⊢
      rcases a4.e4 with ⟨us, j, u1, u2, u4, u5⟩ | ⟨x, u5⟩
      · obtain ⟨kk, w1, w2, w3, w4, w5⟩ := lx_look u4.2.1
        rw [w5, q_bind] at g1 ⊢
        have e := Sum.inl.inj (Option.some.inj g1)
        rw [show ((lxs n b kk, si T1 53 3 (nI kk)).1, (lxs n b kk, si T1 53 3 (nI kk)).2) = t0 from e, p2]; rfl
      · exact absurd y u5
    · rw [if_neg y] at g1 ⊢
      have e := Sum.inl.inj (Option.some.inj g1)
      rw [e, p2]; rfl
end LA
