/-! ===== a law's text: what both write ===== -/
def SmL (L : Nat) (S S' : Sm) : Prop := ∀ i j, scS i j = false → ¬ (i = 21 ∧ 240 * L ≤ j) → ¬ (i = 22 ∧ j = L) → S'.1 i j = S.1 i j
def TmL (v : Nat) (T T' : Sm) : Prop := ∀ i j, scT i j = false → ¬ ((i = 55 ∨ i = 56) ∧ 520 * v ≤ j) → i ≠ 57 → ¬ (i = 58 ∧ j = v) → ¬ ((i = 59 ∨ i = 60 ∨ i = 61) ∧ 140 * v ≤ j) → T'.1 i j = T.1 i j
theorem SmL.st {L : Nat} {S S1 : Sm} (h : SmL L S S1) {i j : Nat} {x : Int32} (hc : scS i j = true ∨ (i = 21 ∧ 240 * L ≤ j) ∨ (i = 22 ∧ j = L)) : SmL L S (si S1 i j x) := fun a b q r s => by
  show gi (si S1 i j x) a b = _
  rw [tb_n fun e => ?_]
  · exact h a b q r s
  · obtain ⟨rfl, rfl⟩ := e
    rcases hc with hc | hc | hc
    · rw [hc] at q; cases q
    · exact r hc
    · exact s hc
theorem TmL.st {v : Nat} {T T1 : Sm} (h : TmL v T T1) {i j : Nat} {x : Int32} (hc : scT i j = true ∨ ((i = 55 ∨ i = 56) ∧ 520 * v ≤ j) ∨ i = 57 ∨ (i = 58 ∧ j = v) ∨ ((i = 59 ∨ i = 60 ∨ i = 61) ∧ 140 * v ≤ j)) : TmL v T (si T1 i j x) := fun a b q r s t u => by
  show gi (si T1 i j x) a b = _
  rw [tb_n fun e => ?_]
  · exact h a b q r s t u
  · obtain ⟨rfl, rfl⟩ := e
    rcases hc with hc | hc | hc | hc | hc
    · rw [hc] at q; cases q
    · exact r hc
    · exact s hc
    · exact t hc
    · exact u hc
/-- clauses' tables stay -/
def EqC (T T' : Sm) : Prop := ∀ i j, 58 ≤ i → i ≤ 61 → T'.1 i j = T.1 i j
theorem EqC.rfl (T : Sm) : EqC T T := fun _ _ _ _ => by rfl
theorem EqC.trans {T T1 T2 : Sm} (h : EqC T T1) (g : EqC T1 T2) : EqC T T2 := fun i j a c => (g i j a c).trans (h i j a c)
theorem EqC.si {T T1 : Sm} (h : EqC T T1) {i j : Nat} {x : Int32} (hi : i < 58 ∨ 61 < i) : EqC T (si T1 i j x) := fun a b c d => (tb_n fun e => by omega).trans (h a b c d)
section LW
variable {n : Nat} {b : Nat → Nat} {L v : Nat} {T0 S0 T S : Sm}
def PzF (L v : Nat) (T0 S0 T S : Sm) : Prop := L ≤ 4 ∧ v ≤ 4 ∧ gi S 20 4 = nI L ∧ gi T 53 14 = nI v ∧ SmL L S0 S ∧ TmL v T0 T
def PzO (n : Nat) (b : Nat → Nat) (L v : Nat) (T0 S0 : Sm) (i d : Nat) (cs : List Int32) (ts : List Tk) (T S : Sm) : Prop := PzF L v T0 S0 T S ∧ LxO n b i T S ∧ gi T 53 5 = nI d ∧ cs.length ≤ i ∧ ts.length ≤ i ∧ gi S 22 L = nI cs.length ∧ (∀ j x, cs[j]? = some x → gi S 21 (240 * L + j) = x) ∧ gi T 57 v = nI ts.length ∧ ∀ j x, ts[j]? = some x → gi T 55 (520 * v + j) = nI x.1 ∧ gi T 56 (520 * v + j) = nI x.2
def PzX (n : Nat) (b : Nat → Nat) (L v : Nat) (T0 S0 : Sm) (i t0 A : Nat) (T S : Sm) : Prop := PzF L v T0 S0 T S ∧ LxB n b T S ∧ ∃ p a t e, p ≤ n ∧ gi S 8 3 = nI p ∧ gi T 53 4 = nI p ∧ gi T 53 3 = nI a ∧ gi T 57 v = nI t ∧ t + i ≤ a + t0 ∧ a ≤ A ∧ gi S 22 L = nI e ∧ e ≤ 240
theorem PzX.w {i i' t0 t1 A A' : Nat} (h : PzX n b L v T0 S0 i t0 A T S) (hi : i' + t0 ≤ i + t1) (hA : A ≤ A') : PzX n b L v T0 S0 i' t1 A' T S := by
  obtain ⟨h1, h2, p, a, t, e, h3, h4, h5, h6, h7, h8, h9, h10⟩ := h
  exact ⟨h1, h2, p, a, t, e, h3, h4, h5, h6, h7, by omega, by omega, h10⟩
/-- the class's write -/
theorem la_w {e : Nat} (hL : L ≤ 4) (h20 : gi S 20 4 = nI L) (h22 : gi S 22 L = nI e) (he : e ≤ 240) (x : Int32) : La_write x S = if e < 240 then si (si S 21 (240 * L + e) x) 22 L (nI (e + 1)) else S := by
  unfold La_write La_write_51
  rw [h20, q_at (by omega) (by omega), h22]
  by_cases y : e < 240
  · rw [if_pos y, if_neg (show ¬ (240 : Int32) ≤ nI e from fun z => by have := (q_le (a := 240) (by omega) (by omega)).mp z; omega), show (240 : Int32) = nI 240 from rfl, q_mul, q_add, q_pu (by omega) (by omega), q_app, show gi (si S 21 (L * 240 + e) x) 20 4 = nI L from (tb_n fun e => absurd e.1 (by decide)).trans h20, show nI e + 1 = nI (e + 1) from q_add e 1, q_pu (by omega) (by omega), q_app, Nat.mul_comm]
  · rw [if_neg y, if_pos (show (240 : Int32) ≤ nI e from nI_le (a := 240) (by omega) (by omega))]
/-- the reference's put -/
theorem md_p {t : Nat} (hv : v ≤ 4) (h14 : gi T 53 14 = nI v) (h57 : gi T 57 v = nI t) (ht : t < 520) (x y : Int32) : Md_put x y T = some (si (si (si T 55 (520 * v + t) x) 56 (520 * v + t) y) 57 v (nI (t + 1))) := by
  have c1 : ∀ z, gi (si T 55 (520 * v + t) z) 53 14 = nI v := fun z => (tb_n fun e => absurd e.1 (by decide)).trans h14
  have c2 : ∀ z, gi (si T 55 (520 * v + t) z) 57 v = nI t := fun z => (tb_n fun e => absurd e.1 (by decide)).trans h57
  have c3 : ∀ z u, gi (si (si T 55 (520 * v + t) z) 56 (520 * v + t) u) 53 14 = nI v := fun z u => (tb_n fun e => absurd e.1 (by decide)).trans (c1 z)
  have c4 : ∀ z u, gi (si (si T 55 (520 * v + t) z) 56 (520 * v + t) u) 57 v = nI t := fun z u => (tb_n fun e => absurd e.1 (by decide)).trans (c2 z)
  unfold Md_put
  simp (disch := omega) only [q_lit, q_m1, q_m2, q_hid, q_add, q_mul, q_sub, q_le, q_lt, q_eq, q_mlt, q_mle, q_ltm, q_lem, q_meq, q_eqm, q_m2lt, q_m2le, q_ltm2, q_lem2, q_eqm2, q_mm2, q_m2m, q_mm, q_mnm, q_ix, q_inb, q_a0, q_a1, q_app, q_bind, if_true, if_false, if_pos, if_neg, h14, h57, c1, c2, c3, c4]
theorem pz_w {i d a c : Nat} {cs : List Int32} {ts : List Tk} (h : PzO n b L v T0 S0 i d cs ts T S) (h1 : cs.length + 1 ≤ i) (h2 : ts.length + 1 ≤ i) : ∃ T', Md_put (nI a) (nI c) T = some T' ∧ PzO n b L v T0 S0 i d (cs ++ [tkC (a, c)]) (ts ++ [(a, c)]) T' (La_write (tkC (a, c)) S) ∧ EqC T T' := by
  obtain ⟨⟨f1, f2, f3, f4, f5, f6⟩, hO, g1, g2, g3, g4, g5, g6, g7⟩ := h
  obtain ⟨⟨o1, o2, o3, o4, o5, o6⟩, o7, o8, o9, o10, o11⟩ := hO
  rw [la_w f1 f3 g4 (by omega), if_pos (by omega)]
  generalize tkC (a, c) = x
  refine ⟨_, md_p f2 f4 g6 (by omega) _ _, ⟨⟨f1, f2, (tb_n fun e => absurd e.1 (by decide)).trans ((tb_n fun e => absurd e.1 (by decide)).trans f3), (tb_n fun e => absurd e.1 (by decide)).trans ((tb_n fun e => absurd e.1 (by decide)).trans ((tb_n fun e => absurd e.1 (by decide)).trans f4)), (f5.st (Or.inr (Or.inl ⟨rfl, by omega⟩))).st (Or.inr (Or.inr ⟨rfl, rfl⟩)), ((f6.st (Or.inr (Or.inl ⟨Or.inl rfl, by omega⟩))).st (Or.inr (Or.inl ⟨Or.inr rfl, by omega⟩))).st (Or.inr (Or.inr (Or.inl rfl)))⟩, ⟨⟨o1, o2, ?_, fun i hi => ?_, ?_, fun i hi => ?_⟩, ?_, ?_, ?_, ?_, o11⟩, ?_, ?_, ?_, ?_, fun j y hj => ?_, ?_, fun j y hj => ?_⟩, ((EqC.rfl T).si (by omega)).si (by omega) |>.si (by omega)⟩
  · exact (tb_n fun e => absurd e.1 (by decide)).trans ((tb_n fun e => absurd e.1 (by decide)).trans o3)
  · exact (tb_n fun e => absurd e.1 (by decide)).trans ((tb_n fun e => absurd e.1 (by decide)).trans (o4 i hi))
  · exact (tb_n fun e => absurd e.1 (by decide)).trans ((tb_n fun e => absurd e.1 (by decide)).trans ((tb_n fun e => absurd e.1 (by decide)).trans o5))
  · exact (tb_n fun e => absurd e.1 (by decide)).trans ((tb_n fun e => absurd e.1 (by decide)).trans ((tb_n fun e => absurd e.1 (by decide)).trans (o6 i hi)))
  · exact (tb_n fun e => absurd e.1 (by decide)).trans ((tb_n fun e => absurd e.1 (by decide)).trans o7)
  · exact (tb_n fun e => absurd e.1 (by decide)).trans ((tb_n fun e => absurd e.1 (by decide)).trans ((tb_n fun e => absurd e.1 (by decide)).trans o8))
  · exact (tb_n fun e => absurd e.1 (by decide)).trans ((tb_n fun e => absurd e.1 (by decide)).trans o9)
  · exact (tb_n fun e => absurd e.1 (by decide)).trans ((tb_n fun e => absurd e.1 (by decide)).trans ((tb_n fun e => absurd e.1 (by decide)).trans o10))
  · exact (tb_n fun e => absurd e.1 (by decide)).trans ((tb_n fun e => absurd e.1 (by decide)).trans ((tb_n fun e => absurd e.1 (by decide)).trans g1))
  · rw [List.length_append]; exact h1
  · rw [List.length_append]; exact h2
  · rw [List.length_append]; exact tb_h
  · by_cases z : j < cs.length
    · rw [List.getElem?_append_left z] at hj
      exact (tb_n fun e => absurd e.1 (by decide)).trans ((tb_n fun e => by omega).trans (g5 j y hj))
    · rw [List.getElem?_append_right (by omega)] at hj
      by_cases z2 : j = cs.length
      · rw [z2, Nat.sub_self] at hj
        have hj : x = y := Option.some.inj hj
        rw [z2, ← hj]
        exact (tb_n fun e => absurd e.1 (by decide)).trans tb_h
      · obtain ⟨q, hq⟩ : ∃ q, j - cs.length = q + 1 := ⟨j - cs.length - 1, by omega⟩
        rw [hq] at hj; cases hj
  · rw [List.length_append]; exact tb_h
  · by_cases z : j < ts.length
    · rw [List.getElem?_append_left z] at hj
      obtain ⟨w1, w2⟩ := g7 j y hj
      exact ⟨(tb_n fun e => absurd e.1 (by decide)).trans ((tb_n fun e => absurd e.1 (by decide)).trans ((tb_n fun e => by omega).trans w1)), (tb_n fun e => absurd e.1 (by decide)).trans ((tb_n fun e => by omega).trans ((tb_n fun e => absurd e.1 (by decide)).trans w2))⟩
    · rw [List.getElem?_append_right (by omega)] at hj
      by_cases z2 : j = ts.length
      · rw [z2, Nat.sub_self] at hj
        have hj : (a, c) = y := Option.some.inj hj
        rw [z2, ← hj]
        exact ⟨(tb_n fun e => absurd e.1 (by decide)).trans ((tb_n fun e => absurd e.1 (by decide)).trans tb_h), (tb_n fun e => absurd e.1 (by decide)).trans tb_h⟩
      · obtain ⟨q, hq⟩ : ∃ q, j - ts.length = q + 1 := ⟨j - ts.length - 1, by omega⟩
        rw [hq] at hj; cases hj
/-- a code that the reference has no token for -/
theorem pz_wS {i d : Nat} {cs : List Int32} {ts : List Tk} (h : PzO n b L v T0 S0 i d cs ts T S) (h1 : cs.length + 1 ≤ i) (x : Int32) : PzO n b L v T0 S0 i d (cs ++ [x]) ts T (La_write x S) := by
  obtain ⟨⟨f1, f2, f3, f4, f5, f6⟩, hO, g1, g2, g3, g4, g5, g6, g7⟩ := h
  obtain ⟨⟨o1, o2, o3, o4, o5, o6⟩, o7, o8, o9, o10, o11⟩ := hO
  rw [la_w f1 f3 g4 (by omega), if_pos (by omega)]
  refine ⟨⟨f1, f2, (tb_n fun e => absurd e.1 (by decide)).trans ((tb_n fun e => absurd e.1 (by decide)).trans f3), f4, (f5.st (Or.inr (Or.inl ⟨rfl, by omega⟩))).st (Or.inr (Or.inr ⟨rfl, rfl⟩)), f6⟩, ⟨⟨o1, o2, ?_, fun i hi => ?_, o5, o6⟩, ?_, o8, ?_, o10, o11⟩, g1, ?_, g3, ?_, fun j y hj => ?_, g6, g7⟩
  · exact (tb_n fun e => absurd e.1 (by decide)).trans ((tb_n fun e => absurd e.1 (by decide)).trans o3)
  · exact (tb_n fun e => absurd e.1 (by decide)).trans ((tb_n fun e => absurd e.1 (by decide)).trans (o4 i hi))
  · exact (tb_n fun e => absurd e.1 (by decide)).trans ((tb_n fun e => absurd e.1 (by decide)).trans o7)
  · exact (tb_n fun e => absurd e.1 (by decide)).trans ((tb_n fun e => absurd e.1 (by decide)).trans o9)
  · rw [List.length_append]; exact h1
  · rw [List.length_append]; exact tb_h
  · by_cases z : j < cs.length
    · rw [List.getElem?_append_left z] at hj
      exact (tb_n fun e => absurd e.1 (by decide)).trans ((tb_n fun e => by omega).trans (g5 j y hj))
    · rw [List.getElem?_append_right (by omega)] at hj
      by_cases z2 : j = cs.length
      · rw [z2, Nat.sub_self] at hj
        have hj : x = y := Option.some.inj hj
        rw [z2, ← hj]
        exact (tb_n fun e => absurd e.1 (by decide)).trans tb_h
      · obtain ⟨q, hq⟩ : ∃ q, j - cs.length = q + 1 := ⟨j - cs.length - 1, by omega⟩
        rw [hq] at hj; cases hj
theorem PzO.mv {i d k : Nat} {cs : List Int32} {ts : List Tk} (h : PzO n b L v T0 S0 i d cs ts T S) (h1 : i ≤ k) (h2 : k ≤ n) : PzO n b L v T0 S0 k d cs ts (si T 53 3 (nI k)) (si S 8 2 (nI k)) := by
  obtain ⟨⟨f1, f2, f3, f4, f5, f6⟩, hO, g1, g2, g3, g4, g5, g6, g7⟩ := h
  exact ⟨⟨f1, f2, (tb_n fun e => absurd e.1 (by decide)).trans f3, (tb_n fun e => absurd e.2 (by decide)).trans f4, f5.st (Or.inl rfl), f6.st (Or.inl rfl)⟩, hO.move h2, (tb_n fun e => absurd e.2 (by decide)).trans g1, by omega, by omega, (tb_n fun e => absurd e.1 (by decide)).trans g4, fun j x hj => (tb_n fun e => absurd e.1 (by decide)).trans (g5 j x hj), (tb_n fun e => absurd e.1 (by decide)).trans g6, fun j x hj => ⟨(tb_n fun e => absurd e.1 (by decide)).trans (g7 j x hj).1, (tb_n fun e => absurd e.1 (by decide)).trans (g7 j x hj).2⟩⟩
theorem PzO.dep {i d d' : Nat} {cs : List Int32} {ts : List Tk} (h : PzO n b L v T0 S0 i d cs ts T S) : PzO n b L v T0 S0 i d' cs ts (si T 53 5 (nI d')) S := by
  obtain ⟨⟨f1, f2, f3, f4, f5, f6⟩, ⟨⟨o1, o2, o3, o4, o5, o6⟩, o7, o8, o9, o10, o11⟩, g1, g2, g3, g4, g5, g6, g7⟩ := h
  exact ⟨⟨f1, f2, f3, (tb_n fun e => absurd e.2 (by decide)).trans f4, f5, f6.st (Or.inl rfl)⟩, ⟨⟨o1, o2, o3, o4, (tb_n fun e => absurd e.2 (by decide)).trans o5, fun i hi => (tb_n fun e => absurd e.1 (by decide)).trans (o6 i hi)⟩, o7, (tb_n fun e => absurd e.2 (by decide)).trans o8, o9, (tb_n fun e => absurd e.2 (by decide)).trans o10, o11⟩, tb_h, g2, g3, g4, g5, (tb_n fun e => absurd e.1 (by decide)).trans g6, fun j x hj => ⟨(tb_n fun e => absurd e.1 (by decide)).trans (g7 j x hj).1, (tb_n fun e => absurd e.1 (by decide)).trans (g7 j x hj).2⟩⟩
/-- a fault at p: both have it -/
theorem PzO.flt {i d p a t0 i0 : Nat} {cs : List Int32} {ts : List Tk} (h : PzO n b L v T0 S0 i d cs ts T S) (hp : p ≤ n) (ha : ts.length + i0 ≤ a + t0) : ∀ A, a ≤ A → PzX n b L v T0 S0 i0 t0 A (si (si T 53 3 (nI a)) 53 4 (nI p)) (si S 8 3 (nI p)) := fun A hA => by
  obtain ⟨⟨f1, f2, f3, f4, f5, f6⟩, ⟨⟨o1, o2, o3, o4, o5, o6⟩, o7, o8, o9, o10, o11⟩, g1, g2, g3, g4, g5, g6, g7⟩ := h
  exact ⟨⟨f1, f2, (tb_n fun e => absurd e.1 (by decide)).trans f3, (tb_n fun e => absurd e.2 (by decide)).trans ((tb_n fun e => absurd e.2 (by decide)).trans f4), f5.st (Or.inl rfl), (f6.st (Or.inl rfl)).st (Or.inl rfl)⟩, ⟨o1, o2, (tb_n fun e => absurd e.2 (by decide)).trans o3, fun i hi => (tb_n fun e => absurd e.1 (by decide)).trans (o4 i hi), (tb_n fun e => absurd e.2 (by decide)).trans ((tb_n fun e => absurd e.2 (by decide)).trans o5), fun i hi => (tb_n fun e => absurd e.1 (by decide)).trans ((tb_n fun e => absurd e.1 (by decide)).trans (o6 i hi))⟩, p, a, ts.length, cs.length, hp, tb_h, tb_h, (tb_n fun e => absurd e.2 (by decide)).trans tb_h, (tb_n fun e => absurd e.1 (by decide)).trans ((tb_n fun e => absurd e.1 (by decide)).trans g6), ha, hA, (tb_n fun e => absurd e.1 (by decide)).trans g4, by omega⟩
/-- behind a fault: the class writes on, the reference puts -/
theorem PzX.wr {i t0 A : Nat} (h : PzX n b L v T0 S0 i t0 A T S) (x : Int32) : PzX n b L v T0 S0 i t0 A T (La_write x S) := by
  obtain ⟨⟨f1, f2, f3, f4, f5, f6⟩, ⟨o1, o2, o3, o4, o5, o6⟩, p, a, t, e, h3, h4, h5, h6, h7, h8, h9, h10, h11⟩ := h
  rw [la_w f1 f3 h10 h11]
  by_cases y : e < 240
  · rw [if_pos y]
    exact ⟨⟨f1, f2, (tb_n fun e => absurd e.1 (by decide)).trans ((tb_n fun e => absurd e.1 (by decide)).trans f3), f4, (f5.st (Or.inr (Or.inl ⟨rfl, by omega⟩))).st (Or.inr (Or.inr ⟨rfl, rfl⟩)), f6⟩, ⟨o1, o2, (tb_n fun e => absurd e.1 (by decide)).trans ((tb_n fun e => absurd e.1 (by decide)).trans o3), fun i hi => (tb_n fun e => absurd e.1 (by decide)).trans ((tb_n fun e => absurd e.1 (by decide)).trans (o4 i hi)), o5, o6⟩, p, a, t, e + 1, h3, (tb_n fun e => absurd e.1 (by decide)).trans ((tb_n fun e => absurd e.1 (by decide)).trans h4), h5, h6, h7, h8, h9, tb_h, by omega⟩
  · rw [if_neg y]
    exact ⟨⟨f1, f2, f3, f4, f5, f6⟩, ⟨o1, o2, o3, o4, o5, o6⟩, p, a, t, e, h3, h4, h5, h6, h7, h8, h9, h10, h11⟩
theorem PzX.put {i t0 A : Nat} (h : PzX n b L v T0 S0 (i + 1) t0 A T S) (ht : t0 ≤ i) (hA : A ≤ 300) (x y : Int32) : ∃ T', Md_put x y T = some T' ∧ PzX n b L v T0 S0 i t0 A T' S ∧ EqC T T' := by
  obtain ⟨⟨f1, f2, f3, f4, f5, f6⟩, ⟨o1, o2, o3, o4, o5, o6⟩, p, a, t, e, h3, h4, h5, h6, h7, h8, h9, h10, h11⟩ := h
  refine ⟨_, md_p f2 f4 h7 (by omega) x y, ⟨⟨f1, f2, f3, ?_, f5, ((f6.st (Or.inr (Or.inl ⟨Or.inl rfl, by omega⟩))).st (Or.inr (Or.inl ⟨Or.inr rfl, by omega⟩))).st (Or.inr (Or.inr (Or.inl rfl)))⟩, ⟨o1, o2, o3, o4, ?_, fun i hi => ?_⟩, p, a, t + 1, e, h3, h4, ?_, ?_, tb_h, by omega, h9, h10, h11⟩, ((EqC.rfl T).si (by omega)).si (by omega) |>.si (by omega)⟩
  · exact (tb_n fun e => absurd e.1 (by decide)).trans ((tb_n fun e => absurd e.1 (by decide)).trans ((tb_n fun e => absurd e.1 (by decide)).trans f4))
  · exact (tb_n fun e => absurd e.1 (by decide)).trans ((tb_n fun e => absurd e.1 (by decide)).trans ((tb_n fun e => absurd e.1 (by decide)).trans o5))
  · exact (tb_n fun e => absurd e.1 (by decide)).trans ((tb_n fun e => absurd e.1 (by decide)).trans ((tb_n fun e => absurd e.1 (by decide)).trans (o6 i hi)))
  · exact (tb_n fun e => absurd e.1 (by decide)).trans ((tb_n fun e => absurd e.1 (by decide)).trans ((tb_n fun e => absurd e.1 (by decide)).trans h5))
  · exact (tb_n fun e => absurd e.1 (by decide)).trans ((tb_n fun e => absurd e.1 (by decide)).trans ((tb_n fun e => absurd e.1 (by decide)).trans h6))
theorem PzX.p {i t0 A : Nat} (h : PzX n b L v T0 S0 i t0 A T S) : ∃ p, p ≤ n ∧ n ≤ 240 ∧ gi S 8 3 = nI p ∧ gi T 53 4 = nI p ∧ ¬ gi S 8 3 = -1 ∧ ¬ gi T 53 4 = -1 := by
  obtain ⟨-, ⟨o1, -⟩, p, a, t, e, h3, h4, h5, -⟩ := h
  exact ⟨p, h3, o1, h4, h5, by rw [h4]; exact fun z => (q_eqm (by omega)).mp z, by rw [h5]; exact fun z => (q_eqm (by omega)).mp z⟩
theorem PzX.sg {i t0 A : Nat} (h : PzX n b L v T0 S0 i t0 A T S) : Tp_sign S = some (mI, S) ∧ Tp_fail S = S ∧ Md_bad T = T := by
  obtain ⟨p, -, -, p1, p2, p3, p4⟩ := h.p
  refine ⟨?_, ?_, ?_⟩
  · unfold Tp_sign
    rw [if_neg p3]; rfl
  · unfold Tp_fail Tp_fail_16
    rw [if_neg p3]
  · unfold Md_bad Md_bad_20
    rw [if_neg p4]
    exact si_same rfl
theorem PzX.tk {i t0 A : Nat} (h : PzX n b L v T0 S0 i t0 A T S) (c : Int32) (hc : ¬ mI = c) : Tp_take c S = some (0, S) ∧ Tp_need c S = some S := by
  obtain ⟨s1, s2, -⟩ := h.sg
  constructor
  · unfold Tp_take Tp_take_13 Tp_take_28
    rw [s1, q_bind]
    dsimp only
    rw [if_neg hc, if_pos rfl, Int32.add_zero, si_same rfl]; rfl
  · unfold Tp_need Tp_need_25
    rw [s1, q_bind]
    dsimp only
    rw [if_neg hc, s2]; rfl
theorem PzX.nm {i t0 A : Nat} (h : PzX n b L v T0 S0 i t0 A T S) : Tp_number 4 S = some (0, S) := by
  obtain ⟨s1, s2, -⟩ := h.sg
  obtain ⟨p, -, -, p1, -, p3, -⟩ := h.p
  have lp : lpN (Tp_number_L23 4) FU (0, 0, S) = some (0, S) := by
    refine lpN_run0 (fun _ => (0, 0, S)) 0 (by omega) (fun t ht => absurd ht (by omega)) ?_ rfl
    unfold Tp_number_L23 Tp_isFaulty Tp_isFaulty_13
    dsimp only
    rw [if_neg (show ¬ (4 : Int32) ≤ 0 by decide), if_neg p3, if_neg (show ¬ (1 : Int32) &&& 1 = 0 by decide)]
  unfold Tp_number Tp_number_17 Tp_number_21 Tp_number_89
  rw [s1, q_bind]
  dsimp only
  rw [if_pos (show mI = -1 from rfl), s2, q_app, lp, q_bind]
  dsimp only
  split
  · rfl
  · rw [s2]; rfl
end LW
