/-! ===== worth: the class's walk over codes, the reference's over tokens ===== -/
theorem q_nn {a b : Nat} (ha : a < 1000) (hb : b < 1000) : -nI a = -nI b ↔ a = b := by
  constructor
  · intro h
    have := congrArg Int32.toInt h
    rw [sb_negT (by omega), sb_negT (by omega)] at this
    omega
  · rintro rfl; rfl
theorem q_pn {a b : Nat} (ha : a < 2147483648) (hb : 0 < b ∧ b < 1000) : nI a = -nI b ↔ False := by
  refine iff_false_intro fun h => ?_
  have := congrArg Int32.toInt h
  rw [sb_negT (by omega), nI_toInt ha] at this
  omega
theorem q_n0 {a : Nat} (h : 0 < a ∧ a < 1000) : -nI a < nI 0 ↔ True := by
  refine iff_true_intro ?_
  rw [Int32.lt_iff_toInt_lt, sb_negT (by omega), nI_toInt (by omega)]
  omega
def LwS (S S1 : Sm) : Prop := (∀ i j, i ≠ 23 → ¬ (i = 20 ∧ j = 3) → S1.1 i j = S.1 i j)
def LwT (T T1 : Sm) : Prop := (∀ i j, i ≠ 62 → i ≠ 63 → T1.1 i j = T.1 i j)
theorem LwS.rfl (S : Sm) : LwS S S := fun _ _ _ _ => by rfl
theorem LwT.rfl (T : Sm) : LwT T T := fun _ _ _ _ => by rfl
theorem LwS.trans {S S1 S2 : Sm} (h : LwS S S1) (g : LwS S1 S2) : LwS S S2 := fun i j a b => (g i j a b).trans (h i j a b)
theorem LwT.trans {S S1 S2 : Sm} (h : LwT S S1) (g : LwT S1 S2) : LwT S S2 := fun i j a b => (g i j a b).trans (h i j a b)
theorem LwS.sam {S S1 : Sm} (h : LwS S S1) : SamS S S1 := fun i j q => h i j (fun e => by subst e; cases q) (fun e => by obtain ⟨e1, e2⟩ := e; subst e1; subst e2; cases q)
theorem LwT.sam {S S1 : Sm} (h : LwT S S1) : SamT S S1 := fun i j q => h i j (fun e => by subst e; cases q) (fun e => by subst e; cases q)
theorem LwS.row {S S1 : Sm} (h : LwS S S1) (i : Nat) (h1 : i ≠ 23) (h2 : i ≠ 20) : S1.1 i = S.1 i := funext fun j => h i j h1 fun e => h2 e.1
theorem LwT.row {S S1 : Sm} (h : LwT S S1) (i : Nat) (h1 : i ≠ 62) (h2 : i ≠ 63) : S1.1 i = S.1 i := funext fun j => h i j h1 h2
theorem LwS.st {S S1 : Sm} (h : LwS S S1) {j : Nat} {v : Int32} : LwS S (si S1 23 j v) := fun a b h1 h2 => (if_neg fun e => h1 e.1).trans (h a b h1 h2)
theorem LwS.hg {S S1 : Sm} (h : LwS S S1) {v : Int32} : LwS S (si S1 20 3 v) := fun a b h1 h2 => (if_neg fun e => h2 e).trans (h a b h1 h2)
theorem LwT.st {S S1 : Sm} (h : LwT S S1) {j : Nat} {v : Int32} : LwT S (si S1 63 j v) := fun a b h1 h2 => (if_neg fun e => h2 e.1).trans (h a b h1 h2)
theorem LwT.le {S S1 : Sm} (h : LwT S S1) {j : Nat} {v : Int32} : LwT S (si S1 62 j v) := fun a b h1 h2 => (if_neg fun e => h1 e.1).trans (h a b h1 h2)
theorem la_push {S1 : Sm} {n : Nat} {v : Int32} (h : gi S1 20 3 = nI n) (hn : n < 64) : La_push v S1 = si (si S1 23 n v) 20 3 (nI (n + 1)) := by
  unfold La_push
  have e : gi (si S1 23 n v) 20 3 = nI n := h
  simp (disch := omega) only [q_lit, q_m1, q_m2, q_hid, q_add, q_mul, q_sub, q_le, q_lt, q_eq, q_mlt, q_mle, q_ltm, q_lem, q_meq, q_eqm, q_m2lt, q_m2le, q_ltm2, q_lem2, q_eqm2, q_mm2, q_m2m, q_mm, q_mnm, q_ix, q_inb, q_a0, q_a1, q_app, q_bind, if_true, if_false, if_pos, if_neg, h, q_pu, e]
theorem la_pop {S1 : Sm} {n : Nat} (h : gi S1 20 3 = nI (n + 1)) (hn : n < 63) : La_pop S1 = (gi S1 23 n, si S1 20 3 (nI n)) := by
  unfold La_pop La_pop_17
  have e : gi (si S1 20 3 (nI n)) 20 3 = nI n := rfl
  have e2 : gi (si S1 20 3 (nI n)) 23 = gi S1 23 := rfl
  simp (disch := omega) only [q_lit, q_m1, q_m2, q_hid, q_add, q_mul, q_sub, q_le, q_lt, q_eq, q_mlt, q_mle, q_ltm, q_lem, q_meq, q_eqm, q_m2lt, q_m2le, q_ltm2, q_lem2, q_eqm2, q_mm2, q_m2m, q_mm, q_mnm, q_ix, q_inb, q_a0, q_a1, q_app, q_bind, if_true, if_false, if_pos, if_neg, h, Nat.add_sub_cancel, e, e2, q_at]
section LW
variable {S : Sm} {v1 v2 v3 v4 v5 : Int32} {e : Nat}
def ltr (v1 v2 v3 v4 v5 : Int32) (i : Nat) : Int32 := match i with | 0 => v1 | 1 => v2 | 2 => v3 | 3 => v4 | _ => v5
def LaS (S S1 : Sm) (st : List Int32) : Prop := LwS S S1 ∧ gi S1 20 3 = nI st.length ∧ Stk (S1.1 23) st
theorem LaS.push {S1 : Sm} {st : List Int32} {v : Int32} (h : LaS S S1 st) (hn : st.length < 60) : LaS S (La_push v S1) (v :: st) := by
  rw [la_push h.2.1 (by omega)]
  refine ⟨h.1.st.hg, rfl, ?_⟩
  have : (si (si S1 23 st.length v) 20 3 (nI (st.length + 1))).1 23 = fun i => if i = st.length then v else S1.1 23 i := funext fun i => by
    show (if 23 = 20 ∧ i = 3 then nI (st.length + 1) else if 23 = 23 ∧ i = st.length then v else S1.1 23 i) = _
    rw [if_neg (by omega)]
    by_cases x : i = st.length
    · rw [if_pos ⟨rfl, x⟩, if_pos x]
    · rw [if_neg fun q => x q.2, if_neg x]
  rw [this]
  exact h.2.2.push
theorem LaS.pop {S1 : Sm} {st : List Int32} {x : Int32} (h : LaS S S1 (x :: st)) (hn : st.length < 63) : ∃ S2, La_pop S1 = (x, S2) ∧ LaS S S2 st := by
  have hg : gi S1 20 3 = nI (st.length + 1) := h.2.1
  have e : gi S1 23 st.length = x := h.2.2.1
  exact ⟨si S1 20 3 (nI st.length), by rw [la_pop hg hn, e], h.1.hg, rfl, h.2.2.2⟩
theorem sgn_ok {k : Nat} (w : Nat) (h2 : 2 ≤ k) (h11 : k ≤ 11) (h9 : k ≠ 9) : ∃ n, sgn k = nI n ∧ tkC (k, w) = -nI n ∧ 0 < n ∧ n < 200 ∧ n ≠ 108 ∧ n ≠ 103 ∧ n ≠ 99 ∧ n ≠ 98 ∧ n ≠ 97 ∧ n ≠ 63 ∧ n ≠ 59 ∧ n ≠ 33 := by
  match k, h2, h11, h9 with
  | 0, h, _, _ => omega
  | 1, h, _, _ => omega
  | 2, _, _, _ => exact ⟨43, rfl, rfl, by omega, by omega, by omega, by omega, by omega, by omega, by omega, by omega, by omega, by omega⟩
  | 3, _, _, _ => exact ⟨45, rfl, rfl, by omega, by omega, by omega, by omega, by omega, by omega, by omega, by omega, by omega, by omega⟩
  | 4, _, _, _ => exact ⟨42, rfl, rfl, by omega, by omega, by omega, by omega, by omega, by omega, by omega, by omega, by omega, by omega⟩
  | 5, _, _, _ => exact ⟨47, rfl, rfl, by omega, by omega, by omega, by omega, by omega, by omega, by omega, by omega, by omega, by omega⟩
  | 6, _, _, _ => exact ⟨61, rfl, rfl, by omega, by omega, by omega, by omega, by omega, by omega, by omega, by omega, by omega, by omega⟩
  | 7, _, _, _ => exact ⟨60, rfl, rfl, by omega, by omega, by omega, by omega, by omega, by omega, by omega, by omega, by omega, by omega⟩
  | 8, _, _, _ => exact ⟨62, rfl, rfl, by omega, by omega, by omega, by omega, by omega, by omega, by omega, by omega, by omega, by omega⟩
  | 9, _, _, h => exact absurd rfl h
  | 10, _, _, _ => exact ⟨38, rfl, rfl, by omega, by omega, by omega, by omega, by omega, by omega, by omega, by omega, by omega, by omega⟩
  | 11, _, _, _ => exact ⟨124, rfl, rfl, by omega, by omega, by omega, by omega, by omega, by omega, by omega, by omega, by omega, by omega⟩
  | k + 12, _, h, _ => omega
theorem la_tok {k w p : Nat} {τ τ' : List Bool} {st : List Int32} {S1 : Sm} (h : rt1 (k, w) τ = some τ') (hs : Typ τ st) (h60 : st.length ≤ 60) (hL : LaS S S1 st) (hp : p < e) (he : e ≤ 1200) (hc : gi S 21 p = tkC (k, w)) : ∃ S2 st', ev1 (ltr v1 v2 v3 v4 v5) (k, w) st = some st' ∧ Typ τ' st' ∧ st'.length ≤ 60 ∧ LaS S S2 st' ∧ La_worth_L38 v1 v2 v3 v4 v5 (nI e) (nI 0, nI p, S1) = some (.inl (nI 0, nI (p + 1), S2)) := by
  have hc1 : gi S1 21 p = tkC (k, w) := (hL.1 21 p (by omega) (by omega)).trans hc
  rcases ev1_ok (ltr v1 v2 v3 v4 v5) h hs with ⟨v, e1, e2, e3, e4⟩ | ⟨x, st0, rfl, e1, e2, rfl⟩ | ⟨b, a, st0, v, rfl, e1, e2, ⟨e3, e4, e5⟩, e6, e7⟩
  · refine ⟨La_push v S1, v :: st, e1, e2, e3, hL.push e3, ?_⟩
    rcases e4 with ⟨rfl, hw, rfl⟩ | ⟨rfl, hw, rfl⟩
    · have hc2 : gi S1 21 p = nI w := hc1
      unfold La_worth_L38 La_worth_258_L38 La_worth_261_L38
      simp (disch := omega) only [q_lit, q_m1, q_m2, q_hid, q_add, q_mul, q_sub, q_le, q_lt, q_eq, q_mlt, q_mle, q_ltm, q_lem, q_meq, q_eqm, q_m2lt, q_m2le, q_ltm2, q_lem2, q_eqm2, q_mm2, q_m2m, q_mm, q_mnm, q_ix, q_inb, q_a0, q_a1, q_app, q_bind, if_true, if_false, if_pos, if_neg, q_at, hc2, q_pn]
    · match w, hw with
      | 0, _ =>
        have hc2 : gi S1 21 p = -nI 99 := hc1
        unfold La_worth_L38 La_worth_261_L38
        simp (disch := omega) only [q_lit, q_m1, q_m2, q_hid, q_add, q_mul, q_sub, q_le, q_lt, q_eq, q_mlt, q_mle, q_ltm, q_lem, q_meq, q_eqm, q_m2lt, q_m2le, q_ltm2, q_lem2, q_eqm2, q_mm2, q_m2m, q_mm, q_mnm, q_ix, q_inb, q_a0, q_a1, q_app, q_bind, if_true, if_false, if_pos, if_neg, q_at, hc2, q_nn, ltr]
      | 1, _ =>
        have hc2 : gi S1 21 p = -nI 108 := hc1
        unfold La_worth_L38 La_worth_261_L38
        simp (disch := omega) only [q_lit, q_m1, q_m2, q_hid, q_add, q_mul, q_sub, q_le, q_lt, q_eq, q_mlt, q_mle, q_ltm, q_lem, q_meq, q_eqm, q_m2lt, q_m2le, q_ltm2, q_lem2, q_eqm2, q_mm2, q_m2m, q_mm, q_mnm, q_ix, q_inb, q_a0, q_a1, q_app, q_bind, if_true, if_false, if_pos, if_neg, q_at, hc2, q_nn, ltr]
      | 2, _ =>
        have hc2 : gi S1 21 p = -nI 97 := hc1
        unfold La_worth_L38 La_worth_261_L38
        simp (disch := omega) only [q_lit, q_m1, q_m2, q_hid, q_add, q_mul, q_sub, q_le, q_lt, q_eq, q_mlt, q_mle, q_ltm, q_lem, q_meq, q_eqm, q_m2lt, q_m2le, q_ltm2, q_lem2, q_eqm2, q_mm2, q_m2m, q_mm, q_mnm, q_ix, q_inb, q_a0, q_a1, q_app, q_bind, if_true, if_false, if_pos, if_neg, q_at, hc2, q_nn, ltr]
      | 3, _ =>
        have hc2 : gi S1 21 p = -nI 98 := hc1
        unfold La_worth_L38 La_worth_261_L38
        simp (disch := omega) only [q_lit, q_m1, q_m2, q_hid, q_add, q_mul, q_sub, q_le, q_lt, q_eq, q_mlt, q_mle, q_ltm, q_lem, q_meq, q_eqm, q_m2lt, q_m2le, q_ltm2, q_lem2, q_eqm2, q_mm2, q_m2m, q_mm, q_mnm, q_ix, q_inb, q_a0, q_a1, q_app, q_bind, if_true, if_false, if_pos, if_neg, q_at, hc2, q_nn, ltr]
      | 4, _ =>
        have hc2 : gi S1 21 p = -nI 103 := hc1
        unfold La_worth_L38 La_worth_261_L38
        simp (disch := omega) only [q_lit, q_m1, q_m2, q_hid, q_add, q_mul, q_sub, q_le, q_lt, q_eq, q_mlt, q_mle, q_ltm, q_lem, q_meq, q_eqm, q_m2lt, q_m2le, q_ltm2, q_lem2, q_eqm2, q_mm2, q_m2m, q_mm, q_mnm, q_ix, q_inb, q_a0, q_a1, q_app, q_bind, if_true, if_false, if_pos, if_neg, q_at, hc2, q_nn, ltr]
      | w + 5, hw => omega
  · obtain ⟨S2, p1, p2⟩ := hL.pop (by have : st0.length + 1 ≤ 60 := h60; omega)
    refine ⟨La_push (1 - x) S2, (1 - x) :: st0, e1, e2, h60, p2.push (by have : st0.length + 1 ≤ 60 := h60; omega), ?_⟩
    have hc2 : gi S1 21 p = -nI 33 := hc1
    have one : (1 : Int32) = nI 1 := rfl
    unfold La_worth_L38 La_worth_261_L38
    rw [one]
    simp (disch := omega) only [q_lit, q_m1, q_m2, q_hid, q_add, q_mul, q_sub, q_le, q_lt, q_eq, q_mlt, q_mle, q_ltm, q_lem, q_meq, q_eqm, q_m2lt, q_m2le, q_ltm2, q_lem2, q_eqm2, q_mm2, q_m2m, q_mm, q_mnm, q_ix, q_inb, q_a0, q_a1, q_app, q_bind, if_true, if_false, if_pos, if_neg, q_at, hc2, q_nn, p1]
  · obtain ⟨n, s1, s2, n0, n1, n2, n3, n4, n5, n6, n7, n8, n9⟩ := sgn_ok w e3 e4 e5
    obtain ⟨S2, p1, p2⟩ := hL.pop (by have : st0.length + 1 + 1 ≤ 60 := h60; show st0.length + 1 < 63; omega)
    obtain ⟨S3, p3, p4⟩ := p2.pop (by have : st0.length + 1 + 1 ≤ 60 := h60; omega)
    refine ⟨La_push v S3, v :: st0, e1, e2, by have : st0.length + 1 + 1 ≤ 60 := h60; show st0.length + 1 ≤ 60; omega, p4.push (by have : st0.length + 1 + 1 ≤ 60 := h60; omega), ?_⟩
    have hc2 : gi S1 21 p = -nI n := hc1.trans s2
    have nn : -(-nI n) = nI n := Int32.neg_neg
    rw [s1] at e6
    unfold La_worth_L38 La_worth_258_L38 La_worth_261_L38
    simp (disch := omega) only [q_lit, q_m1, q_m2, q_hid, q_add, q_mul, q_sub, q_le, q_lt, q_eq, q_mlt, q_mle, q_ltm, q_lem, q_meq, q_eqm, q_m2lt, q_m2le, q_ltm2, q_lem2, q_eqm2, q_mm2, q_m2m, q_mm, q_mnm, q_ix, q_inb, q_a0, q_a1, q_app, q_bind, if_true, if_false, if_pos, if_neg, q_at, hc2, q_nn, q_n0, p1, p3, nn, e6]
theorem la_seg : ∀ (l : List Tk) {p : Nat} {τ τ' : List Bool} {st : List Int32} {S1 : Sm}, rt l τ = some τ' → Typ τ st → st.length ≤ 60 → LaS S S1 st → p + l.length ≤ e → e ≤ 1200 → (∀ j x, (l.map tkC)[j]? = some x → gi S 21 (p + j) = x) → ∃ S2 st', evL (ltr v1 v2 v3 v4 v5) l st = some st' ∧ Typ τ' st' ∧ st'.length ≤ 60 ∧ LaS S S2 st' ∧ Go (La_worth_L38 v1 v2 v3 v4 v5 (nI e)) l.length (nI 0, nI p, S1) (nI 0, nI (p + l.length), S2)
  | [], p, τ, τ', st, S1, h, hs, h60, hL, _, _, _ => by
    cases h
    exact ⟨S1, st, rfl, hs, h60, hL, Go.zero _⟩
  | t :: l, p, τ, τ', st, S1, h, hs, h60, hL, hp, he, hc => by
    have hp' : p + (l.length + 1) ≤ e := hp
    cases hr : rt1 t τ with
    | none =>
      have h : (rt1 t τ).bind (rt l) = some τ' := h
      rw [hr] at h; cases h
    | some τ1 =>
      have h' : (rt1 t τ).bind (rt l) = some τ' := h
      rw [hr] at h'
      have h'' : rt l τ1 = some τ' := h'
      obtain ⟨k, w⟩ := t
      obtain ⟨S2, st1, a1, a2, a3, a4, a5⟩ := la_tok (v1 := v1) (v2 := v2) (v3 := v3) (v4 := v4) (v5 := v5) (e := e) hr hs h60 hL (p := p) (by omega) he (hc 0 _ rfl)
      obtain ⟨S3, st2, b1, b2, b3, b4, b5⟩ := la_seg l h'' a2 a3 a4 (p := p + 1) (by omega) he (fun j x hx => by
        have := hc (j + 1) x hx
        rwa [show p + (j + 1) = p + 1 + j by omega] at this)
      refine ⟨S3, st2, ?_, b2, b3, b4, ?_⟩
      · show (ev1 _ (k, w) st).bind _ = _
        rw [a1]; exact b1
      · have := (Go.one a5).trans b5
        rw [show 1 + l.length = l.length + 1 by omega, show p + 1 + l.length = p + (l.length + 1) by omega] at this
        exact this
theorem tk_ne59 : ∀ (l : List Tk) {τ τ' : List Bool}, rt l τ = some τ' → ∀ t, t ∈ l → ¬ tkC t = -nI 59
  | [], _, _, _, t, h => by cases h
  | t :: l, τ, τ', h, t', ht => by
    cases hr : rt1 t τ with
    | none =>
      have h : (rt1 t τ).bind (rt l) = some τ' := h
      rw [hr] at h; cases h
    | some τ1 =>
      have h : (rt1 t τ).bind (rt l) = some τ' := h
      rw [hr] at h
      have h : rt l τ1 = some τ' := h
      rcases List.mem_cons.mp ht with rfl | ht
      · obtain ⟨k, w⟩ := t'
        by_cases k0 : k = 0
        · subst k0
          have hr : (if w ≤ 9999 ∧ τ.length < 60 then some (false :: τ) else none) = some τ1 := hr
          by_cases c : w ≤ 9999 ∧ τ.length < 60
          · show ¬ nI w = -nI 59
            rw [q_pn (by omega) (by omega)]; exact id
          · rw [if_neg c] at hr; cases hr
        · by_cases k1 : k = 1
          · subst k1
            match w with
            | 0 => decide
            | 1 => decide
            | 2 => decide
            | 3 => decide
            | w + 4 =>
              show ¬ (-103 : Int32) = -nI 59
              decide
          · by_cases k9 : k = 9
            · subst k9
              show ¬ (-33 : Int32) = -nI 59
              decide
            · obtain ⟨x, y, τ0, z, -, -, h11, -⟩ := rt_bin hr (by omega) k9
              obtain ⟨n, s1, s2, n0, n1, n2, n3, n4, n5, n6, n7, n8, n9⟩ := sgn_ok w (by omega) h11 k9
              rw [s2, q_nn (by omega) (by omega)]; exact n8
      · exact tk_ne59 l h t' ht
theorem la_skip : ∀ (l : List Int32) {p : Nat} {S1 : Sm}, LwS S S1 → (∀ x, x ∈ l → ¬ x = -nI 59) → p + l.length ≤ e → e ≤ 1200 → (∀ j x, l[j]? = some x → gi S 21 (p + j) = x) → Go (La_worth_L38 v1 v2 v3 v4 v5 (nI e)) l.length (nI 1, nI p, S1) (nI 1, nI (p + l.length), S1)
  | [], p, S1, _, _, _, _, _ => Go.zero _
  | x :: l, p, S1, hL, hx, hp, he, hc => by
    have hp' : p + (l.length + 1) ≤ e := hp
    have c1 : gi S1 21 p = x := (hL 21 p (by omega) (by omega)).trans (hc 0 x rfl)
    have c2 := hx x List.mem_cons_self
    have e1 : La_worth_L38 v1 v2 v3 v4 v5 (nI e) (nI 1, nI p, S1) = some (.inl (nI 1, nI (p + 1), S1)) := by
      unfold La_worth_L38 La_worth_73_L38 La_worth_261_L38
      simp (disch := omega) only [q_lit, q_m1, q_m2, q_hid, q_add, q_mul, q_sub, q_le, q_lt, q_eq, q_mlt, q_mle, q_ltm, q_lem, q_meq, q_eqm, q_m2lt, q_m2le, q_ltm2, q_lem2, q_eqm2, q_mm2, q_m2m, q_mm, q_mnm, q_ix, q_inb, q_a0, q_a1, q_app, q_bind, if_true, if_false, if_pos, if_neg, q_at, c1, c2]
    have := (Go.one e1).trans (la_skip l (p := p + 1) hL (fun y hy => hx y (List.mem_cons_of_mem _ hy)) (by omega) he (fun j y hy => by
        have := hc (j + 1) y hy
        rwa [show p + (j + 1) = p + 1 + j by omega] at this))
    rw [show 1 + l.length = l.length + 1 by omega, show p + 1 + l.length = p + (l.length + 1) by omega] at this
    exact this
def val (le : Nat → Int32) (l : List Tk) : Int32 := match evL le l [] with | some (v :: _) => v | _ => 0
def wo (le : Nat → Int32) : List Cl → Int32
  | [] => 0
  | q :: l => if q.1 = [] then val le q.2 else if val le q.1 = 0 then wo le l else val le q.2
theorem typ1 {τ : Bool} {st : List Int32} (h : Typ [τ] st) : ∃ v, st = [v] ∧ (τ = true → tru v) := by
  match st, h with
  | [v], h => exact ⟨v, rfl, h.1⟩
/-- from a clause on -/
theorem la_cls : ∀ (l : List Cl) {p : Nat} {S1 : Sm}, (∀ q, q ∈ l → clOK q) → LaS S S1 [] → p + (l.flatMap clC).length = e → e ≤ 1200 → (∀ j x, (l.flatMap clC)[j]? = some x → gi S 21 (p + j) = x) → ∃ n t r, Go (La_worth_L38 v1 v2 v3 v4 v5 (nI e)) n (nI 0, nI p, S1) t ∧ La_worth_L38 v1 v2 v3 v4 v5 (nI e) t = some (.inr r) ∧ n ≤ (l.flatMap clC).length ∧ ((∃ S2, r = .inr S2 ∧ LwS S S2 ∧ wo (ltr v1 v2 v3 v4 v5) l = 0) ∨ ∃ S2 v, r = .inl S2 ∧ LaS S S2 [v] ∧ wo (ltr v1 v2 v3 v4 v5) l = v)
  | [], p, S1, _, hL, hp, he, _ => by
    have hp : p = e := hp
    subst hp
    refine ⟨0, _, .inr S1, Go.zero _, ?_, Nat.le_refl _, Or.inl ⟨S1, rfl, hL.1, rfl⟩⟩
    unfold La_worth_L38
    simp (disch := omega) only [q_lit, q_m1, q_m2, q_hid, q_add, q_mul, q_sub, q_le, q_lt, q_eq, q_mlt, q_mle, q_ltm, q_lem, q_meq, q_eqm, q_m2lt, q_m2le, q_ltm2, q_lem2, q_eqm2, q_mm2, q_m2m, q_mm, q_mnm, q_ix, q_inb, q_a0, q_a1, q_app, q_bind, if_true, if_false, if_pos, if_neg, Nat.le_refl]
  | q :: l, p, S1, hok, hL, hp, he, hc => by
    have e0 : ((q :: l).flatMap clC) = clC q ++ l.flatMap clC := List.flatMap_cons
    rw [e0, List.length_append] at hp
    rw [e0, List.length_append]
    have hc' : ∀ j x, (clC q ++ l.flatMap clC)[j]? = some x → gi S 21 (p + j) = x := by rw [e0] at hc; exact hc
    have hcq : ∀ j x, (clC q)[j]? = some x → gi S 21 (p + j) = x := fun j x hx => hc' j x (by
      rw [List.getElem?_append_left (List.getElem?_eq_some_iff.mp hx).1]; exact hx)
    obtain ⟨hq1, hq2⟩ := hok q List.mem_cons_self
    have sum : ∀ (o : Nat) (S2 : Sm), LaS S S2 [] → p + o + q.2.length + 1 = p + (clC q).length → (∀ j x, (q.2.map tkC ++ [-59])[j]? = some x → gi S 21 (p + o + j) = x) → ∃ S3 v, Go (La_worth_L38 v1 v2 v3 v4 v5 (nI e)) q.2.length (nI 0, nI (p + o), S2) (nI 0, nI (p + o + q.2.length), S3) ∧ La_worth_L38 v1 v2 v3 v4 v5 (nI e) (nI 0, nI (p + o + q.2.length), S3) = some (.inr (.inl S3)) ∧ LaS S S3 [v] ∧ val (ltr v1 v2 v3 v4 v5) q.2 = v := by
      intro o S2 hL2 ho hcs
      obtain ⟨S3, st', b1, b2, b3, b4, b5⟩ := la_seg (v1 := v1) (v2 := v2) (v3 := v3) (v4 := v4) (v5 := v5) (e := e) q.2 hq2 (show Typ [] [] from trivial) (Nat.zero_le _) hL2 (p := p + o) (by omega) he (fun j x hx => hcs j x (by
        rw [List.getElem?_append_left (List.getElem?_eq_some_iff.mp hx).1]; exact hx))
      obtain ⟨v, rfl, -⟩ := typ1 b2
      refine ⟨S3, v, b5, ?_, b4, by unfold val; rw [b1]⟩
      have c9 : gi S 21 (p + o + q.2.length) = -59 := hcs q.2.length _ (by
        rw [List.getElem?_append_right (by rw [List.length_map]; exact Nat.le_refl _), List.length_map, Nat.sub_self]; rfl)
      have c91 : gi S3 21 (p + o + q.2.length) = -nI 59 := (b4.1 21 _ (by omega) (by omega)).trans c9
      unfold La_worth_L38
      simp (disch := omega) only [q_lit, q_m1, q_m2, q_hid, q_add, q_mul, q_sub, q_le, q_lt, q_eq, q_mlt, q_mle, q_ltm, q_lem, q_meq, q_eqm, q_m2lt, q_m2le, q_ltm2, q_lem2, q_eqm2, q_mm2, q_m2m, q_mm, q_mnm, q_ix, q_inb, q_a0, q_a1, q_app, q_bind, if_true, if_false, if_pos, if_neg, q_at, c91, q_nn]
    by_cases h1 : q.1 = []
    · have ec : clC q = q.2.map tkC ++ [-59] := by unfold clC; rw [if_pos h1]; rfl
      have el : (clC q).length = q.2.length + 1 := by rw [ec, List.length_append, List.length_map]; rfl
      obtain ⟨S3, v, b1, b2, b3, b4⟩ := sum 0 S1 hL (by omega) (fun j x hx => by
        have := hcq j x (by rw [ec]; exact hx)
        rwa [Nat.add_zero])
      refine ⟨_, _, _, b1, b2, by omega, Or.inr ⟨S3, v, rfl, b3, ?_⟩⟩
      show (if q.1 = [] then _ else _) = v
      rw [if_pos h1]; exact b4
    · have ht := hq1.resolve_left h1
      have ec : clC q = q.1.map tkC ++ ([-63] ++ (q.2.map tkC ++ [-59])) := by unfold clC; rw [if_neg h1, List.append_assoc]
      have el : (clC q).length = q.1.length + q.2.length + 2 := by
        rw [ec, List.length_append, List.length_append, List.length_append, List.length_map, List.length_map]
        show q.1.length + (1 + (q.2.length + 1)) = _
        omega
      obtain ⟨S2, st', b1, b2, b3, b4, b5⟩ := la_seg (v1 := v1) (v2 := v2) (v3 := v3) (v4 := v4) (v5 := v5) (e := e) q.1 ht (show Typ [] [] from trivial) (Nat.zero_le _) hL (p := p) (by omega) he (fun j x hx => hcq j x (by
        rw [ec, List.getElem?_append_left (List.getElem?_eq_some_iff.mp hx).1]; exact hx))
      obtain ⟨u, rfl, -⟩ := typ1 b2
      have hv : val (ltr v1 v2 v3 v4 v5) q.1 = u := by unfold val; rw [b1]
      have c6 : gi S 21 (p + q.1.length) = -63 := hcq q.1.length _ (by
        rw [ec, List.getElem?_append_right (by rw [List.length_map]; exact Nat.le_refl _), List.length_map, Nat.sub_self]; rfl)
      have c61 : gi S2 21 (p + q.1.length) = -nI 63 := (b4.1 21 _ (by omega) (by omega)).trans c6
      obtain ⟨S3, p1, p2⟩ := b4.pop (by show 0 < 63; omega)
      have rest : ∀ j x, (q.2.map tkC ++ [-59])[j]? = some x → gi S 21 (p + (q.1.length + 1) + j) = x := fun j x hx => by
        have := hcq (q.1.length + (1 + j)) x (by
          rw [ec, List.getElem?_append_right (by rw [List.length_map]; omega), List.length_map, show q.1.length + (1 + j) - q.1.length = 1 + j by omega, List.getElem?_append_right (by show 1 ≤ 1 + j; omega), show 1 + j - [(-63 : Int32)].length = j by show 1 + j - 1 = j; omega]
          exact hx)
        rwa [show p + (q.1.length + (1 + j)) = p + (q.1.length + 1) + j by omega] at this
      by_cases z : u = nI 0
      · have e1 : La_worth_L38 v1 v2 v3 v4 v5 (nI e) (nI 0, nI (p + q.1.length), S2) = some (.inl (nI 1, nI (p + q.1.length + 1), S3)) := by
          unfold La_worth_L38 La_worth_223_L38 La_worth_261_L38
          simp (disch := omega) only [q_lit, q_m1, q_m2, q_hid, q_add, q_mul, q_sub, q_le, q_lt, q_eq, q_mlt, q_mle, q_ltm, q_lem, q_meq, q_eqm, q_m2lt, q_m2le, q_ltm2, q_lem2, q_eqm2, q_mm2, q_m2m, q_mm, q_mnm, q_ix, q_inb, q_a0, q_a1, q_app, q_bind, if_true, if_false, if_pos, if_neg, q_at, c61, q_nn, p1, z]
        have sk := la_skip (v1 := v1) (v2 := v2) (v3 := v3) (v4 := v4) (v5 := v5) (e := e) (q.2.map tkC) (p := p + q.1.length + 1) p2.1 (fun x hx => by
          obtain ⟨t, ht, rfl⟩ := List.mem_map.mp hx
          exact tk_ne59 q.2 hq2 t ht) (by rw [List.length_map]; omega) he (fun j x hx => by
          have := rest j x (by rw [List.getElem?_append_left (List.getElem?_eq_some_iff.mp hx).1]; exact hx)
          rwa [show p + (q.1.length + 1) + j = p + q.1.length + 1 + j by omega] at this)
        rw [List.length_map] at sk
        have c9 : gi S 21 (p + q.1.length + 1 + q.2.length) = -59 := by
          have := rest q.2.length _ (by
            rw [List.getElem?_append_right (by rw [List.length_map]; exact Nat.le_refl _), List.length_map, Nat.sub_self]; rfl)
          rwa [show p + (q.1.length + 1) + q.2.length = p + q.1.length + 1 + q.2.length by omega] at this
        have c91 : gi S3 21 (p + q.1.length + 1 + q.2.length) = -nI 59 := (p2.1 21 _ (by omega) (by omega)).trans c9
        have e2 : La_worth_L38 v1 v2 v3 v4 v5 (nI e) (nI 1, nI (p + q.1.length + 1 + q.2.length), S3) = some (.inl (nI 0, nI (p + q.1.length + 1 + q.2.length + 1), S3)) := by
          unfold La_worth_L38 La_worth_73_L38 La_worth_261_L38
          simp (disch := omega) only [q_lit, q_m1, q_m2, q_hid, q_add, q_mul, q_sub, q_le, q_lt, q_eq, q_mlt, q_mle, q_ltm, q_lem, q_meq, q_eqm, q_m2lt, q_m2le, q_ltm2, q_lem2, q_eqm2, q_mm2, q_m2m, q_mm, q_mnm, q_ix, q_inb, q_a0, q_a1, q_app, q_bind, if_true, if_false, if_pos, if_neg, q_at, c91, q_nn]
        obtain ⟨n, t, r, d1, d2, d3, d4⟩ := la_cls l (p := p + (clC q).length) (S1 := S3) (fun q' h' => hok q' (List.mem_cons_of_mem _ h')) p2 (by omega) he (fun j x hx => by
          have := hc' ((clC q).length + j) x (by rw [List.getElem?_append_right (by omega), show (clC q).length + j - (clC q).length = j by omega]; exact hx)
          rwa [show p + ((clC q).length + j) = p + (clC q).length + j by omega] at this)
        have g := (((b5.trans (Go.one e1)).trans sk).trans (Go.one e2))
        rw [show p + q.1.length + 1 + q.2.length + 1 = p + (clC q).length by omega] at g
        refine ⟨_, t, r, g.trans d1, d2, by omega, ?_⟩
        have hw : wo (ltr v1 v2 v3 v4 v5) (q :: l) = wo (ltr v1 v2 v3 v4 v5) l := by
          show (if q.1 = [] then _ else if val _ q.1 = 0 then _ else _) = _
          rw [if_neg h1, if_pos (show val (ltr v1 v2 v3 v4 v5) q.1 = 0 from hv.trans z)]
        rw [hw]; exact d4
      · have e1 : La_worth_L38 v1 v2 v3 v4 v5 (nI e) (nI 0, nI (p + q.1.length), S2) = some (.inl (nI 0, nI (p + (q.1.length + 1)), S3)) := by
          rw [show p + (q.1.length + 1) = p + q.1.length + 1 by omega]
          unfold La_worth_L38 La_worth_223_L38 La_worth_261_L38
          simp (disch := omega) only [q_lit, q_m1, q_m2, q_hid, q_add, q_mul, q_sub, q_le, q_lt, q_eq, q_mlt, q_mle, q_ltm, q_lem, q_meq, q_eqm, q_m2lt, q_m2le, q_ltm2, q_lem2, q_eqm2, q_mm2, q_m2m, q_mm, q_mnm, q_ix, q_inb, q_a0, q_a1, q_app, q_bind, if_true, if_false, if_pos, if_neg, q_at, c61, q_nn, p1, z]
        obtain ⟨S4, v, g1, g2, g3, g4⟩ := sum (q.1.length + 1) S3 p2 (by omega) rest
        refine ⟨_, _, _, (b5.trans (Go.one e1)).trans g1, g2, by omega, Or.inr ⟨S4, v, rfl, g3, ?_⟩⟩
        show (if q.1 = [] then _ else if val _ q.1 = 0 then _ else _) = v
        rw [if_neg h1, if_neg (show ¬ val (ltr v1 v2 v3 v4 v5) q.1 = 0 from fun e => z (hv.symm.trans e))]; exact g4
theorem la_worth {h : Nat} {l : List Cl} (hh : h < 5) (hg : gi S 20 5 = nI h) (hl : LawC l h S) (hok : ∀ q, q ∈ l → clOK q) : ∃ S2, La_worth v1 v2 v3 v4 v5 S = some (wo (ltr v1 v2 v3 v4 v5) l, S2) ∧ LwS S S2 := by
  obtain ⟨h1, h2, h3⟩ := hl
  have h0 : LaS S (si S 20 3 (nI 0)) [] := ⟨(LwS.rfl S).hg, rfl, trivial⟩
  obtain ⟨n, t, r, d1, d2, d3, d4⟩ := la_cls (v1 := v1) (v2 := v2) (v3 := v3) (v4 := v4) (v5 := v5) (e := 240 * h + (l.flatMap clC).length) l (p := 240 * h) hok h0 rfl (by omega) h3
  have hfin := d1.fin d2 (by omega)
  have e1 : nI h * 240 + nI (l.flatMap clC).length = nI (240 * h + (l.flatMap clC).length) := by simp (disch := omega) only [q_lit, q_m1, q_m2, q_hid, q_add, q_mul, q_sub, q_le, q_lt, q_eq, q_mlt, q_mle, q_ltm, q_lem, q_meq, q_eqm, q_m2lt, q_m2le, q_ltm2, q_lem2, q_eqm2, q_mm2, q_m2m, q_mm, q_mnm, q_ix, q_inb, q_a0, q_a1, q_app, q_bind, if_true, if_false, if_pos, if_neg]; rw [Nat.mul_comm]
  have e2 : nI h * 240 = nI (240 * h) := by simp (disch := omega) only [q_lit, q_m1, q_m2, q_hid, q_add, q_mul, q_sub, q_le, q_lt, q_eq, q_mlt, q_mle, q_ltm, q_lem, q_meq, q_eqm, q_m2lt, q_m2le, q_ltm2, q_lem2, q_eqm2, q_mm2, q_m2m, q_mm, q_mnm, q_ix, q_inb, q_a0, q_a1, q_app, q_bind, if_true, if_false, if_pos, if_neg]; rw [Nat.mul_comm]
  have e3 : atF (gi S 22) 5 (nI h) = nI (l.flatMap clC).length := (q_at hh (by omega)).trans h2
  unfold La_worth
  rw [hg, e3, e1, e2, show (0 : Int32) = nI 0 from rfl, hfin]
  rcases d4 with ⟨S2, rfl, g1, g2⟩ | ⟨S2, v, rfl, g1, g2⟩
  · exact ⟨S2, by rw [g2]; rfl, g1⟩
  · obtain ⟨S3, p1, p2⟩ := g1.pop (by show 0 < 63; omega)
    refine ⟨S3, ?_, p2.1⟩
    show (app (La_pop S2) fun q29 => some (q29.1, q29.2)) = _
    rw [p1, g2]; rfl
end LW
