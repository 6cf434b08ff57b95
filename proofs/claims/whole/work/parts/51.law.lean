/-! ===== laws worked ===== -/
theorem i64_inj {a b : Int32} (h : a.toInt64 = b.toInt64) : a = b := by
  have := congrArg Int64.toInt32 h
  rwa [Int32.toInt32_toInt64, Int32.toInt32_toInt64] at this
theorem i64_le {a b : Int32} : a.toInt64 ≤ b.toInt64 ↔ a ≤ b := by
  rw [Int64.le_iff_toInt_le, Int32.le_iff_toInt_le, Int32.toInt_toInt64, Int32.toInt_toInt64]
theorem lg_le {x y : Int64} : lg_cmp x y ≤ 0 ↔ x ≤ y := by
  unfold lg_cmp
  by_cases q : x > y
  · rw [if_pos q]
    exact ⟨fun h => absurd h (by decide), fun h => absurd q (Int64.not_lt.mpr h)⟩
  · rw [if_neg q]
    refine ⟨fun _ => Int64.not_lt.mp q, fun _ => ?_⟩
    split <;> decide
def tru (x : Int32) : Prop := x = nI 0 ∨ x = nI 1
/-- the sign of a joining kind, as the class has it -/
def sgn (k : Nat) : Int32 := match k with | 2 => 43 | 3 => 45 | 4 => 42 | 5 => 47 | 6 => 61 | 7 => 60 | 8 => 62 | 10 => 38 | _ => 124
def arith (k : Nat) : Prop := k = 2 ∨ k = 3 ∨ k = 4 ∨ k = 5
def comp (k : Nat) : Prop := k = 6 ∨ k = 7 ∨ k = 8
def conn (k : Nat) : Prop := k = 10 ∨ k = 11
theorem joined_ok {k : Nat} {a b : Int32} (h : arith k ∨ comp k ∨ (conn k ∧ tru a ∧ tru b)) : ∃ v, La_joined (sgn k) b a = some v ∧ Md_worked (nI k) a.toInt64 b.toInt64 = some v ∧ (¬ arith k → tru v) := by
  rcases h with (rfl | rfl | rfl | rfl) | (rfl | rfl | rfl) | ⟨rfl | rfl, ha, hb⟩
  · exact ⟨_, rfl, rfl, fun h => absurd (Or.inl rfl) h⟩
  · exact ⟨_, rfl, rfl, fun h => absurd (Or.inr (Or.inl rfl)) h⟩
  · exact ⟨_, rfl, rfl, fun h => absurd (Or.inr (Or.inr (Or.inl rfl))) h⟩
  · by_cases z : b = 0
    · subst z
      exact ⟨nI 0, rfl, rfl, fun h => absurd (Or.inr (Or.inr (Or.inr rfl))) h⟩
    · have z2 : ¬ b.toInt64 = (0 : Int64) := fun e => z (i64_inj (e.trans rfl))
      have z3 : ¬ lg_cmp b.toInt64 0 = 0 := by rcases lc_ne z2 with e | e <;> rw [e] <;> decide
      refine ⟨La_bounded (a.toInt64 / b.toInt64), ?_, ?_, fun h => absurd (Or.inr (Or.inr (Or.inr rfl))) h⟩
      · show (if b = 0 then _ else if b.toInt64 = (0 : Int64) then none else La_joined_159 _) = _
        rw [if_neg z, if_neg z2]; rfl
      · show (if lg_cmp b.toInt64 0 = 0 then _ else if b.toInt64 = (0 : Int64) then none else Md_worked_89 _) = _
        rw [if_neg z3, if_neg z2]; rfl
  · by_cases z : a = b
    · subst z
      refine ⟨nI 1, ?_, ?_, fun _ => Or.inr rfl⟩
      · show (if a = a then La_joined_170 1 else La_joined_170 0) = _
        rw [if_pos rfl]; rfl
      · show (if lg_cmp a.toInt64 a.toInt64 = 0 then Md_worked_101 1 else Md_worked_101 0) = _
        rw [if_pos (show lg_cmp a.toInt64 a.toInt64 = 0 from lc_eq rfl)]; rfl
    · have z2 : ¬ lg_cmp a.toInt64 b.toInt64 = 0 := by rcases lc_ne (fun e => z (i64_inj e)) with e | e <;> rw [e] <;> decide
      refine ⟨nI 0, ?_, ?_, fun _ => Or.inl rfl⟩
      · show (if a = b then La_joined_170 1 else La_joined_170 0) = _
        rw [if_neg z]; rfl
      · show (if lg_cmp a.toInt64 b.toInt64 = 0 then Md_worked_101 1 else Md_worked_101 0) = _
        rw [if_neg z2]; rfl
  · by_cases z : b ≤ a
    · refine ⟨nI 0, ?_, ?_, fun _ => Or.inl rfl⟩
      · show (if b ≤ a then La_joined_181 0 else La_joined_181 1) = _
        rw [if_pos z]; rfl
      · show (if (0 : Int32) ≤ lg_cmp a.toInt64 b.toInt64 then Md_worked_113 0 else Md_worked_113 1) = _
        rw [if_pos ((lg_cmp_ge _ _).mpr (i64_le.mpr z))]; rfl
    · refine ⟨nI 1, ?_, ?_, fun _ => Or.inr rfl⟩
      · show (if b ≤ a then La_joined_181 0 else La_joined_181 1) = _
        rw [if_neg z]; rfl
      · show (if (0 : Int32) ≤ lg_cmp a.toInt64 b.toInt64 then Md_worked_113 0 else Md_worked_113 1) = _
        rw [if_neg fun e => z (i64_le.mp ((lg_cmp_ge _ _).mp e))]; rfl
  · by_cases z : a ≤ b
    · refine ⟨nI 0, ?_, ?_, fun _ => Or.inl rfl⟩
      · show (if a ≤ b then La_joined_192 0 else La_joined_192 1) = _
        rw [if_pos z]; rfl
      · show (if lg_cmp a.toInt64 b.toInt64 ≤ 0 then Md_worked_125 0 else Md_worked_125 1) = _
        rw [if_pos (lg_le.mpr (i64_le.mpr z))]; rfl
    · refine ⟨nI 1, ?_, ?_, fun _ => Or.inr rfl⟩
      · show (if a ≤ b then La_joined_192 0 else La_joined_192 1) = _
        rw [if_neg z]; rfl
      · show (if lg_cmp a.toInt64 b.toInt64 ≤ 0 then Md_worked_125 0 else Md_worked_125 1) = _
        rw [if_neg fun e => z (i64_le.mp (lg_le.mp e))]; rfl
  · rcases ha with rfl | rfl <;> rcases hb with rfl | rfl
    · exact ⟨nI 0, by decide, by decide, fun _ => Or.inl rfl⟩
    · exact ⟨nI 0, by decide, by decide, fun _ => Or.inl rfl⟩
    · exact ⟨nI 0, by decide, by decide, fun _ => Or.inl rfl⟩
    · exact ⟨nI 1, by decide, by decide, fun _ => Or.inr rfl⟩
  · rcases ha with rfl | rfl <;> rcases hb with rfl | rfl
    · exact ⟨nI 0, by decide, by decide, fun _ => Or.inl rfl⟩
    · exact ⟨nI 1, by decide, by decide, fun _ => Or.inr rfl⟩
    · exact ⟨nI 1, by decide, by decide, fun _ => Or.inr rfl⟩
    · exact ⟨nI 1, by decide, by decide, fun _ => Or.inr rfl⟩
/-! tokens on a stack of numbers (the top first) -/
def ev1 (le : Nat → Int32) (t : Tk) (st : List Int32) : Option (List Int32) := match t.1, st with
  | 0, st => some (nI t.2 :: st)
  | 1, st => some (le t.2 :: st)
  | 9, x :: st => some ((1 - x) :: st)
  | k, b :: a :: st => (Md_worked (nI k) a.toInt64 b.toInt64).map fun v => v :: st
  | _, _ => none
def evL (le : Nat → Int32) : List Tk → List Int32 → Option (List Int32)
  | [], st => some st
  | t :: l, st => (ev1 le t st).bind (evL le l)
def Typ : List Bool → List Int32 → Prop
  | [], [] => True
  | b :: τ, x :: st => (b = true → tru x) ∧ Typ τ st
  | _, _ => False
theorem Typ.len : ∀ {τ : List Bool} {st : List Int32}, Typ τ st → st.length = τ.length
  | [], [], _ => rfl
  | _ :: _, _ :: _, h => congrArg (· + 1) (Typ.len h.2)
  | [], _ :: _, h => h.elim
  | _ :: _, [], h => h.elim
/-- the stack in a row, its bottom first -/
def Stk (r : Nat → Int32) : List Int32 → Prop
  | [] => True
  | x :: st => r st.length = x ∧ Stk r st
theorem Stk.upd {r : Nat → Int32} {j : Nat} {v : Int32} : ∀ {st : List Int32}, st.length ≤ j → Stk r st → Stk (fun i => if i = j then v else r i) st
  | [], _, _ => trivial
  | x :: st, h, g => by
    have h' : st.length + 1 ≤ j := h
    exact ⟨(if_neg (by omega)).trans g.1, Stk.upd (by omega) g.2⟩
theorem Stk.push {r : Nat → Int32} {v : Int32} {st : List Int32} (g : Stk r st) : Stk (fun i => if i = st.length then v else r i) (v :: st) := ⟨if_pos rfl, g.upd (Nat.le_refl _)⟩
theorem tru_not {x : Int32} (h : tru x) : tru (1 - x) := by
  rcases h with rfl | rfl
  · exact Or.inr (by decide)
  · exact Or.inl (by decide)
theorem rt_bin {k w : Nat} {τ τ' : List Bool} (h : rt1 (k, w) τ = some τ') (h2 : 2 ≤ k) (h9 : k ≠ 9) : ∃ x y τ0 z, τ = x :: y :: τ0 ∧ τ' = z :: τ0 ∧ k ≤ 11 ∧ (arith k ∧ z = false ∨ comp k ∧ z = true ∨ conn k ∧ x = true ∧ y = true ∧ z = true) := by
  rcases τ with _ | ⟨x, _ | ⟨y, τ0⟩⟩
  · match k, h2, h9, h with
    | 0, h2, _, _ => omega
    | 1, h2, _, _ => omega
    | 2, _, _, h => cases h
    | 3, _, _, h => cases h
    | 4, _, _, h => cases h
    | 5, _, _, h => cases h
    | 6, _, _, h => cases h
    | 7, _, _, h => cases h
    | 8, _, _, h => cases h
    | 9, _, h9, _ => exact absurd rfl h9
    | 10, _, _, h => cases h
    | 11, _, _, h => cases h
    | k + 12, _, _, h => cases h
  · match k, h2, h9, h with
    | 0, h2, _, _ => omega
    | 1, h2, _, _ => omega
    | 2, _, _, h => cases x <;> cases h
    | 3, _, _, h => cases x <;> cases h
    | 4, _, _, h => cases x <;> cases h
    | 5, _, _, h => cases x <;> cases h
    | 6, _, _, h => cases x <;> cases h
    | 7, _, _, h => cases x <;> cases h
    | 8, _, _, h => cases x <;> cases h
    | 9, _, h9, _ => exact absurd rfl h9
    | 10, _, _, h => cases x <;> cases h
    | 11, _, _, h => cases x <;> cases h
    | k + 12, _, _, h => cases x <;> cases h
  · refine ⟨x, y, τ0, ?_⟩
    match k, h2, h9, h with
    | 0, h2, _, _ => omega
    | 1, h2, _, _ => omega
    | 2, _, _, h => cases x <;> cases y <;> cases h; exact ⟨false, rfl, rfl, by omega, Or.inl ⟨Or.inl rfl, rfl⟩⟩
    | 3, _, _, h => cases x <;> cases y <;> cases h; exact ⟨false, rfl, rfl, by omega, Or.inl ⟨Or.inr (Or.inl rfl), rfl⟩⟩
    | 4, _, _, h => cases x <;> cases y <;> cases h; exact ⟨false, rfl, rfl, by omega, Or.inl ⟨Or.inr (Or.inr (Or.inl rfl)), rfl⟩⟩
    | 5, _, _, h => cases x <;> cases y <;> cases h; exact ⟨false, rfl, rfl, by omega, Or.inl ⟨Or.inr (Or.inr (Or.inr rfl)), rfl⟩⟩
    | 6, _, _, h => cases x <;> cases y <;> cases h; exact ⟨true, rfl, rfl, by omega, Or.inr (Or.inl ⟨Or.inl rfl, rfl⟩)⟩
    | 7, _, _, h => cases x <;> cases y <;> cases h; exact ⟨true, rfl, rfl, by omega, Or.inr (Or.inl ⟨Or.inr (Or.inl rfl), rfl⟩)⟩
    | 8, _, _, h => cases x <;> cases y <;> cases h; exact ⟨true, rfl, rfl, by omega, Or.inr (Or.inl ⟨Or.inr (Or.inr rfl), rfl⟩)⟩
    | 9, _, h9, _ => exact absurd rfl h9
    | 10, _, _, h => cases x <;> cases y <;> cases h; exact ⟨true, rfl, rfl, by omega, Or.inr (Or.inr ⟨Or.inl rfl, rfl, rfl, rfl⟩)⟩
    | 11, _, _, h => cases x <;> cases y <;> cases h; exact ⟨true, rfl, rfl, by omega, Or.inr (Or.inr ⟨Or.inr rfl, rfl, rfl, rfl⟩)⟩
    | k + 12, _, _, h => cases x <;> cases y <;> cases h
theorem ev1_bin (le : Nat → Int32) {k w : Nat} {b a : Int32} {st : List Int32} (h2 : 2 ≤ k) (h9 : k ≠ 9) : ev1 le (k, w) (b :: a :: st) = (Md_worked (nI k) a.toInt64 b.toInt64).map fun v => v :: st := by
  match k, h2, h9 with
  | 0, h, _ => omega
  | 1, h, _ => omega
  | 2, _, _ => rfl
  | 3, _, _ => rfl
  | 4, _, _ => rfl
  | 5, _, _ => rfl
  | 6, _, _ => rfl
  | 7, _, _ => rfl
  | 8, _, _ => rfl
  | 9, _, h => exact absurd rfl h
  | k + 10, _, _ => rfl
/-- a typed token works: what comes, in three shapes -/
theorem ev1_ok (le : Nat → Int32) {k w : Nat} {τ τ' : List Bool} {st : List Int32} (h : rt1 (k, w) τ = some τ') (hs : Typ τ st) :
    (∃ v, ev1 le (k, w) st = some (v :: st) ∧ Typ τ' (v :: st) ∧ st.length < 60 ∧ (k = 0 ∧ w ≤ 9999 ∧ v = nI w ∨ k = 1 ∧ w < 5 ∧ v = le w)) ∨
    (∃ x st0, st = x :: st0 ∧ ev1 le (k, w) st = some ((1 - x) :: st0) ∧ Typ τ' ((1 - x) :: st0) ∧ k = 9) ∨
    (∃ b a st0 v, st = b :: a :: st0 ∧ ev1 le (k, w) st = some (v :: st0) ∧ Typ τ' (v :: st0) ∧ (2 ≤ k ∧ k ≤ 11 ∧ k ≠ 9) ∧ La_joined (sgn k) b a = some v ∧ Md_worked (nI k) a.toInt64 b.toInt64 = some v) := by
  by_cases k0 : k = 0
  · subst k0
    have h : (if w ≤ 9999 ∧ τ.length < 60 then some (false :: τ) else none) = some τ' := h
    by_cases c : w ≤ 9999 ∧ τ.length < 60
    · rw [if_pos c] at h
      cases h
      exact Or.inl ⟨nI w, rfl, ⟨fun e => (by cases e), hs⟩, by rw [hs.len]; exact c.2, Or.inl ⟨rfl, c.1, rfl⟩⟩
    · rw [if_neg c] at h; cases h
  · by_cases k1 : k = 1
    · subst k1
      have h : (if w < 5 ∧ τ.length < 60 then some (false :: τ) else none) = some τ' := h
      by_cases c : w < 5 ∧ τ.length < 60
      · rw [if_pos c] at h
        cases h
        exact Or.inl ⟨le w, rfl, ⟨fun e => (by cases e), hs⟩, by rw [hs.len]; exact c.2, Or.inr ⟨rfl, c.1, rfl⟩⟩
      · rw [if_neg c] at h; cases h
    · by_cases k9 : k = 9
      · subst k9
        match τ, st, h, hs with
        | [], _, h, _ => cases h
        | false :: _, _, h, _ => cases h
        | true :: τ0, [], _, hs => exact hs.elim
        | true :: τ0, x :: st0, h, hs =>
          cases h
          exact Or.inr (Or.inl ⟨x, st0, rfl, rfl, ⟨fun _ => tru_not (hs.1 rfl), hs.2⟩, rfl⟩)
      · obtain ⟨x, y, τ0, z, rfl, rfl, h11, hk⟩ := rt_bin h (by omega) k9
        match st, hs with
        | [], hs => exact hs.elim
        | [_], hs => exact hs.2.elim
        | b :: a :: st0, hs =>
          have hj : arith k ∨ comp k ∨ (conn k ∧ tru a ∧ tru b) := by
            rcases hk with ⟨q, -⟩ | ⟨q, -⟩ | ⟨q, rfl, rfl, -⟩
            · exact Or.inl q
            · exact Or.inr (Or.inl q)
            · exact Or.inr (Or.inr ⟨q, hs.2.1 rfl, hs.1 rfl⟩)
          obtain ⟨v, j1, j2, j3⟩ := joined_ok hj
          refine Or.inr (Or.inr ⟨b, a, st0, v, rfl, ?_, ⟨fun e => ?_, hs.2.2⟩, ⟨by omega, h11, k9⟩, j1, j2⟩)
          · rw [ev1_bin le (by omega) k9, j2]; rfl
          · refine j3 fun q => ?_
            rcases hk with ⟨-, q2⟩ | ⟨q2, -⟩ | ⟨q2, -⟩
            · rw [e] at q2; cases q2
            · rcases q with rfl | rfl | rfl | rfl <;> rcases q2 with q2 | q2 | q2 <;> cases q2
            · rcases q with rfl | rfl | rfl | rfl <;> rcases q2 with q2 | q2 <;> cases q2
/-! loops run on by so many steps -/
def Go {σ ρ : Type} (f : σ → Option (σ ⊕ ρ)) (n : Nat) (s t : σ) : Prop := ∀ k, lpN f (k + n) s = lpN f k t
theorem Go.zero {σ ρ : Type} {f : σ → Option (σ ⊕ ρ)} (s : σ) : Go f 0 s s := fun _ => rfl
theorem Go.one {σ ρ : Type} {f : σ → Option (σ ⊕ ρ)} {s t : σ} (h : f s = some (.inl t)) : Go f 1 s t := fun k => by rw [lpN_s, h]
theorem Go.trans {σ ρ : Type} {f : σ → Option (σ ⊕ ρ)} {n m : Nat} {s t u : σ} (h : Go f n s t) (g : Go f m t u) : Go f (n + m) s u := fun k => by
  rw [show k + (n + m) = (k + m) + n by omega, h, g]
theorem Go.fin {σ ρ : Type} {f : σ → Option (σ ⊕ ρ)} {n : Nat} {s t : σ} {r : ρ} (h : Go f n s t) (he : f t = some (.inr r)) (hn : n < 13000) : lpN f FU s = some r := by
  have : FU = (12999 - n + 1) + n := by unfold FU; omega
  rw [this, h, lpN_s, he]
