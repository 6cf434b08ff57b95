/-! ===== after keep: the row of made cells stands still ===== -/
def f31 (r : Nat → Int32) (S : Sm) : Sm := (fun a b => if a = 31 then r b else S.1 a b, S.2)
def f31r {α : Type} (r : Nat → Int32) (q : α × Sm) : α × Sm := (q.1, f31 r q.2)
def cwf (L : Sc) (T : Sm) (r : Nat → Int32) (S : Sm) : Wd := cw L T (f31 r S)
theorem f31_self (S : Sm) : f31 (S.1 31) S = S := by
  refine Prod.ext (funext fun a => funext fun b => ?_) rfl
  show (if a = 31 then S.1 31 b else S.1 a b) = S.1 a b
  by_cases h : a = 31
  · rw [if_pos h, h]
  · rw [if_neg h]
theorem cwf_self (L : Sc) (T S : Sm) : cwf L T (S.1 31) S = cw L T S := by unfold cwf; rw [f31_self]
theorem map_of {α β : Type} {x : Option α} {f : α → β} {r : β} (h : x.map f = some r) : ∃ q, x = some q ∧ f q = r := Option.map_eq_some_iff.mp h
theorem f31_si {r : Nat → Int32} {S : Sm} {i j : Nat} {v : Int32} (h : i ≠ 31) : si (f31 r S) i j v = f31 r (si S i j v) := by
  refine Prod.ext (funext fun a => funext fun b => ?_) rfl
  show (if a = i ∧ b = j then v else if a = 31 then r b else S.1 a b) = (if a = 31 then r b else if a = i ∧ b = j then v else S.1 a b)
  by_cases q : a = i ∧ b = j
  · rw [if_pos q, if_neg (by omega), if_pos q]
  · rw [if_neg q, if_neg q]
theorem f31_sc {r : Nat → Int32} {S : Sm} {p q n : Nat} (hp : p ≠ 31) (hq : q ≠ 31) : sc (f31 r S) p q n = f31 r (sc S p q n) := by
  refine Prod.ext (funext fun a => funext fun b => ?_) rfl
  show (if a = q ∧ b < n then (if p = 31 then r b else S.1 p b) else if a = 31 then r b else S.1 a b) = (if a = 31 then r b else if a = q ∧ b < n then S.1 p b else S.1 a b)
  by_cases z : a = q ∧ b < n
  · rw [if_pos z, if_neg hp, if_neg (by omega), if_pos z]
  · rw [if_neg z, if_neg z]
theorem cwf_ok (L : Sc) (T : Sm) (r : Nat → Int32) : VwC (cwf L T r) := by
  have B := cw_ok L T
  refine ⟨B.1, fun S i j h => ?_, fun S i j h => ?_, fun S i j v h => ?_, fun S i j v h => ?_, fun S a b n ha hb => ?_, fun S i k h => B.2.2.2.2.2.2.1 _ i k h, fun S i j x h => B.2.2.2.2.2.2.2.1 _ i j x h, fun S i j h => B.2.2.2.2.2.2.2.2 _ i j h⟩
  · exact (B.2.1 _ i j h).trans (if_neg (ownC_of h).2.2)
  · exact B.2.2.1 _ i j h
  · exact (B.2.2.2.1 _ i j v h).trans (congrArg (cw L T) (f31_si (ownC_of h).2.2))
  · exact B.2.2.2.2.1 _ i j v h
  · exact (B.2.2.2.2.2.1 _ a b n ha hb).trans (congrArg (cw L T) (f31_sc (ownC_of ha).2.2 (ownC_of hb).2.2))
section KC
variable {M : Mt} {l : Launch} {Γ : Gm} {R : Room} {Q : QT} {pc cells slots : Nat} {ls : List (Option Value)} {own : Nat → Bool} {K : Nat → Option Kd} {Rf : Nat → Nat → Option Nat} {V : Sm → Wd} {S : Sm}
theorem k_callVi (hV : Vw own K Rf V) {Mc : Mt} {n i ci D b : Nat} {As rest stk : List Value} {v : Int32} {S1 : Sm} {q : vw_C} (hd : decode M.2.1 pc = .ok (.invokevirtual i, 3)) (hl : Cond.methodLink M.1.cls i Mc.1 ∈ WS) (hM : MfV Mc n) (hn : As.length = n) (hk : K b = some (.inl ci)) (hc : vwCl[ci]? = some q) (hq : q.1 = Mc.1.cls) (hs : As.reverse ++ .ref b :: rest = stk) (h8 : (rest.map fun v => v.category).sum ≤ 8)
    (hR : D + 1 ≤ R.frames ∧ 8 + (Mc.2.2.1 + 11) + 64 * D ≤ R.locals) (hr : Runs D Mc (.ref b :: As) (V S) (some (.int v)) (V S1) 0 0)
    (kk : G M l Γ R Q cells slots (pc + 3) ls (.int v :: rest) (V S1)) (hcs : cells ≤ R.cells ∧ slots ≤ R.slots := by exact ⟨Nat.le_refl _, Nat.le_refl _⟩) : G M l Γ R Q cells slots pc ls stk (V S) :=
  g_callV hd hl hM.1 hM.2.1 hM.2.2 hn (hV.2.2.2.2.2.2.1 S b _ hk) hc hq hs h8 hR hcs hr kk
theorem k_callVv (hV : Vw own K Rf V) {Mc : Mt} {n i ci D b : Nat} {As rest stk : List Value}  {S1 : Sm} {q : vw_C} (hd : decode M.2.1 pc = .ok (.invokevirtual i, 3)) (hl : Cond.methodLink M.1.cls i Mc.1 ∈ WS) (hM : MfV Mc n) (hn : As.length = n) (hk : K b = some (.inl ci)) (hc : vwCl[ci]? = some q) (hq : q.1 = Mc.1.cls) (hs : As.reverse ++ .ref b :: rest = stk) (h8 : (rest.map fun v => v.category).sum ≤ 8)
    (hR : D + 1 ≤ R.frames ∧ 8 + (Mc.2.2.1 + 11) + 64 * D ≤ R.locals) (hr : Runs D Mc (.ref b :: As) (V S) none (V S1) 0 0)
    (kk : G M l Γ R Q cells slots (pc + 3) ls (rest) (V S1)) (hcs : cells ≤ R.cells ∧ slots ≤ R.slots := by exact ⟨Nat.le_refl _, Nat.le_refl _⟩) : G M l Γ R Q cells slots pc ls stk (V S) :=
  g_callV hd hl hM.1 hM.2.1 hM.2.2 hn (hV.2.2.2.2.2.2.1 S b _ hk) hc hq hs h8 hR hcs hr kk
end KC
