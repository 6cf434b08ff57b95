/-! ===== the world of both sides: constants, the class's numbers S (with the made cells told in row 31), the reference's numbers T ===== -/
def gNs (S : Sm) : Nat := ix (gi S 31 40)
def mkc (c : Int32) : Option Kd := if c = 1 then some (.inl 4) else if c = 2 then some (.inr (.int, 56)) else if c = 3 then some (.inr (.int, 40)) else if c = 4 then some (.inr (.int, 8)) else if c = 5 then some (.inr (.int, 60)) else none
def cwR (r : Nat → Int32) : Nat → Nat → Option Nat := fun i j => if i = 31 then (if r j = 0 ∨ 40 ≤ j then none else some (ix (r j))) else if i < 91 then R0 i j else if i < ix (r 40) ∧ r (1000 + i) = 1 ∧ j < 4 then some (i + 1 + j) else none
def cwK (L : Nat) (r : Nat → Int32) : Nat → Option Kd := fun i => if i = 6 then some (.inr (.int, L)) else if i < 91 then K0 i else if i < ix (r 40) then mkc (r (1000 + i)) else none
abbrev Sc : Type := Nat × (Nat → Int32)
def cw (L : Sc) (T S : Sm) : Wd := (fun i j => if i < 7 then (if i = 6 then L.2 j else cst i j) else if i = 31 then 0 else if 53 ≤ i ∧ i < 90 then T.1 i j else S.1 i j, fun i j => if 53 ≤ i ∧ i < 90 then T.2 i j else S.2 i j, cwR (S.1 31), cwK L.1 (S.1 31), ix (S.1 31 40))
theorem ownC_of {i : Nat} (h : ownC i = true) : 7 ≤ i ∧ i < 53 ∧ i ≠ 31 := by
  unfold ownC at h
  rw [Bool.and_eq_true, Bool.and_eq_true] at h
  obtain ⟨⟨h1, h2⟩, h3⟩ := h
  refine ⟨Nat.le_of_ble_eq_true h1, Nat.le_of_ble_eq_true h2, fun e => ?_⟩
  subst e
  cases h3
theorem ownT_of {i : Nat} (h : ownT i = true) : 53 ≤ i ∧ i < 90 := by
  unfold ownT at h
  rw [Bool.and_eq_true] at h
  exact ⟨Nat.le_of_ble_eq_true h.1, Nat.le_of_ble_eq_true h.2⟩
/-- a number of the class's side, of a fixed cell or of a made one -/
theorem cw_gI {L : Sc} {T S : Sm} {i : Nat} (h1 : 7 ≤ i) (h2 : i < 53 ∨ 90 ≤ i) (h3 : i ≠ 31) (j : Nat) : gI (cw L T S) i j = gi S i j := by
  show (if i < 7 then (if i = 6 then L.2 j else cst i j) else if i = 31 then 0 else if 53 ≤ i ∧ i < 90 then T.1 i j else S.1 i j) = S.1 i j
  rw [if_neg (by omega), if_neg h3, if_neg (by omega)]
theorem cw_gIT {L : Sc} {T S : Sm} {i : Nat} (h1 : 53 ≤ i) (h2 : i < 90) (j : Nat) : gI (cw L T S) i j = gi T i j := by
  show (if i < 7 then (if i = 6 then L.2 j else cst i j) else if i = 31 then 0 else if 53 ≤ i ∧ i < 90 then T.1 i j else S.1 i j) = T.1 i j
  rw [if_neg (by omega), if_neg (by omega), if_pos ⟨h1, h2⟩]
theorem cw_sI {L : Sc} {T S : Sm} {i : Nat} (h1 : 7 ≤ i) (h2 : i < 53 ∨ 90 ≤ i) (h3 : i ≠ 31) (j : Nat) (v : Int32) : sI (cw L T S) i j v = cw L T (si S i j v) := by
  have e : (si S i j v).1 31 = S.1 31 := funext fun b => if_neg fun q => h3 q.1.symm
  unfold cw
  rw [e]
  refine Prod.ext (funext fun a => funext fun b => ?_) rfl
  show (if a = i ∧ b = j then v else if a < 7 then (if a = 6 then L.2 b else cst a b) else if a = 31 then 0 else if 53 ≤ a ∧ a < 90 then T.1 a b else S.1 a b) = if a < 7 then (if a = 6 then L.2 b else cst a b) else if a = 31 then 0 else if 53 ≤ a ∧ a < 90 then T.1 a b else (if a = i ∧ b = j then v else S.1 a b)
  by_cases q : a = i ∧ b = j
  · rw [if_pos q, if_neg (by omega), if_neg (by omega), if_neg (by omega), if_pos q]
  · rw [if_neg q, if_neg q]
theorem cw_sL {L : Sc} {T S : Sm} {i : Nat} (h2 : i < 53 ∨ 90 ≤ i) (j : Nat) (v : Int64) : sL (cw L T S) i j v = cw L T (sl S i j v) := by
  refine Prod.ext rfl (Prod.ext (funext fun a => funext fun b => ?_) rfl)
  show (if a = i ∧ b = j then v else if 53 ≤ a ∧ a < 90 then T.2 a b else S.2 a b) = if 53 ≤ a ∧ a < 90 then T.2 a b else (if a = i ∧ b = j then v else S.2 a b)
  by_cases q : a = i ∧ b = j
  · rw [if_pos q, if_neg (by omega), if_pos q]
  · rw [if_neg q, if_neg q]
theorem cw_sC {L : Sc} {T S : Sm} {a b n : Nat} (ha : 7 ≤ a) (ha2 : a < 53 ∨ 90 ≤ a) (ha3 : a ≠ 31) (hb : 7 ≤ b) (hb2 : b < 53 ∨ 90 ≤ b) (hb3 : b ≠ 31) : sC (cw L T S) a b n = cw L T (sc S a b n) := by
  have e : (sc S a b n).1 31 = S.1 31 := funext fun y => if_neg fun q => hb3 q.1.symm
  unfold cw
  rw [e]
  refine Prod.ext (funext fun x => funext fun y => ?_) rfl
  show (if x = b ∧ y < n then (if a < 7 then (if a = 6 then L.2 y else cst a y) else if a = 31 then 0 else if 53 ≤ a ∧ a < 90 then T.1 a y else S.1 a y) else if x < 7 then (if x = 6 then L.2 y else cst x y) else if x = 31 then 0 else if 53 ≤ x ∧ x < 90 then T.1 x y else S.1 x y) = if x < 7 then (if x = 6 then L.2 y else cst x y) else if x = 31 then 0 else if 53 ≤ x ∧ x < 90 then T.1 x y else (if x = b ∧ y < n then S.1 a y else S.1 x y)
  by_cases q : x = b ∧ y < n
  · rw [if_pos q, if_neg (by omega), if_neg ha3, if_neg (by omega), if_neg (by omega), if_neg (by omega), if_neg (by omega), if_pos q]
  · rw [if_neg q, if_neg q]
theorem K0_lt {i : Nat} {k : Kd} (h : K0 i = some k) : i < 91 ∧ i ≠ 6 := by
  rcases Nat.lt_or_ge i 91 with q | q
  · refine ⟨q, fun e => ?_⟩
    subst e; cases h
  · exfalso
    unfold K0 at h
    split at h <;> first | omega | cases h
theorem R0_lt {i j x : Nat} (h : R0 i j = some x) : i < 91 ∧ i ≠ 31 := by
  unfold R0 at h
  split at h <;> first | exact ⟨by omega, by omega⟩ | cases h
theorem cw_ok (L : Sc) (T : Sm) : VwC (cw L T) := by
  refine ⟨fun i h => (ownC_of h).1, fun S i j h => ?_, fun S i j h => ?_, fun S i j v h => ?_, fun S i j v h => ?_, fun S a b n ha hb => ?_, fun S i k h => ?_, fun S i j x h => ?_, fun S i j h => (if_pos (by omega)).trans (if_neg (by omega))⟩
  · obtain ⟨h1, h2, h3⟩ := ownC_of h
    exact cw_gI (by omega) (Or.inl h2) (by assumption) j
  · obtain ⟨h1, h2, -⟩ := ownC_of h
    exact if_neg (by omega)
  · obtain ⟨h1, h2, h3⟩ := ownC_of h
    exact cw_sI (by omega) (Or.inl h2) h3 j v
  · obtain ⟨h1, h2, h3⟩ := ownC_of h
    exact cw_sL (Or.inl h2) j v
  · obtain ⟨h1, h2, h3⟩ := ownC_of ha
    obtain ⟨g1, g2, g3⟩ := ownC_of hb
    exact cw_sC (by omega) (Or.inl h2) h3 (by omega) (Or.inl g2) g3
  · obtain ⟨h1, h2⟩ := K0_lt h
    exact (if_neg h2).trans ((if_pos h1).trans h)
  · obtain ⟨h1, h2⟩ := R0_lt h
    exact (if_neg h2).trans ((if_pos h1).trans h)
theorem cw_okT (L : Sc) (S : Sm) : VwT (fun T => cw L T S) := by
  refine ⟨fun i h => by have := (ownT_of h).1; omega, fun T i j h => ?_, fun T i j h => ?_, fun T i j v h => ?_, fun T i j v h => ?_, fun T a b n ha hb => ?_, fun T i k h => ?_, fun T i j x h => ?_, fun T i j h => (if_pos (by omega)).trans (if_neg (by omega))⟩
  · obtain ⟨h1, h2⟩ := ownT_of h
    exact cw_gIT h1 h2 j
  · obtain ⟨h1, h2⟩ := ownT_of h
    exact if_pos ⟨h1, h2⟩
  · obtain ⟨h1, h2⟩ := ownT_of h
    refine Prod.ext (funext fun a => funext fun b => ?_) rfl
    show (if a = i ∧ b = j then v else if a < 7 then (if a = 6 then L.2 b else cst a b) else if a = 31 then 0 else if 53 ≤ a ∧ a < 90 then T.1 a b else S.1 a b) = if a < 7 then (if a = 6 then L.2 b else cst a b) else if a = 31 then 0 else if 53 ≤ a ∧ a < 90 then (if a = i ∧ b = j then v else T.1 a b) else S.1 a b
    by_cases q : a = i ∧ b = j
    · rw [if_pos q, if_neg (by omega), if_neg (by omega), if_pos (by omega), if_pos q]
    · rw [if_neg q, if_neg q]
  · obtain ⟨h1, h2⟩ := ownT_of h
    refine Prod.ext rfl (Prod.ext (funext fun a => funext fun b => ?_) rfl)
    show (if a = i ∧ b = j then v else if 53 ≤ a ∧ a < 90 then T.2 a b else S.2 a b) = if 53 ≤ a ∧ a < 90 then (if a = i ∧ b = j then v else T.2 a b) else S.2 a b
    by_cases q : a = i ∧ b = j
    · rw [if_pos q, if_pos (by omega), if_pos q]
    · rw [if_neg q, if_neg q]
  · obtain ⟨h1, h2⟩ := ownT_of ha
    obtain ⟨g1, g2⟩ := ownT_of hb
    refine Prod.ext (funext fun x => funext fun y => ?_) rfl
    show (if x = b ∧ y < n then (if a < 7 then (if a = 6 then L.2 y else cst a y) else if a = 31 then 0 else if 53 ≤ a ∧ a < 90 then T.1 a y else S.1 a y) else if x < 7 then (if x = 6 then L.2 y else cst x y) else if x = 31 then 0 else if 53 ≤ x ∧ x < 90 then T.1 x y else S.1 x y) = if x < 7 then (if x = 6 then L.2 y else cst x y) else if x = 31 then 0 else if 53 ≤ x ∧ x < 90 then (if x = b ∧ y < n then T.1 a y else T.1 x y) else S.1 x y
    by_cases q : x = b ∧ y < n
    · rw [if_pos q, if_neg (by omega), if_neg (by omega), if_pos (by omega), if_neg (by omega), if_neg (by omega), if_pos (by omega), if_pos q]
    · rw [if_neg q, if_neg q]
  · obtain ⟨h1, h2⟩ := K0_lt h
    exact (if_neg h2).trans ((if_pos h1).trans h)
  · obtain ⟨h1, h2⟩ := R0_lt h
    exact (if_neg h2).trans ((if_pos h1).trans h)
