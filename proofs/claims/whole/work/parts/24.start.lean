/-! ===== the world that the constructors leave is the world of both sides ===== -/
def Bu (L : Sc) (n : Nat) (w w' : Wd) : Prop := gN w = n ∧ gN w' = n ∧ 7 ≤ n ∧ (∀ i j, gR w i j = gR w' i j) ∧ (∀ i, i ≠ 6 → gK w i = gK w' i) ∧ (∀ i j, 60 ≤ j → gR w i j = none) ∧ (∀ i j, n ≤ i → gR w i j = none) ∧ (∀ i, n ≤ i → gK w i = none) ∧ (∀ i j, i < 7 → gI w i j = (if i = 6 then L.2 j else cst i j)) ∧ (∀ j, gI w 31 j = 0) ∧ gK w 6 = some (.inr (.int, L.1))
theorem Bu.sN {L : Sc} {n : Nat} {w w' : Wd} {k : Kd} (h : Bu L n w w') : Bu L (n + 1) (sN w k) (sN w' k) := by
  obtain ⟨a1, a2, a3, a4, a5, a6, a7, a8, a9, a10, a11⟩ := h
  refine ⟨congrArg (· + 1) a1, congrArg (· + 1) a2, by omega, fun i j => ?_, fun i hi => ?_, fun i j hj => ?_, fun i j hi => ?_, fun i hi => ?_, fun i j hi => ?_, fun j => ?_, ?_⟩
  · show (if i = gN w then none else gR w i j) = (if i = gN w' then none else gR w' i j)
    rw [a1, a2, a4]
  · show (if i = gN w then some k else gK w i) = (if i = gN w' then some k else gK w' i)
    rw [a1, a2, a5 i hi]
  · show (if i = gN w then none else gR w i j) = none
    by_cases z : i = gN w
    · rw [if_pos z]
    · rw [if_neg z, a6 i j hj]
  · show (if i = gN w then none else gR w i j) = none
    rw [if_neg (by omega), a7 i j (by omega)]
  · show (if i = gN w then some k else gK w i) = none
    rw [if_neg (by omega), a8 i (by omega)]
  · show (if i = gN w then 0 else gI w i j) = _
    rw [if_neg (by omega), a9 i j hi]
  · show (if 31 = gN w then 0 else gI w 31 j) = 0
    by_cases z : 31 = gN w
    · rw [if_pos z]
    · rw [if_neg z, a10]
  · show (if 6 = gN w then some k else gK w 6) = _
    rw [if_neg (by omega), a11]
theorem Bu.sR {L : Sc} {n i k : Nat} {w w' : Wd} {x : Option Nat} (h : Bu L n w w') (hi : i < n) (hk : k < 60) : Bu L n (sR w i k x) (sR w' i k x) := by
  obtain ⟨a1, a2, a3, a4, a5, a6, a7, a8, a9, a10, a11⟩ := h
  refine ⟨a1, a2, a3, fun a b => ?_, a5, fun a b hb => ?_, fun a b ha => ?_, a8, a9, a10, a11⟩
  · show (if a = i ∧ b = k then x else gR w a b) = (if a = i ∧ b = k then x else gR w' a b)
    rw [a4]
  · show (if a = i ∧ b = k then x else gR w a b) = none
    rw [if_neg (by omega), a6 a b hb]
  · show (if a = i ∧ b = k then x else gR w a b) = none
    rw [if_neg (by omega), a7 a b ha]
theorem Bu.sI {L : Sc} {n i k : Nat} {w w' : Wd} {v : Int32} (h : Bu L n w w') (hi : 7 ≤ i) (h31 : i ≠ 31) : Bu L n (sI w i k v) (sI w' i k v) := by
  obtain ⟨a1, a2, a3, a4, a5, a6, a7, a8, a9, a10, a11⟩ := h
  refine ⟨a1, a2, a3, a4, a5, a6, a7, a8, fun a b ha => ?_, fun b => ?_, a11⟩
  · show (if a = i ∧ b = k then v else gI w a b) = _
    rw [if_neg (by omega), a9 a b ha]
  · show (if 31 = i ∧ b = k then v else gI w 31 b) = _
    rw [if_neg (by omega), a10]
theorem Bu.sL {L : Sc} {n i k : Nat} {w w' : Wd} {v : Int64} (h : Bu L n w w') : Bu L n (sL w i k v) (sL w' i k v) := h
theorem bu_8 {L : Sc} {w w' : Wd} (h : Bu L 9 w w') : Bu L 10 (n8 w) (n8 w') := by
  unfold n8
  refine Bu.sI ?_ (by decide) (by decide)
  refine Bu.sI ?_ (by decide) (by decide)
  refine Bu.sI ?_ (by decide) (by decide)
  refine Bu.sR ?_ (by decide) (by decide)
  refine Bu.sN ?_
  exact h
theorem bu_10 {L : Sc} {w w' : Wd} (h : Bu L 11 w w') : Bu L 14 (n10 w) (n10 w') := by
  unfold n10
  refine Bu.sR ?_ (by decide) (by decide)
  refine Bu.sN ?_
  refine Bu.sR ?_ (by decide) (by decide)
  refine Bu.sN ?_
  refine Bu.sR ?_ (by decide) (by decide)
  refine Bu.sN ?_
  exact h
theorem bu_14 {L : Sc} {w w' : Wd} (h : Bu L 15 w w') : Bu L 18 (n14 w) (n14 w') := by
  unfold n14
  refine Bu.sR ?_ (by decide) (by decide)
  refine Bu.sN ?_
  refine Bu.sR ?_ (by decide) (by decide)
  refine Bu.sN ?_
  refine Bu.sR ?_ (by decide) (by decide)
  refine Bu.sN ?_
  exact h
theorem bu_18 {L : Sc} {w w' : Wd} (h : Bu L 19 w w') : Bu L 20 (n18 w) (n18 w') := by
  unfold n18
  refine Bu.sR ?_ (by decide) (by decide)
  refine Bu.sR ?_ (by decide) (by decide)
  refine Bu.sR ?_ (by decide) (by decide)
  refine Bu.sN ?_
  exact h
theorem bu_20 {L : Sc} {w w' : Wd} (h : Bu L 21 w w') : Bu L 24 (n20 w) (n20 w') := by
  unfold n20
  refine Bu.sI ?_ (by decide) (by decide)
  refine Bu.sI ?_ (by decide) (by decide)
  refine Bu.sI ?_ (by decide) (by decide)
  refine Bu.sR ?_ (by decide) (by decide)
  refine Bu.sN ?_
  refine Bu.sR ?_ (by decide) (by decide)
  refine Bu.sN ?_
  refine Bu.sR ?_ (by decide) (by decide)
  refine Bu.sN ?_
  exact h
theorem bu_24 {L : Sc} {w w' : Wd} (h : Bu L 25 w w') : Bu L 25 (n24 w) (n24 w') := by
  unfold n24
  refine Bu.sR ?_ (by decide) (by decide)
  refine Bu.sR ?_ (by decide) (by decide)
  exact h
theorem bu_25 {L : Sc} {w w' : Wd} (h : Bu L 26 w w') : Bu L 30 (n25 w) (n25 w') := by
  unfold n25
  refine Bu.sI ?_ (by decide) (by decide)
  refine Bu.sI ?_ (by decide) (by decide)
  refine Bu.sI ?_ (by decide) (by decide)
  refine Bu.sI ?_ (by decide) (by decide)
  refine Bu.sR ?_ (by decide) (by decide)
  refine Bu.sN ?_
  refine Bu.sR ?_ (by decide) (by decide)
  refine Bu.sN ?_
  refine Bu.sR ?_ (by decide) (by decide)
  refine Bu.sN ?_
  refine Bu.sR ?_ (by decide) (by decide)
  refine Bu.sN ?_
  exact h
theorem bu_32 {L : Sc} {w w' : Wd} (h : Bu L 33 w w') : Bu L 37 (n32 w) (n32 w') := by
  unfold n32
  refine Bu.sI ?_ (by decide) (by decide)
  refine Bu.sI ?_ (by decide) (by decide)
  refine Bu.sI ?_ (by decide) (by decide)
  refine Bu.sI ?_ (by decide) (by decide)
  refine Bu.sR ?_ (by decide) (by decide)
  refine Bu.sN ?_
  refine Bu.sR ?_ (by decide) (by decide)
  refine Bu.sN ?_
  refine Bu.sR ?_ (by decide) (by decide)
  refine Bu.sN ?_
  refine Bu.sR ?_ (by decide) (by decide)
  refine Bu.sN ?_
  exact h
theorem bu_30 {L : Sc} {w w' : Wd} (h : Bu L 31 w w') : Bu L 37 (n30 w) (n30 w') := by
  unfold n30
  refine Bu.sR ?_ (by decide) (by decide)
  refine Bu.sI ?_ (by decide) (by decide)
  refine Bu.sI ?_ (by decide) (by decide)
  refine Bu.sI ?_ (by decide) (by decide)
  refine Bu.sR ?_ (by decide) (by decide)
  refine bu_32 ?_
  refine Bu.sN ?_
  refine Bu.sR ?_ (by decide) (by decide)
  refine Bu.sN ?_
  exact h
theorem bu_37 {L : Sc} {w w' : Wd} (h : Bu L 38 w w') : Bu L 40 (n37 w) (n37 w') := by
  unfold n37
  refine Bu.sR ?_ (by decide) (by decide)
  refine Bu.sR ?_ (by decide) (by decide)
  refine Bu.sR ?_ (by decide) (by decide)
  refine Bu.sR ?_ (by decide) (by decide)
  refine Bu.sN ?_
  refine Bu.sR ?_ (by decide) (by decide)
  refine Bu.sN ?_
  exact h
theorem bu_40 {L : Sc} {w w' : Wd} (h : Bu L 41 w w') : Bu L 42 (n40 w) (n40 w') := by
  unfold n40
  refine Bu.sR ?_ (by decide) (by decide)
  refine Bu.sR ?_ (by decide) (by decide)
  refine Bu.sR ?_ (by decide) (by decide)
  refine Bu.sR ?_ (by decide) (by decide)
  refine Bu.sL ?_
  refine Bu.sI ?_ (by decide) (by decide)
  refine Bu.sR ?_ (by decide) (by decide)
  refine Bu.sN ?_
  exact h
theorem bu_42 {L : Sc} {w w' : Wd} (h : Bu L 43 w w') : Bu L 47 (n42 w) (n42 w') := by
  unfold n42
  refine Bu.sR ?_ (by decide) (by decide)
  refine Bu.sR ?_ (by decide) (by decide)
  refine Bu.sI ?_ (by decide) (by decide)
  refine Bu.sI ?_ (by decide) (by decide)
  refine Bu.sR ?_ (by decide) (by decide)
  refine Bu.sN ?_
  refine Bu.sR ?_ (by decide) (by decide)
  refine Bu.sN ?_
  refine Bu.sR ?_ (by decide) (by decide)
  refine Bu.sN ?_
  refine Bu.sR ?_ (by decide) (by decide)
  refine Bu.sN ?_
  exact h
theorem bu_47 {L : Sc} {w w' : Wd} (h : Bu L 48 w w') : Bu L 53 (n47 w) (n47 w') := by
  unfold n47
  refine Bu.sR ?_ (by decide) (by decide)
  refine Bu.sR ?_ (by decide) (by decide)
  refine Bu.sI ?_ (by decide) (by decide)
  refine Bu.sI ?_ (by decide) (by decide)
  refine Bu.sR ?_ (by decide) (by decide)
  refine Bu.sN ?_
  refine Bu.sR ?_ (by decide) (by decide)
  refine Bu.sN ?_
  refine Bu.sR ?_ (by decide) (by decide)
  refine Bu.sN ?_
  refine Bu.sR ?_ (by decide) (by decide)
  refine Bu.sN ?_
  refine Bu.sR ?_ (by decide) (by decide)
  refine Bu.sN ?_
  exact h
theorem bu_7 {L : Sc} {w w' : Wd} (h : Bu L 8 w w') : Bu L 53 (n7 w) (n7 w') := by
  unfold n7
  refine Bu.sR ?_ (by decide) (by decide)
  refine bu_47 ?_
  refine Bu.sN ?_
  refine Bu.sR ?_ (by decide) (by decide)
  refine bu_42 ?_
  refine Bu.sN ?_
  refine Bu.sR ?_ (by decide) (by decide)
  refine bu_40 ?_
  refine Bu.sN ?_
  refine Bu.sR ?_ (by decide) (by decide)
  refine bu_37 ?_
  refine Bu.sN ?_
  refine Bu.sR ?_ (by decide) (by decide)
  refine bu_30 ?_
  refine Bu.sN ?_
  refine Bu.sR ?_ (by decide) (by decide)
  refine bu_25 ?_
  refine Bu.sN ?_
  refine Bu.sR ?_ (by decide) (by decide)
  refine bu_24 ?_
  refine Bu.sN ?_
  refine Bu.sR ?_ (by decide) (by decide)
  refine bu_20 ?_
  refine Bu.sN ?_
  refine Bu.sR ?_ (by decide) (by decide)
  refine bu_18 ?_
  refine Bu.sN ?_
  refine Bu.sR ?_ (by decide) (by decide)
  refine bu_14 ?_
  refine Bu.sN ?_
  refine Bu.sR ?_ (by decide) (by decide)
  refine bu_10 ?_
  refine Bu.sN ?_
  refine Bu.sR ?_ (by decide) (by decide)
  refine bu_8 ?_
  refine Bu.sN ?_
  exact h
theorem bu_53 {L : Sc} {w w' : Wd} (h : Bu L 54 w w') : Bu L 90 (n53 w) (n53 w') := by
  unfold n53
  refine Bu.sR ?_ (by decide) (by decide)
  refine Bu.sN ?_
  refine Bu.sR ?_ (by decide) (by decide)
  refine Bu.sN ?_
  refine Bu.sR ?_ (by decide) (by decide)
  refine Bu.sN ?_
  refine Bu.sR ?_ (by decide) (by decide)
  refine Bu.sN ?_
  refine Bu.sR ?_ (by decide) (by decide)
  refine Bu.sN ?_
  refine Bu.sR ?_ (by decide) (by decide)
  refine Bu.sN ?_
  refine Bu.sR ?_ (by decide) (by decide)
  refine Bu.sN ?_
  refine Bu.sR ?_ (by decide) (by decide)
  refine Bu.sN ?_
  refine Bu.sR ?_ (by decide) (by decide)
  refine Bu.sN ?_
  refine Bu.sR ?_ (by decide) (by decide)
  refine Bu.sN ?_
  refine Bu.sR ?_ (by decide) (by decide)
  refine Bu.sN ?_
  refine Bu.sR ?_ (by decide) (by decide)
  refine Bu.sN ?_
  refine Bu.sR ?_ (by decide) (by decide)
  refine Bu.sN ?_
  refine Bu.sR ?_ (by decide) (by decide)
  refine Bu.sN ?_
  refine Bu.sR ?_ (by decide) (by decide)
  refine Bu.sN ?_
  refine Bu.sR ?_ (by decide) (by decide)
  refine Bu.sN ?_
  refine Bu.sR ?_ (by decide) (by decide)
  refine Bu.sN ?_
  refine Bu.sI ?_ (by decide) (by decide)
  refine Bu.sR ?_ (by decide) (by decide)
  refine Bu.sN ?_
  refine Bu.sR ?_ (by decide) (by decide)
  refine Bu.sN ?_
  refine Bu.sR ?_ (by decide) (by decide)
  refine Bu.sN ?_
  refine Bu.sR ?_ (by decide) (by decide)
  refine Bu.sN ?_
  refine Bu.sR ?_ (by decide) (by decide)
  refine Bu.sN ?_
  refine Bu.sR ?_ (by decide) (by decide)
  refine Bu.sN ?_
  refine Bu.sR ?_ (by decide) (by decide)
  refine Bu.sN ?_
  refine Bu.sR ?_ (by decide) (by decide)
  refine Bu.sN ?_
  refine Bu.sR ?_ (by decide) (by decide)
  refine Bu.sN ?_
  refine Bu.sR ?_ (by decide) (by decide)
  refine Bu.sN ?_
  refine Bu.sR ?_ (by decide) (by decide)
  refine Bu.sN ?_
  refine Bu.sR ?_ (by decide) (by decide)
  refine Bu.sN ?_
  refine Bu.sR ?_ (by decide) (by decide)
  refine Bu.sN ?_
  refine Bu.sR ?_ (by decide) (by decide)
  refine Bu.sN ?_
  refine Bu.sR ?_ (by decide) (by decide)
  refine Bu.sN ?_
  refine Bu.sR ?_ (by decide) (by decide)
  refine Bu.sN ?_
  refine Bu.sR ?_ (by decide) (by decide)
  refine Bu.sN ?_
  refine Bu.sR ?_ (by decide) (by decide)
  refine Bu.sN ?_
  refine Bu.sR ?_ (by decide) (by decide)
  refine Bu.sN ?_
  exact h
def xz : Nat → Int32 := fun _ => 0
theorem bu_0 {L : Nat} {xs : Nat → Int32} : Bu (L, xs) 7 (w0 L xs) (w0 0 xz) := by
  refine ⟨rfl, rfl, Nat.le_refl _, fun _ _ => rfl, fun i hi => ?_, fun _ _ _ => rfl, fun _ _ _ => rfl, fun i hi => ?_, fun i j hi => ?_, fun j => ?_, rfl⟩
  · show (if i < 6 then stK i else if i = 6 then some (.inr (.int, L)) else none) = (if i < 6 then stK i else if i = 6 then some (.inr (.int, 0)) else none)
    rw [if_neg hi, if_neg hi]
  · show (if i < 6 then stK i else if i = 6 then some (.inr (.int, L)) else none) = none
    rw [if_neg (by omega), if_neg (by omega)]
  · show (if i < 6 then cst i j else if i = 6 then xs j else 0) = (if i = 6 then xs j else cst i j)
    by_cases z : i = 6
    · rw [if_neg (by omega), if_pos z, if_pos z]
    · rw [if_pos (by omega), if_neg z]
  · rfl
theorem bu_fin {L : Nat} {xs : Nat → Int32} : Bu (L, xs) 91 (wFin L xs) (wFin 0 xz) := by
  unfold wFin
  refine Bu.sN ?_
  refine bu_53 ?_
  unfold u53
  refine Bu.sN ?_
  refine bu_7 ?_
  unfold u7
  refine Bu.sN ?_
  exact bu_0
theorem fin_R : ∀ i, i < 91 → ∀ j, j < 60 → gR (wFin 0 xz) i j = R0 i j := by decide +kernel
theorem fin_K : ∀ i, i < 91 → i ≠ 6 → gK (wFin 0 xz) i = K0 i := by decide +kernel
theorem R0_j {i j : Nat} (h : 60 ≤ j) : R0 i j = none := by
  unfold R0
  split <;> first | rfl | omega
def S0 (L : Nat) (xs : Nat → Int32) : Sm := (fun a b => if a = 31 then (if b = 40 then 91 else 0) else gI (wFin L xs) a b, gL (wFin L xs))
def T0 (L : Nat) (xs : Nat → Int32) : Sm := (gI (wFin L xs), gL (wFin L xs))
theorem start_cw {L : Nat} {xs : Nat → Int32} : wFin L xs = cw (L, xs) (T0 L xs) (S0 L xs) := by
  obtain ⟨a1, a2, a3, a4, a5, a6, a7, a8, a9, a10, a11⟩ := bu_fin (L := L) (xs := xs)
  refine Prod.ext (funext fun a => funext fun b => ?_) (Prod.ext (funext fun a => funext fun b => ?_) (Prod.ext (funext fun a => funext fun b => ?_) (Prod.ext (funext fun a => ?_) ?_)))
  · show gI (wFin L xs) a b = (if a < 7 then (if a = 6 then xs b else cst a b) else if a = 31 then 0 else if 53 ≤ a ∧ a < 90 then gI (wFin L xs) a b else if a = 31 then (if b = 40 then 91 else 0) else gI (wFin L xs) a b)
    by_cases h1 : a < 7
    · rw [if_pos h1, a9 a b h1]
    · rw [if_neg h1]
      by_cases h2 : a = 31
      · rw [if_pos h2, h2, a10]
      · rw [if_neg h2, if_neg h2]
        split <;> rfl
  · show gL (wFin L xs) a b = (if 53 ≤ a ∧ a < 90 then gL (wFin L xs) a b else gL (wFin L xs) a b)
    split <;> rfl
  · show gR (wFin L xs) a b = (if a = 31 then (if (S0 L xs).1 31 b = 0 ∨ 40 ≤ b then none else some (ix ((S0 L xs).1 31 b))) else if a < 91 then R0 a b else if a < ix ((S0 L xs).1 31 40) ∧ (S0 L xs).1 31 (1000 + a) = 1 ∧ b < 4 then some (a + 1 + b) else none)
    have h40 : ix ((S0 L xs).1 31 40) = 91 := rfl
    rw [h40]
    by_cases h1 : a = 31
    · rw [if_pos h1, if_pos, a4, h1]
      · by_cases h6 : b < 60
        · rw [fin_R 31 (by omega) b h6]; rfl
        · rw [← a4, a6 31 b (by omega)]
      · by_cases h4 : b = 40
        · exact Or.inr (by omega)
        · exact Or.inl (if_neg h4)
    · rw [if_neg h1]
      by_cases h2 : a < 91
      · rw [if_pos h2, a4]
        by_cases h6 : b < 60
        · exact fin_R a h2 b h6
        · rw [← a4, a6 a b (by omega), R0_j (by omega)]
      · rw [if_neg h2, if_neg (by omega), a7 a b (by omega)]
  · show gK (wFin L xs) a = (if a = 6 then some (.inr (.int, L)) else if a < 91 then K0 a else if a < ix ((S0 L xs).1 31 40) then mkc ((S0 L xs).1 31 (1000 + a)) else none)
    have h40 : ix ((S0 L xs).1 31 40) = 91 := rfl
    rw [h40]
    by_cases h1 : a = 6
    · rw [if_pos h1, h1, a11]
    · rw [if_neg h1]
      by_cases h2 : a < 91
      · rw [if_pos h2, a5 a h1, fin_K a h2 h1]
      · rw [if_neg h2, if_neg h2, a8 a (by omega)]
  · exact a1
