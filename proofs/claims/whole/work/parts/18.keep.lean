/-! ===== keep and takeBack over the world of both sides ===== -/
def alS (S : Sm) (j : Nat) : Sm := (fun a b => if gNs S ≤ a ∧ a < gNs S + 5 then 0 else if a = 31 then (if b = j then nI (gNs S) else if b = 40 then nI (gNs S + 5) else if b = 1000 + gNs S then 1 else if b = 1001 + gNs S then 2 else if b = 1002 + gNs S then 3 else if b = 1003 + gNs S then 4 else if b = 1004 + gNs S then 5 else S.1 31 b) else S.1 a b, fun a b => if gNs S ≤ a ∧ a < gNs S + 5 then 0 else S.2 a b)
def bcS (S : Sm) (a b : Nat) : Sm :=
  let s1 := sc (sc (sc (sc S (b + 1) (a + 1) 56) (b + 2) (a + 2) 40) (b + 3) (a + 3) 8) (b + 4) (a + 4) 60
  let s2 := si s1 a 4 (gi s1 b 4)
  let s3 := si s2 a 5 (gi s2 b 5)
  let s4 := si s3 a 6 (gi s3 b 6)
  si s4 a 7 (gi s4 b 7)
def MoC (r : Nat → Int32) (x : Nat) : Prop := 91 ≤ x ∧ x + 5 ≤ ix (r 40) ∧ r (1000 + x) = 1 ∧ r (1000 + (x + 1)) = 2 ∧ r (1000 + (x + 2)) = 3 ∧ r (1000 + (x + 3)) = 4 ∧ r (1000 + (x + 4)) = 5
def RingOK (S : Sm) : Prop := 91 ≤ gNs S ∧ gNs S < 1000000 ∧ ∀ j, j < 40 → gi S 31 j ≠ 0 → MoC (S.1 31) (ix (gi S 31 j))
def kpS (S : Sm) : Sm :=
  let j := ix (gi S 30 5)
  let S0 := if gi S 31 j = 0 then alS S j else S
  let S1 := bcS S0 (ix (gi S0 31 j)) 25
  let S2 := si S1 30 5 (iRem (gi S1 30 5 + 1) 40)
  si S2 30 4 (iMin (gi S2 30 4 + 1) 40)
noncomputable def Ac_keep (S : Sm) : Option Sm := @ite _ (RingOK S ∧ inb (gi S 30 5) 40) (Classical.propDecidable _) (some (kpS S)) none
def kcS (S : Sm) : Nat := if gi S 31 (ix (gi S 30 5)) = 0 then 5 else 0
def ksS (S : Sm) : Nat := if gi S 31 (ix (gi S 30 5)) = 0 then 172 else 0
noncomputable def Ac_takeBack (S : Sm) : Option (Int32 × Sm) :=
  if gi S 30 4 = 0 then some (-1, S) else
    let S1 := si S 30 5 (iRem (gi S 30 5 + 40 - 1) 40)
    @ite _ (RingOK S1 ∧ inb (gi S1 30 5) 40 ∧ gi S1 31 (ix (gi S1 30 5)) ≠ 0) (Classical.propDecidable _)
      (some (let S2 := bcS S1 25 (ix (gi S1 31 (ix (gi S1 30 5)))); let S3 := si S2 30 4 (gi S2 30 4 - 1); (gi S3 30 4, S3))) none
theorem MoC.at {L : Sc} {T S : Sm} {x : Nat} (h : MoC (S.1 31) x) : MoAt (cw L T S) x (x + 1) (x + 2) (x + 3) (x + 4) := by
  obtain ⟨h1, h2, c0, c1, c2, c3, c4⟩ := h
  have kk : ∀ i, x ≤ i → i < x + 5 → gK (cw L T S) i = mkc (S.1 31 (1000 + i)) := fun i a b => (if_neg (by omega)).trans ((if_neg (by omega)).trans (if_pos (by omega)))
  have rr : ∀ k, k < 4 → gR (cw L T S) x k = some (x + 1 + k) := fun k hk => (if_neg (by omega)).trans ((if_neg (by omega)).trans (if_pos ⟨by omega, c0, hk⟩))
  refine ⟨by rw [kk x (by omega) (by omega), c0]; rfl, rr 0 (by omega), rr 1 (by omega), rr 2 (by omega), rr 3 (by omega), by rw [kk _ (by omega) (by omega), c1]; rfl, by rw [kk _ (by omega) (by omega), c2]; rfl, by rw [kk _ (by omega) (by omega), c3]; rfl, by rw [kk _ (by omega) (by omega), c4]; rfl, by omega, by omega, by omega, by omega, by omega⟩
theorem MoAt_25 {L : Sc} {T S : Sm} : MoAt (cw L T S) 25 26 27 28 29 := ⟨rfl, rfl, rfl, rfl, rfl, rfl, rfl, rfl, rfl, by decide, by decide, by decide, by decide, by decide⟩
theorem bc_eq {L : Sc} {T S : Sm} {a b : Nat} (ha : 7 ≤ a) (hb : 7 ≤ b) (ha2 : a < 27 ∨ 90 ≤ a) (hb2 : b < 27 ∨ 90 ≤ b) : bcW (cw L T S) a (a + 1) (a + 2) (a + 3) (a + 4) b (b + 1) (b + 2) (b + 3) (b + 4) = cw L T (bcS S a b) := by
  unfold bcW bcS
  rw [cw_sC (by omega) (by omega) (by omega) (by omega) (by omega) (by omega), cw_sC (by omega) (by omega) (by omega) (by omega) (by omega) (by omega), cw_sC (by omega) (by omega) (by omega) (by omega) (by omega) (by omega), cw_sC (by omega) (by omega) (by omega) (by omega) (by omega) (by omega)]
  generalize sc (sc (sc (sc S (b + 1) (a + 1) 56) (b + 2) (a + 2) 40) (b + 3) (a + 3) 8) (b + 4) (a + 4) 60 = s1
  dsimp only
  rw [cw_gI (by omega) (by omega) (by omega), cw_sI (by omega) (by omega) (by omega)]
  generalize si s1 a 4 (gi s1 b 4) = s2
  rw [cw_gI (by omega) (by omega) (by omega), cw_sI (by omega) (by omega) (by omega)]
  generalize si s2 a 5 (gi s2 b 5) = s3
  rw [cw_gI (by omega) (by omega) (by omega), cw_sI (by omega) (by omega) (by omega)]
  generalize si s3 a 6 (gi s3 b 6) = s4
  rw [cw_gI (by omega) (by omega) (by omega), cw_sI (by omega) (by omega) (by omega)]
theorem miI (w : Wd) (a b : Nat) : gI (miW (sN w (.inl 4)) (gN w)) a b = if gN w ≤ a ∧ a < gN w + 5 then 0 else gI w a b := by
  show (if a = gN w ∧ b = 7 then 0 else if a = gN w ∧ b = 6 then 0 else if a = gN w ∧ b = 5 then 0 else if a = gN w ∧ b = 4 then 0 else if a = gN w + 1 + 1 + 1 + 1 then 0 else if a = gN w + 1 + 1 + 1 then 0 else if a = gN w + 1 + 1 then 0 else if a = gN w + 1 then 0 else if a = gN w then 0 else gI w a b) = _
  by_cases h : gN w ≤ a ∧ a < gN w + 5
  · rw [if_pos h]
    repeat (first | rfl | (split; rfl))
    exfalso; omega
  · rw [if_neg h, if_neg (by omega), if_neg (by omega), if_neg (by omega), if_neg (by omega), if_neg (by omega), if_neg (by omega), if_neg (by omega), if_neg (by omega), if_neg (by omega)]
theorem miL (w : Wd) (a b : Nat) : gL (miW (sN w (.inl 4)) (gN w)) a b = if gN w ≤ a ∧ a < gN w + 5 then 0 else gL w a b := by
  show (if a = gN w + 1 + 1 + 1 + 1 then 0 else if a = gN w + 1 + 1 + 1 then 0 else if a = gN w + 1 + 1 then 0 else if a = gN w + 1 then 0 else if a = gN w then 0 else gL w a b) = _
  by_cases h : gN w ≤ a ∧ a < gN w + 5
  · rw [if_pos h]
    repeat (first | rfl | (split; rfl))
    exfalso; omega
  · rw [if_neg h, if_neg (by omega), if_neg (by omega), if_neg (by omega), if_neg (by omega), if_neg (by omega)]
theorem miK (w : Wd) (a : Nat) : gK (miW (sN w (.inl 4)) (gN w)) a = if a = gN w + 4 then some (.inr (.int, 60)) else if a = gN w + 3 then some (.inr (.int, 8)) else if a = gN w + 2 then some (.inr (.int, 40)) else if a = gN w + 1 then some (.inr (.int, 56)) else if a = gN w then some (.inl 4) else gK w a := rfl
theorem miR (w : Wd) (a b : Nat) : gR (miW (sN w (.inl 4)) (gN w)) a b = if a = gN w ∧ b < 4 then some (gN w + 1 + b) else if gN w ≤ a ∧ a < gN w + 5 then none else gR w a b := by
  show (if a = gN w ∧ b = 3 then some (gN w + 1 + 3) else if a = gN w + 1 + 1 + 1 + 1 then none else if a = gN w ∧ b = 2 then some (gN w + 1 + 2) else if a = gN w + 1 + 1 + 1 then none else if a = gN w ∧ b = 1 then some (gN w + 1 + 1) else if a = gN w + 1 + 1 then none else if a = gN w ∧ b = 0 then some (gN w + 1) else if a = gN w + 1 then none else if a = gN w then none else gR w a b) = _
  by_cases h : gN w ≤ a ∧ a < gN w + 5
  · by_cases h4 : a = gN w ∧ b < 4
    · obtain ⟨rfl, hb⟩ := h4
      refine Eq.trans ?_ (if_pos ⟨rfl, hb⟩).symm
      match b, hb with
      | 0, _ => rw [if_neg (by omega), if_neg (by omega), if_neg (by omega), if_neg (by omega), if_neg (by omega), if_neg (by omega), if_pos ⟨rfl, rfl⟩]
      | 1, _ => rw [if_neg (by omega), if_neg (by omega), if_neg (by omega), if_neg (by omega), if_pos ⟨rfl, rfl⟩]
      | 2, _ => rw [if_neg (by omega), if_neg (by omega), if_pos ⟨rfl, rfl⟩]
      | 3, _ => rw [if_pos ⟨rfl, rfl⟩]
      | b + 4, hb => omega
    · rw [if_neg h4, if_pos h, if_neg (by omega)]
      split
      · rfl
      · rw [if_neg (by omega)]
        split
        · rfl
        · rw [if_neg (by omega)]
          split
          · rfl
          · rw [if_neg (by omega)]
            split
            · rfl
            · split
              · rfl
              · exfalso; omega
  · rw [if_neg (by omega), if_neg (by omega), if_neg (by omega), if_neg (by omega), if_neg (by omega), if_neg (by omega), if_neg (by omega), if_neg (by omega), if_neg (by omega), if_neg (by omega), if_neg h]
theorem cw_r31 {L : Sc} {T S : Sm} (b : Nat) : gR (cw L T S) 31 b = if S.1 31 b = 0 ∨ 40 ≤ b then none else some (ix (S.1 31 b)) := by
  show cwR (S.1 31) 31 b = _
  unfold cwR
  rw [if_pos rfl]
theorem cw_r31' {L : Sc} {T S : Sm} {k : Nat} (hk : k < 40) : gR (cw L T S) 31 k = if gi S 31 k = 0 then none else some (ix (gi S 31 k)) := by
  rw [cw_r31]
  show (if gi S 31 k = 0 ∨ 40 ≤ k then none else some (ix (gi S 31 k))) = _
  by_cases z : gi S 31 k = 0
  · rw [if_pos z, if_pos (Or.inl z)]
  · rw [if_neg z, if_neg (by rintro (q | q); exact z q; omega)]
theorem al_31 {S : Sm} {j : Nat} (hn : 91 ≤ gNs S) (b : Nat) : (alS S j).1 31 b = if b = j then nI (gNs S) else if b = 40 then nI (gNs S + 5) else if b = 1000 + gNs S then 1 else if b = 1001 + gNs S then 2 else if b = 1002 + gNs S then 3 else if b = 1003 + gNs S then 4 else if b = 1004 + gNs S then 5 else S.1 31 b :=
  (if_neg (by omega)).trans (if_pos rfl)
theorem al_eq {L : Sc} {T S : Sm} {j : Nat} (hn : 91 ≤ gNs S) (hb : gNs S < 1000000) (hj : j < 40) : sR (miW (sN (cw L T S) (.inl 4)) (gN (cw L T S))) 31 j (some (gN (cw L T S))) = cw L T (alS S j) := by
  have hN : gN (cw L T S) = gNs S := rfl
  have h40 : ix ((alS S j).1 31 40) = gNs S + 5 := by
    rw [al_31 hn, if_neg (by omega), if_pos rfl]
    exact nI_clamp (by omega)
  have hlow : ∀ b, b ≠ j → b < 40 → (alS S j).1 31 b = S.1 31 b := fun b h1 h2 => by
    rw [al_31 hn, if_neg h1, if_neg (by omega), if_neg (by omega), if_neg (by omega), if_neg (by omega), if_neg (by omega), if_neg (by omega)]
  have hcode : ∀ i, i < gNs S → 91 ≤ i → (alS S j).1 31 (1000 + i) = S.1 31 (1000 + i) := fun i h1 h2 => by
    rw [al_31 hn, if_neg (by omega), if_neg (by omega), if_neg (by omega), if_neg (by omega), if_neg (by omega), if_neg (by omega), if_neg (by omega)]
  have k0 : (alS S j).1 31 (1000 + gNs S) = 1 := by rw [al_31 hn, if_neg (by omega), if_neg (by omega), if_pos rfl]
  have k1 : (alS S j).1 31 (1000 + (gNs S + 1)) = 2 := by rw [al_31 hn, if_neg (by omega), if_neg (by omega), if_neg (by omega), if_pos (by omega)]
  have k2 : (alS S j).1 31 (1000 + (gNs S + 2)) = 3 := by rw [al_31 hn, if_neg (by omega), if_neg (by omega), if_neg (by omega), if_neg (by omega), if_pos (by omega)]
  have k3 : (alS S j).1 31 (1000 + (gNs S + 3)) = 4 := by rw [al_31 hn, if_neg (by omega), if_neg (by omega), if_neg (by omega), if_neg (by omega), if_neg (by omega), if_pos (by omega)]
  have k4 : (alS S j).1 31 (1000 + (gNs S + 4)) = 5 := by rw [al_31 hn, if_neg (by omega), if_neg (by omega), if_neg (by omega), if_neg (by omega), if_neg (by omega), if_neg (by omega), if_pos (by omega)]
  refine Prod.ext (funext fun a => funext fun b => ?_) (Prod.ext (funext fun a => funext fun b => ?_) (Prod.ext (funext fun a => funext fun b => ?_) (Prod.ext (funext fun a => ?_) ?_)))
  · show gI (miW (sN (cw L T S) (.inl 4)) (gN (cw L T S))) a b = (if a < 7 then (if a = 6 then L.2 b else cst a b) else if a = 31 then 0 else if 53 ≤ a ∧ a < 90 then T.1 a b else (alS S j).1 a b)
    rw [miI, hN]
    show _ = (if a < 7 then (if a = 6 then L.2 b else cst a b) else if a = 31 then 0 else if 53 ≤ a ∧ a < 90 then T.1 a b else (if gNs S ≤ a ∧ a < gNs S + 5 then 0 else if a = 31 then _ else S.1 a b))
    by_cases h : gNs S ≤ a ∧ a < gNs S + 5
    · rw [if_pos h, if_neg (by omega), if_neg (by omega), if_neg (by omega), if_pos h]
    · rw [if_neg h]
      show (if a < 7 then (if a = 6 then L.2 b else cst a b) else if a = 31 then 0 else if 53 ≤ a ∧ a < 90 then T.1 a b else S.1 a b) = _
      by_cases h1 : a < 7
      · rw [if_pos h1, if_pos h1]
      · rw [if_neg h1, if_neg h1]
        by_cases h2 : a = 31
        · rw [if_pos h2, if_pos h2]
        · rw [if_neg h2, if_neg h2]
          by_cases h3 : 53 ≤ a ∧ a < 90
          · rw [if_pos h3, if_pos h3]
          · rw [if_neg h3, if_neg h3, if_neg h, if_neg h2]
  · show gL (miW (sN (cw L T S) (.inl 4)) (gN (cw L T S))) a b = (if 53 ≤ a ∧ a < 90 then T.2 a b else (alS S j).2 a b)
    rw [miL, hN]
    show _ = (if 53 ≤ a ∧ a < 90 then T.2 a b else (if gNs S ≤ a ∧ a < gNs S + 5 then 0 else S.2 a b))
    by_cases h : gNs S ≤ a ∧ a < gNs S + 5
    · rw [if_pos h, if_neg (by omega), if_pos h]
    · rw [if_neg h, if_neg h]; rfl
  · show (if a = 31 ∧ b = j then some (gN (cw L T S)) else gR (miW (sN (cw L T S) (.inl 4)) (gN (cw L T S))) a b) = cwR ((alS S j).1 31) a b
    rw [miR, hN]
    show _ = (if a = 31 then (if (alS S j).1 31 b = 0 ∨ 40 ≤ b then none else some (ix ((alS S j).1 31 b))) else if a < 91 then R0 a b else if a < ix ((alS S j).1 31 40) ∧ (alS S j).1 31 (1000 + a) = 1 ∧ b < 4 then some (a + 1 + b) else none)
    rw [h40]
    by_cases h1 : a = 31
    · subst h1
      rw [if_pos (rfl : (31 : Nat) = 31)]
      by_cases h2 : b = j
      · subst h2
        rw [if_pos ⟨rfl, rfl⟩, al_31 hn, if_pos rfl, if_neg (by rintro (q | q); exact nI_ne0 (by omega) (by omega) q; omega), show ix (nI (gNs S)) = gNs S from nI_clamp (by omega)]
      · rw [if_neg (fun q => h2 q.2), if_neg (by omega), if_neg (by omega)]
        rw [cw_r31]
        by_cases h3 : b < 40
        · rw [hlow b h2 h3]
        · rw [if_pos (Or.inr (by omega)), if_pos (Or.inr (by omega))]
    · rw [if_neg (fun q => h1 q.1), if_neg h1]
      by_cases h2 : a < 91
      · rw [if_neg (by omega), if_neg (by omega), if_pos h2]
        exact (if_neg h1).trans (if_pos h2)
      · rw [if_neg h2]
        by_cases h3 : gNs S ≤ a ∧ a < gNs S + 5
        · by_cases h4 : a = gNs S ∧ b < 4
          · obtain ⟨e, hb4⟩ := h4
            rw [if_pos ⟨e, hb4⟩, if_pos ⟨by omega, by rw [e]; exact k0, hb4⟩, e]
          · rw [if_neg h4, if_pos h3, if_neg]
            rintro ⟨q1, q2, q3⟩
            rcases (by omega : a = gNs S ∨ a = gNs S + 1 ∨ a = gNs S + 2 ∨ a = gNs S + 3 ∨ a = gNs S + 4) with e | e | e | e | e
            · exact h4 ⟨e, q3⟩
            · rw [e, k1] at q2; exact absurd q2 (by decide)
            · rw [e, k2] at q2; exact absurd q2 (by decide)
            · rw [e, k3] at q2; exact absurd q2 (by decide)
            · rw [e, k4] at q2; exact absurd q2 (by decide)
        · rw [if_neg (by omega), if_neg h3]
          refine (if_neg h1).trans ((if_neg h2).trans ?_)
          show (if a < gNs S ∧ S.1 31 (1000 + a) = 1 ∧ b < 4 then some (a + 1 + b) else none) = _
          by_cases h5 : a < gNs S
          · rw [hcode a h5 (by omega)]
            by_cases h6 : S.1 31 (1000 + a) = 1 ∧ b < 4
            · rw [if_pos ⟨h5, h6⟩, if_pos ⟨by omega, h6⟩]
            · rw [if_neg (fun q => h6 q.2), if_neg (fun q => h6 q.2)]
          · rw [if_neg (fun q => h5 q.1), if_neg (by omega)]
  · show gK (miW (sN (cw L T S) (.inl 4)) (gN (cw L T S))) a = (if a = 6 then some (.inr (.int, L.1)) else if a < 91 then K0 a else if a < ix ((alS S j).1 31 40) then mkc ((alS S j).1 31 (1000 + a)) else none)
    rw [miK, hN, h40]
    by_cases h3 : gNs S ≤ a ∧ a < gNs S + 5
    · rw [if_neg (by omega : ¬ a = 6), if_neg (by omega : ¬ a < 91), if_pos h3.2]
      rcases (by omega : a = gNs S ∨ a = gNs S + 1 ∨ a = gNs S + 2 ∨ a = gNs S + 3 ∨ a = gNs S + 4) with e | e | e | e | e
      · rw [if_neg (by omega), if_neg (by omega), if_neg (by omega), if_neg (by omega), if_pos e, e, k0]; rfl
      · rw [if_neg (by omega), if_neg (by omega), if_neg (by omega), if_pos e, e, k1]; rfl
      · rw [if_neg (by omega), if_neg (by omega), if_pos e, e, k2]; rfl
      · rw [if_neg (by omega), if_pos e, e, k3]; rfl
      · rw [if_pos e, e, k4]; rfl
    · rw [if_neg (by omega), if_neg (by omega), if_neg (by omega), if_neg (by omega), if_neg (by omega)]
      show (if a = 6 then some (.inr (.int, L.1)) else if a < 91 then K0 a else if a < gNs S then mkc (S.1 31 (1000 + a)) else none) = _
      by_cases h1 : a = 6
      · rw [if_pos h1, if_pos h1]
      · rw [if_neg h1, if_neg h1]
        by_cases h2 : a < 91
        · rw [if_pos h2, if_pos h2]
        · rw [if_neg h2, if_neg h2]
          by_cases h5 : a < gNs S
          · rw [if_pos h5, if_pos (by omega), hcode a h5 (by omega)]
          · rw [if_neg h5, if_neg (by omega)]
  · show gNs S + 1 + 1 + 1 + 1 + 1 = ix ((alS S j).1 31 40)
    rw [h40]
set_option maxRecDepth 4000 in
theorem r_Ac_keep {L : Sc} {T S q : Sm} (h : Ac_keep S = some q) : Runs 3 mX0_keep [.ref 30] (cw L T S) none (cw L T q) (kcS S) (ksS S) := by
  unfold Ac_keep at h
  by_cases hc : RingOK S ∧ inb (gi S 30 5) 40
  rotate_left
  · rw [if_neg hc] at h; cases h
  rw [if_pos hc] at h
  cases h
  obtain ⟨⟨hn, hb, hring⟩, hin⟩ := hc
  have hj : ix (gi S 30 5) < 40 := Nat.not_le.mp fun q => hin (Or.inr q)
  have hr31 : ∀ k, k < 40 → gR (cw L T S) 31 k = if gi S 31 k = 0 then none else some (ix (gi S 31 k)) := fun k hk => cw_r31' hk
  refine Runs.of2 [some (.ref 30)] 0 rfl rfl (Nat.le_of_ble_eq_true rfl) (fun l Γ => ?_)
  refine g_aload_n (pc := 0) dX0_keep_0 rfl ?_
  refine g_aload_n (pc := 1) dX0_keep_1 rfl ?_
  refine v_getI (cw_ok L T) (pc := 2) dX0_keep_2 fo_0_5 rfl k0_30 own_30 ?_
  generalize hS0 : (if gi S 31 (ix (gi S 30 5)) = 0 then alS S (ix (gi S 30 5)) else S) = S0
  have key : Runs 2 mX0_aheadAt [.ref 30, .int (gi S 30 5)] (cw L T S) (some (.ref (ix (gi S0 31 (ix (gi S 30 5)))))) (cw L T S0) (kcS S) (ksS S) := by
    refine r_Ac_aheadAt rfl rfl rfl (by show 31 < gNs S; omega) hin ?_
    by_cases z : gi S 31 (ix (gi S 30 5)) = 0
    · rw [if_pos z] at hS0
      subst hS0
      refine Or.inr ⟨by rw [hr31 _ hj, if_pos z], ?_, (al_eq hn hb hj).symm, if_pos z, if_pos z⟩
      show ix ((alS S (ix (gi S 30 5))).1 31 (ix (gi S 30 5))) = gNs S
      rw [al_31 hn, if_pos rfl]
      exact nI_clamp (by omega)
    · rw [if_neg z] at hS0
      subst hS0
      exact Or.inl ⟨by rw [hr31 _ hj, if_neg z], rfl, if_neg z, if_neg z⟩
  have hM : MoC (S0.1 31) (ix (gi S0 31 (ix (gi S 30 5)))) := by
    by_cases z : gi S 31 (ix (gi S 30 5)) = 0
    · rw [if_pos z] at hS0
      subst hS0
      rw [show ix (gi (alS S (ix (gi S 30 5))) 31 (ix (gi S 30 5))) = gNs S from by
        show ix ((alS S (ix (gi S 30 5))).1 31 (ix (gi S 30 5))) = gNs S
        rw [al_31 hn, if_pos rfl]
        exact nI_clamp (by omega)]
      refine ⟨hn, ?_, ?_, ?_, ?_, ?_, ?_⟩
      · rw [al_31 hn, if_neg (by omega), if_pos rfl, show ix (nI (gNs S + 5)) = gNs S + 5 from nI_clamp (by omega)]; exact Nat.le_refl _
      · rw [al_31 hn, if_neg (by omega), if_neg (by omega), if_pos rfl]
      · rw [al_31 hn, if_neg (by omega), if_neg (by omega), if_neg (by omega), if_pos (by omega)]
      · rw [al_31 hn, if_neg (by omega), if_neg (by omega), if_neg (by omega), if_neg (by omega), if_pos (by omega)]
      · rw [al_31 hn, if_neg (by omega), if_neg (by omega), if_neg (by omega), if_neg (by omega), if_neg (by omega), if_pos (by omega)]
      · rw [al_31 hn, if_neg (by omega), if_neg (by omega), if_neg (by omega), if_neg (by omega), if_neg (by omega), if_neg (by omega), if_pos (by omega)]
    · rw [if_neg z] at hS0
      subst hS0
      exact hring _ hj z
  generalize hx : ix (gi S0 31 (ix (gi S 30 5))) = x at key hM
  refine g_callV (Mc := mX0_aheadAt) (As := [.int (gi S 30 5)]) (rest := []) (q := (RX0, TX0, 6)) (pc := 5) dX0_keep_5 mK_X0_36 mf_X0_aheadAt.1 mf_X0_aheadAt.2.1 mf_X0_aheadAt.2.2 rfl rfl rfl rfl rfl (Nat.le_of_ble_eq_true rfl) ⟨Nat.le_of_ble_eq_true rfl, Nat.le_of_ble_eq_true rfl⟩ ⟨by show 0 + kcS S ≤ kcS S; omega, by show 0 + ksS S ≤ ksS S; omega⟩ key ?_
  show G _ _ _ _ _ _ _ _ _ [.ref x] _
  refine g_aload_n (pc := 8) dX0_keep_8 rfl ?_
  refine v_getR (cw_ok L T) (pc := 9) dX0_keep_9 fo_0_0 rfl k0_30 r0_30_0 ?_
  have hb1 := bc_eq (L := L) (T := T) (S := S0) (a := x) (b := 25) (by have := hM.1; omega) (by omega) (Or.inr (by have := hM.1; omega)) (Or.inl (by omega))
  have run2 := r_Mo_become (hM.at (L := L) (T := T) (S := S0)) (MoAt_25 (L := L) (T := T) (S := S0))
  rw [hb1] at run2
  have hkx : gK (cw L T S0) x = some (.inl 4) := (hM.at (L := L) (T := T) (S := S0)).1
  refine g_callV (Mc := mX4_become) (As := [.ref 25]) (rest := []) (b := x) (q := (RX4, TX4, 8)) (pc := 12) dX0_keep_12 mK_X0_40 mf_X4_become.1 mf_X4_become.2.1 mf_X4_become.2.2 rfl hkx rfl rfl rfl (Nat.le_of_ble_eq_true rfl) ⟨Nat.le_of_ble_eq_true rfl, Nat.le_of_ble_eq_true rfl⟩ ⟨by show 0 + kcS S + 0 ≤ kcS S; omega, by show 0 + ksS S + 0 ≤ ksS S; omega⟩ run2 ?_
  show G _ _ _ _ _ _ _ _ _ [] _
  have hfin : kpS S = (let S2 := si (bcS S0 x 25) 30 5 (iRem (gi (bcS S0 x 25) 30 5 + 1) 40); si S2 30 4 (iMin (gi S2 30 4 + 1) 40)) := by
    unfold kpS
    dsimp only
    rw [hS0, hx]
  rw [hfin]
  generalize bcS S0 x 25 = S1
  dsimp only
  refine g_aload_n (pc := 15) dX0_keep_15 rfl ?_
  refine g_aload_n (pc := 16) dX0_keep_16 rfl ?_
  refine v_getI (cw_ok L T) (pc := 17) dX0_keep_17 fo_0_5 rfl k0_30 own_30 ?_
  refine g_iconst (v := 1) (pc := 20) dX0_keep_20 (by decide) ?_
  refine g_iadd (pc := 21) dX0_keep_21 ?_
  refine g_bipush (v := 40) (pc := 22) dX0_keep_22 (by decide) ?_
  refine g_irem (pc := 24) dX0_keep_24 (by decide) ?_
  refine v_putI (cw_ok L T) (pc := 25) dX0_keep_25 fo_0_5 rfl k0_30 own_30 rfl ?_
  refine g_aload_n (pc := 28) dX0_keep_28 rfl ?_
  refine g_aload_n (pc := 29) dX0_keep_29 rfl ?_
  refine v_getI (cw_ok L T) (pc := 30) dX0_keep_30 fo_0_4 rfl k0_30 own_30 ?_
  refine g_iconst (v := 1) (pc := 33) dX0_keep_33 (by decide) ?_
  refine g_iadd (pc := 34) dX0_keep_34 ?_
  refine g_bipush (v := 40) (pc := 35) dX0_keep_35 (by decide) ?_
  refine g_iMin (pc := 37) dX0_keep_37 mK_X0_44 ⟨Nat.le_of_ble_eq_true rfl, Nat.le_of_ble_eq_true rfl⟩ (by show 0 + kcS S + 0 ≤ kcS S; omega) (by show 0 + ksS S + 0 ≤ ksS S; omega) ?_
  refine v_putI (cw_ok L T) (pc := 40) dX0_keep_40 fo_0_4 rfl k0_30 own_30 rfl ?_
  exact g_vret (pc := 43) dX0_keep_43 rfl (by show 0 + kcS S + 0 ≤ kcS S; omega) (by show 0 + ksS S + 0 ≤ ksS S; omega)
set_option maxRecDepth 4000 in
theorem r_Ac_takeBack {L : Sc} {T S : Sm} {q : Int32 × Sm} (h : Ac_takeBack S = some q) : Runs 3 mX0_takeBack [.ref 30] (cw L T S) (some (.int q.1)) (cw L T q.2) 0 0 := by
  unfold Ac_takeBack at h
  refine Runs.of2 [some (.ref 30)] 0 rfl rfl (Nat.le_of_ble_eq_true rfl) (fun l Γ => ?_)
  refine g_aload_n (pc := 0) dX0_takeBack_0 rfl ?_
  refine v_getI (cw_ok L T) (pc := 1) dX0_takeBack_1 fo_0_4 rfl k0_30 own_30 ?_
  refine g_if_ne (tgt := 9) (pc := 4) dX0_takeBack_4 (by decide) (fun c => ?_) (fun c => ?_)
  rotate_left
  · rw [if_pos c] at h
    cases h
    refine g_iconst (v := -1) (pc := 7) dX0_takeBack_7 (by decide) ?_
    exact g_iret (pc := 8) dX0_takeBack_8 rfl rfl (Nat.le_refl _) (Nat.le_refl _)
  · rw [if_neg c] at h
    dsimp only at h
    generalize hS1 : si S 30 5 (iRem (gi S 30 5 + 40 - 1) 40) = S1 at h
    by_cases hc : RingOK S1 ∧ inb (gi S1 30 5) 40 ∧ gi S1 31 (ix (gi S1 30 5)) ≠ 0
    rotate_left
    · rw [if_neg hc] at h; cases h
    rw [if_pos hc] at h
    cases h
    obtain ⟨⟨hn, hb, hring⟩, hin, hz⟩ := hc
    have hj : ix (gi S1 30 5) < 40 := Nat.not_le.mp fun q => hin (Or.inr q)
    have hM := hring _ hj hz
    refine g_aload_n (pc := 9) dX0_takeBack_9 rfl ?_
    refine g_aload_n (pc := 10) dX0_takeBack_10 rfl ?_
    refine v_getI (cw_ok L T) (pc := 11) dX0_takeBack_11 fo_0_5 rfl k0_30 own_30 ?_
    refine g_bipush (v := 40) (pc := 14) dX0_takeBack_14 (by decide) ?_
    refine g_iadd (pc := 16) dX0_takeBack_16 ?_
    refine g_iconst (v := 1) (pc := 17) dX0_takeBack_17 (by decide) ?_
    refine g_isub (pc := 18) dX0_takeBack_18 ?_
    refine g_bipush (v := 40) (pc := 19) dX0_takeBack_19 (by decide) ?_
    refine g_irem (pc := 21) dX0_takeBack_21 (by decide) ?_
    refine v_putI (cw_ok L T) (pc := 22) dX0_takeBack_22 fo_0_5 rfl k0_30 own_30 rfl ?_
    rw [hS1]
    refine g_aload_n (pc := 25) dX0_takeBack_25 rfl ?_
    refine v_getR (cw_ok L T) (pc := 26) dX0_takeBack_26 fo_0_0 rfl k0_30 r0_30_0 ?_
    refine g_aload_n (pc := 29) dX0_takeBack_29 rfl ?_
    refine g_aload_n (pc := 30) dX0_takeBack_30 rfl ?_
    refine v_getI (cw_ok L T) (pc := 31) dX0_takeBack_31 fo_0_5 rfl k0_30 own_30 ?_
    have key : Runs 2 mX0_aheadAt [.ref 30, .int (gi S1 30 5)] (cw L T S1) (some (.ref (ix (gi S1 31 (ix (gi S1 30 5)))))) (cw L T S1) 0 0 := by
      refine r_Ac_aheadAt rfl rfl rfl (by show 31 < gNs S1; omega) hin (Or.inl ⟨?_, rfl, rfl, rfl⟩)
      rw [cw_r31' hj, if_neg hz]
    generalize hx : ix (gi S1 31 (ix (gi S1 30 5))) = x at key hM
    refine g_callV (Mc := mX0_aheadAt) (As := [.int (gi S1 30 5)]) (rest := [.ref 25]) (q := (RX0, TX0, 6)) (pc := 34) dX0_takeBack_34 mK_X0_36 mf_X0_aheadAt.1 mf_X0_aheadAt.2.1 mf_X0_aheadAt.2.2 rfl rfl rfl rfl rfl (Nat.le_of_ble_eq_true rfl) ⟨Nat.le_of_ble_eq_true rfl, Nat.le_of_ble_eq_true rfl⟩ ⟨Nat.le_refl _, Nat.le_refl _⟩ key ?_
    show G _ _ _ _ _ 0 0 _ _ [.ref x, .ref 25] _
    have hb1 := bc_eq (L := L) (T := T) (S := S1) (a := 25) (b := x) (by omega) (by have := hM.1; omega) (Or.inl (by omega)) (Or.inr (by have := hM.1; omega))
    have run2 := r_Mo_become (MoAt_25 (L := L) (T := T) (S := S1)) (hM.at (L := L) (T := T) (S := S1))
    rw [hb1] at run2
    refine g_callV (Mc := mX4_become) (As := [.ref x]) (rest := []) (b := 25) (q := (RX4, TX4, 8)) (pc := 37) dX0_takeBack_37 mK_X0_40 mf_X4_become.1 mf_X4_become.2.1 mf_X4_become.2.2 rfl rfl rfl rfl rfl (Nat.le_of_ble_eq_true rfl) ⟨Nat.le_of_ble_eq_true rfl, Nat.le_of_ble_eq_true rfl⟩ ⟨Nat.le_refl _, Nat.le_refl _⟩ run2 ?_
    show G _ _ _ _ _ 0 0 _ _ [] _
    generalize bcS S1 25 x = S2
    dsimp only
    refine g_aload_n (pc := 40) dX0_takeBack_40 rfl ?_
    refine g_dup (pc := 41) dX0_takeBack_41 rfl ?_
    refine v_getI (cw_ok L T) (pc := 42) dX0_takeBack_42 fo_0_4 rfl k0_30 own_30 ?_
    refine g_iconst (v := 1) (pc := 45) dX0_takeBack_45 (by decide) ?_
    refine g_isub (pc := 46) dX0_takeBack_46 ?_
    refine v_putI (cw_ok L T) (pc := 47) dX0_takeBack_47 fo_0_4 rfl k0_30 own_30 rfl ?_
    refine g_aload_n (pc := 50) dX0_takeBack_50 rfl ?_
    refine v_getI (cw_ok L T) (pc := 51) dX0_takeBack_51 fo_0_4 rfl k0_30 own_30 ?_
    exact g_iret (pc := 54) dX0_takeBack_54 rfl rfl (Nat.le_refl _) (Nat.le_refl _)
