/-! ===== views: a part of the world's numbers as a state of its own ===== -/
abbrev Sm : Type := (Nat → Nat → Int32) × (Nat → Nat → Int64)
def gi (S : Sm) (i j : Nat) : Int32 := S.1 i j
def gl (S : Sm) (i j : Nat) : Int64 := S.2 i j
def si (S : Sm) (i j : Nat) (v : Int32) : Sm := (fun a b => if a = i ∧ b = j then v else S.1 a b, S.2)
def sl (S : Sm) (i j : Nat) (v : Int64) : Sm := (S.1, fun a b => if a = i ∧ b = j then v else S.2 a b)
def sc (S : Sm) (a b n : Nat) : Sm := (fun x y => if x = b ∧ y < n then S.1 a y else S.1 x y, S.2)
abbrev inb (j : Int32) (n : Nat) : Prop := ¬ (j < 0 ∨ n ≤ j.toNatClampNeg)
abbrev ix (j : Int32) : Nat := j.toNatClampNeg
def stA : Nat → List Int32
  | 0 => [110, 116, 114, 103]
  | 1 => [0, 1, 19, 25, 29]
  | 2 => [4, 3, 0, 0, 0, 0, 1, 1, 0, 0, 0, 3, 0, 0, 0, 0]
  | 3 => [109, 99, 104, 102, 97, 99, 98, 108, 97, 99, 104, 100, 97, 0, 0, 0]
  | 4 => [1, 1, 0, 0, 0, 0, 0, 1, 0, 0, 0, 0, 0, 0, 0, 0]
  | _ => [8, 5, 23, 9, 7, 4, 8, 9, 7, 5, 99, 9, 7, 0, 0, 0]
def cst (i j : Nat) : Int32 := (stA i).getD j 0
def Vw (own : Nat → Bool) (K : Nat → Option Kd) (Rf : Nat → Nat → Option Nat) (V : Sm → Wd) : Prop :=
  (∀ i, own i = true → 7 ≤ i) ∧ (∀ S i j, own i = true → gI (V S) i j = gi S i j) ∧ (∀ S i j, own i = true → gL (V S) i j = gl S i j) ∧ (∀ S i j v, own i = true → sI (V S) i j v = V (si S i j v)) ∧ (∀ S i j v, own i = true → sL (V S) i j v = V (sl S i j v)) ∧ (∀ S a b n, own a = true → own b = true → sC (V S) a b n = V (sc S a b n)) ∧
  (∀ S i k, K i = some k → gK (V S) i = some k) ∧ (∀ S i j x, Rf i j = some x → gR (V S) i j = some x) ∧ ∀ S i j, i < 6 → gI (V S) i j = cst i j
/-- a loop: a body until it is through -/
def lpN {σ ρ : Type} (f : σ → Option (σ ⊕ ρ)) : Nat → σ → Option ρ
  | 0, _ => none
  | k + 1, s => match f s with
    | none => none
    | some (.inl s') => lpN f k s'
    | some (.inr r) => some r
def FU : Nat := 13000
theorem lpN_ind {σ ρ : Type} {f : σ → Option (σ ⊕ ρ)} (Hd : σ → Prop) (Ps : ρ → Prop) (h : ∀ s o, f s = some o → (match o with | .inl s' => Hd s' | .inr r => Ps r) → Hd s) : ∀ (k : Nat) (s : σ) (r : ρ), lpN f k s = some r → Ps r → Hd s
  | 0, s, r, e, _ => by cases e
  | k + 1, s, r, e, hp => by
    unfold lpN at e
    cases hf : f s with
    | none => rw [hf] at e; cases e
    | some o =>
      rw [hf] at e
      cases o with
      | inl s' => exact h s _ hf (lpN_ind Hd Ps h k s' r e hp)
      | inr q => exact h s _ hf (by cases e; exact hp)
theorem lpN_s {σ ρ : Type} (f : σ → Option (σ ⊕ ρ)) (k : Nat) (s : σ) : lpN f (k + 1) s = match f s with
    | none => none
    | some (.inl s') => lpN f k s'
    | some (.inr r) => some r := rfl
/-- the loop goes through n states, then ends -/
theorem lpN_run {σ ρ : Type} {f : σ → Option (σ ⊕ ρ)} (g : Nat → σ) {n : Nat} {r : ρ} (hs : ∀ i, i < n → f (g i) = some (.inl (g (i + 1)))) (he : f (g n) = some (.inr r)) : ∀ (k i : Nat), i ≤ n → n - i < k → lpN f k (g i) = some r
  | 0, _, _, h => absurd h (Nat.not_lt_zero _)
  | k + 1, i, hi, h => by
    rw [lpN_s]
    by_cases q : i = n
    · subst q; rw [he]
    · rw [hs i (by omega)]
      exact lpN_run g hs he k (i + 1) (by omega) (by omega)
theorem lpN_run0 {σ ρ : Type} {f : σ → Option (σ ⊕ ρ)} (g : Nat → σ) (n : Nat) {r : ρ} (hn : n < 13000) (hs : ∀ i, i < n → f (g i) = some (.inl (g (i + 1)))) (he : f (g n) = some (.inr r)) {s : σ} (h0 : s = g 0) : lpN f FU s = some r := by
  rw [h0]
  exact lpN_run g hs he FU 0 (Nat.zero_le _) (by unfold FU; omega)
section VR
variable {M : Mt} {l : Launch} {Γ : Gm} {R : Room} {Q : QT} {cells slots pc : Nat} {ls : List (Option Value)} {st : List Value} {own : Nat → Bool} {K : Nat → Option Kd} {Rf : Nat → Nat → Option Nat} {V : Sm → Wd} {S : Sm}
theorem v_getI (hV : Vw own K Rf V) {T : u_T} {N idx ci k i : Nat} (hd : decode M.2.1 pc = .ok (.getfield idx, 3)) (hf : FOK M.1.cls T N idx ci k) (ht : ftI (cty ci k) = true) (hk : K i = some (.inl ci)) (ho : own i = true) (kk : G M l Γ R Q cells slots (pc + 3) ls (.int (gi S i k) :: st) (V S)) : G M l Γ R Q cells slots pc ls (.ref i :: st) (V S) :=
  gw_getI hd hf ht (hV.2.2.2.2.2.2.1 S i _ hk) (by rw [hV.2.1 S i k ho]; exact kk)
theorem v_getL (hV : Vw own K Rf V) {T : u_T} {N idx ci k i : Nat} (hd : decode M.2.1 pc = .ok (.getfield idx, 3)) (hf : FOK M.1.cls T N idx ci k) (ht : cty ci k = .long) (hk : K i = some (.inl ci)) (ho : own i = true) (kk : G M l Γ R Q cells slots (pc + 3) ls (.long (gl S i k) :: st) (V S)) : G M l Γ R Q cells slots pc ls (.ref i :: st) (V S) :=
  gw_getL hd hf ht (hV.2.2.2.2.2.2.1 S i _ hk) (by rw [hV.2.2.1 S i k ho]; exact kk)
theorem v_getR (hV : Vw own K Rf V) {T : u_T} {N idx ci k i x : Nat} (hd : decode M.2.1 pc = .ok (.getfield idx, 3)) (hf : FOK M.1.cls T N idx ci k) (ht : ftR (cty ci k) = true) (hk : K i = some (.inl ci)) (hr : Rf i k = some x) (kk : G M l Γ R Q cells slots (pc + 3) ls (.ref x :: st) (V S)) : G M l Γ R Q cells slots pc ls (.ref i :: st) (V S) :=
  gw_getR hd hf ht (hV.2.2.2.2.2.2.1 S i _ hk) (hV.2.2.2.2.2.2.2.1 S i k x hr) kk
theorem v_putI (hV : Vw own K Rf V) {T : u_T} {N idx ci k i : Nat} {x : Int32} (hd : decode M.2.1 pc = .ok (.putfield idx, 3)) (hf : FOK M.1.cls T N idx ci k) (ht : cty ci k = .int) (hk : K i = some (.inl ci)) (ho : own i = true) (hfin : (T k).2.2.2 = false) (kk : G M l Γ R Q cells slots (pc + 3) ls st (V (si S i k x))) : G M l Γ R Q cells slots pc ls (.int x :: .ref i :: st) (V S) :=
  gw_putI hd hf (by rw [ht]; rfl) (hV.2.2.2.2.2.2.1 S i _ hk) (hV.1 i ho) (Or.inl hfin) (by rw [ht]; rfl) (by rw [ht]; rfl) (by rw [hV.2.2.2.1 S i k x ho]; exact kk)
theorem v_putZ (hV : Vw own K Rf V) {T : u_T} {N idx ci k i : Nat} {x : Int32} (hd : decode M.2.1 pc = .ok (.putfield idx, 3)) (hf : FOK M.1.cls T N idx ci k) (ht : cty ci k = .boolean) (hx : x = 0 ∨ x = 1) (hk : K i = some (.inl ci)) (ho : own i = true) (hfin : (T k).2.2.2 = false) (kk : G M l Γ R Q cells slots (pc + 3) ls st (V (si S i k x))) : G M l Γ R Q cells slots pc ls (.int x :: .ref i :: st) (V S) :=
  gw_putI hd hf (by rw [ht]; rfl) (hV.2.2.2.2.2.2.1 S i _ hk) (hV.1 i ho) (Or.inl hfin) (by rw [ht]; rcases hx with rfl | rfl <;> rfl) (by rw [ht]; rcases hx with rfl | rfl <;> rfl) (by rw [hV.2.2.2.1 S i k x ho]; exact kk)
theorem v_putL (hV : Vw own K Rf V) {T : u_T} {N idx ci k i : Nat} {x : Int64} (hd : decode M.2.1 pc = .ok (.putfield idx, 3)) (hf : FOK M.1.cls T N idx ci k) (ht : cty ci k = .long) (hk : K i = some (.inl ci)) (ho : own i = true) (hfin : (T k).2.2.2 = false) (kk : G M l Γ R Q cells slots (pc + 3) ls st (V (sl S i k x))) : G M l Γ R Q cells slots pc ls (.long x :: .ref i :: st) (V S) :=
  gw_putL hd hf ht (hV.2.2.2.2.2.2.1 S i _ hk) (hV.1 i ho) (Or.inl hfin) (by rw [hV.2.2.2.2.1 S i k x ho]; exact kk)
theorem v_iald (hV : Vw own K Rf V) {i n : Nat} {j : Int32} (hd : decode M.2.1 pc = .ok (.iaload, 1)) (hk : K i = some (.inr (.int, n))) (ho : own i = true) (hin : inb j n) (kk : G M l Γ R Q cells slots (pc + 1) ls (.int (gi S i (ix j)) :: st) (V S)) : G M l Γ R Q cells slots pc ls (.int j :: .ref i :: st) (V S) :=
  gw_iald hd (hV.2.2.2.2.2.2.1 S i _ hk) hin (by rw [hV.2.1 S i _ ho]; exact kk)
theorem v_zald (hV : Vw own K Rf V) {i n : Nat} {j : Int32} (hd : decode M.2.1 pc = .ok (.baload, 1)) (hk : K i = some (.inr (.boolean, n))) (ho : own i = true) (hin : inb j n) (kk : G M l Γ R Q cells slots (pc + 1) ls (.int (gi S i (ix j)) :: st) (V S)) : G M l Γ R Q cells slots pc ls (.int j :: .ref i :: st) (V S) :=
  gw_zald hd (hV.2.2.2.2.2.2.1 S i _ hk) hin (by rw [hV.2.1 S i _ ho]; exact kk)
theorem v_cald (hV : Vw own K Rf V) {i n : Nat} {j : Int32} (hd : decode M.2.1 pc = .ok (.caload, 1)) (hk : K i = some (.inr (.char, n))) (hi : i < 6) (hin : inb j n) (kk : G M l Γ R Q cells slots (pc + 1) ls (.int (cst i (ix j)) :: st) (V S)) : G M l Γ R Q cells slots pc ls (.int j :: .ref i :: st) (V S) :=
  gw_cald hd (hV.2.2.2.2.2.2.1 S i _ hk) hin (by rw [hV.2.2.2.2.2.2.2.2 S i _ hi]; exact kk)
theorem v_iast (hV : Vw own K Rf V) {i n : Nat} {j x : Int32} (hd : decode M.2.1 pc = .ok (.iastore, 1)) (hk : K i = some (.inr (.int, n))) (ho : own i = true) (hin : inb j n) (kk : G M l Γ R Q cells slots (pc + 1) ls st (V (si S i (ix j) x))) : G M l Γ R Q cells slots pc ls (.int x :: .int j :: .ref i :: st) (V S) :=
  gw_iast hd (hV.2.2.2.2.2.2.1 S i _ hk) (hV.1 i ho) hin (by rw [hV.2.2.2.1 S i _ x ho]; exact kk)
theorem v_zast (hV : Vw own K Rf V) {i n : Nat} {j x : Int32} (hd : decode M.2.1 pc = .ok (.bastore, 1)) (hk : K i = some (.inr (.boolean, n))) (ho : own i = true) (hin : inb j n) (kk : G M l Γ R Q cells slots (pc + 1) ls st (V (si S i (ix j) (x &&& 1)))) : G M l Γ R Q cells slots pc ls (.int x :: .int j :: .ref i :: st) (V S) :=
  gw_zast hd (hV.2.2.2.2.2.2.1 S i _ hk) (hV.1 i ho) hin (by rw [hV.2.2.2.1 S i _ _ ho]; exact kk)
theorem v_alen (hV : Vw own K Rf V) {i n : Nat} {ty : FieldType} {v : Int32} (hd : decode M.2.1 pc = .ok (.arraylength, 1)) (hk : K i = some (.inr (ty, n))) (t : Nat) (ht : ∀ tc : FieldType → ClassId, (tyl tc)[t]? = some (tc ty, ty)) (hv : Int32.ofNat n = v) (kk : G M l Γ R Q cells slots (pc + 1) ls (.int v :: st) (V S)) : G M l Γ R Q cells slots pc ls (.ref i :: st) (V S) :=
  gw_alen hd (hV.2.2.2.2.2.2.1 S i _ hk) t ht hv kk
end VR
/-! simplest facts of states -/
theorem gi_si (S : Sm) (i j : Nat) (v : Int32) (a b : Nat) : gi (si S i j v) a b = if a = i ∧ b = j then v else gi S a b := rfl
theorem gi_sl (S : Sm) (i j : Nat) (v : Int64) (a b : Nat) : gi (sl S i j v) a b = gi S a b := rfl
theorem gl_si (S : Sm) (i j : Nat) (v : Int32) (a b : Nat) : gl (si S i j v) a b = gl S a b := rfl
theorem gl_sl (S : Sm) (i j : Nat) (v : Int64) (a b : Nat) : gl (sl S i j v) a b = if a = i ∧ b = j then v else gl S a b := rfl
theorem gi_sc (S : Sm) (p q n : Nat) (a b : Nat) : gi (sc S p q n) a b = if a = q ∧ b < n then gi S p b else gi S a b := rfl
theorem gl_sc (S : Sm) (p q n : Nat) (a b : Nat) : gl (sc S p q n) a b = gl S a b := rfl
/-- a row that is read, written where the place is in it -/
def atF (f : Nat → Int32) (n : Nat) (i : Int32) : Int32 := if i < 0 then 0 else if Int32.ofNat n ≤ i then 0 else f (ix i)
def puF (S : Sm) (r n : Nat) (i v : Int32) : Sm := if i < 0 then S else if Int32.ofNat n ≤ i then S else si S r (ix i) v
theorem inb_of {i : Int32} {n : Nat} (hn : n < 2 ^ 31) (h1 : ¬ i < 0) (h2 : ¬ Int32.ofNat n ≤ i) : inb i n := by
  rintro (q | q)
  · exact h1 q
  · refine h2 ?_
    obtain ⟨j, hj, rfl⟩ := nI_of h1
    rw [nI_clamp hj] at q
    exact nI_le q hj
