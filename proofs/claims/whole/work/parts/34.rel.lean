/-! ===== what holds between both sides ===== -/
/-- where a dark leads and how long it takes, by the reference's numbers -/
def Ld (M : Nat → Int32) (m c : Nat) : Nat := if c = 5 ∨ M (5 * m + c) < 0 then m else ix (M (5 * m + c))
def Ln (M : Nat → Int32) (m c : Nat) : Nat := if c = 5 ∨ M (5 * m + c) < 0 then 1 else ix (M (40 + (5 * m + c)))
def DkR (N : Nat) (U : List Nat) (len M ld : Nat → Int32) : Prop := ∀ m c, m < 8 → c < 5 → ((M (5 * m + c) = mI2 ∧ ld (5 * m + c) = mI ∧ 5 * m + c ∈ U) ∨ (M (5 * m + c) = mI ∧ ld (5 * m + c) = nI m ∧ len (5 * m + c) = nI 1) ∨ ∃ a, a < N ∧ M (5 * m + c) = nI a ∧ ld (5 * m + c) = nI a) ∧ M (40 + (5 * m + c)) = len (5 * m + c) ∧ ∃ l, 1 ≤ l ∧ l ≤ 9 ∧ len (5 * m + c) = nI l
def TnR (N K h : Nat) (M tr : Nat → Int32) (r : Nat) : Prop := ∃ m c s t d, m < N ∧ (c < K ∨ c = 5) ∧ s ≤ h + 99 ∧ t ≤ h + 99 ∧ d ≤ 9 ∧ (M (88 + 6 * r) = nI m ∧ tr (7 * r) = nI m) ∧ (M (88 + 6 * r + 1) = nI c ∧ tr (7 * r + 1) = nI c) ∧ (M (88 + 6 * r + 2) = nI s ∧ tr (7 * r + 3) = nI s) ∧ (M (88 + 6 * r + 3) = nI t ∧ tr (7 * r + 2) = nI t) ∧ (M (88 + 6 * r + 4) = nI d ∧ tr (7 * r + 4) = nI d) ∧ ((M (88 + 6 * r + 5) = mI ∧ tr (7 * r + 5) = nI 0) ∨ ∃ u, h ≤ u ∧ u ≤ h + 9 ∧ M (88 + 6 * r + 5) = nI u ∧ tr (7 * r + 5) = nI 1 ∧ tr (7 * r + 6) = nI u)
def LgR (M lg : Nat → Int32) (q : Nat) : Prop := ∀ i, i < min q 60 → ∃ r m t, r < 8 ∧ m < 8 ∧ t ≤ 9999 ∧ M (140 + 3 * i) = nI r ∧ M (140 + 3 * i + 1) = nI m ∧ M (140 + 3 * i + 2) = nI t ∧ lg ((q - min q 60 + i) % 60) = nI ((t * 8 + m) * 8 + r)
def MoN (N K n h q : Nat) (M tr gd lg ob : Nat → Int32) : Prop := (∀ m, m < 8 → ∃ g, g ≤ 9 ∧ M (80 + m) = nI g ∧ gd m = nI g) ∧ n ≤ 8 ∧ h ≤ 9999 ∧ q ≤ 8 * h ∧ (M 136 = nI n ∧ ob 4 = nI n) ∧ (M 137 = nI h ∧ ob 5 = nI h) ∧ M 138 = ob 6 ∧ (M 139 = nI (min q 60) ∧ ob 7 = nI q) ∧ (∀ r, r < n → TnR N K h M tr r) ∧ LgR M lg q
/-- a moment: the reference's 320 numbers, the class's object -/
def MoR (N K : Nat) (U : List Nat) (len M tr ld gd lg ob : Nat → Int32) : Prop := (0 < N → DkR N U len M ld) ∧ ∃ n h q, MoN N K n h q M tr gd lg ob
def NetR (N K F : Nat) (T S : Sm) : Prop := gi S 11 0 = nI N ∧ gi S 11 1 = nI K ∧ gi S 11 3 = nI F ∧ gi T 68 0 = nI N ∧ gi T 68 1 = nI K ∧ gi T 68 3 = nI F ∧ N ≤ 8 ∧ K ≤ 5 ∧ F ≤ 9 ∧ (N = 0 ↔ K = 0)
def TldR (N K R : Nat) (T S : Sm) : Prop := R ≤ 6 ∧ gi S 12 2 = nI R ∧ gi T 53 26 = nI R ∧ ∀ r, r < R → ∃ m c s d, m < N ∧ (c < K ∨ c = 5) ∧ s ≤ 99 ∧ d ≤ 9 ∧ (gi S 11 (76 + 4 * r) = nI m ∧ gi T 69 (4 * r) = nI m) ∧ (gi S 11 (76 + 4 * r + 1) = nI c ∧ gi T 69 (4 * r + 1) = nI c) ∧ (gi S 11 (76 + 4 * r + 2) = nI s ∧ gi T 69 (4 * r + 2) = nI s) ∧ gi S 11 (76 + 4 * r + 3) = nI d ∧ gi T 69 (4 * r + 3) = nI d
/-- the darks of the tunnels that were not known when told, in order -/
def UnkR (N K : Nat) (U : List Nat) (T S : Sm) : Prop := U.Nodup ∧ U.length ≤ 4 ∧ gi T 53 30 = nI U.length ∧ (∀ j, j < U.length → ∃ m c, m < N ∧ c < K ∧ U[j]? = some (5 * m + c) ∧ gi T 71 j = nI m ∧ gi T 72 j = nI c) ∧ ∃ (t : Nat) (dk : Nat → Nat), t ≤ 18 ∧ gi S 12 1 = nI t ∧ (∀ i, i < t → ∃ m c, m < N ∧ c < K ∧ dk i = 5 * m + c ∧ gi S 11 (4 + 4 * i) = nI m ∧ gi S 11 (4 + 4 * i + 1) = nI c) ∧ (List.range t).filterMap (fun i => if dk i ∈ U then some (dk i) else none) = U
/-- the acts that can be undone -/
def slot (x a j : Nat) : Nat := (x + 40 - a + j) % 40
def MoK (N K : Nat) (U : List Nat) (len M : Nat → Int32) (S : Sm) (b : Nat) : Prop := MoR N K U len M (S.1 (b + 1)) (S.1 (b + 2)) (S.1 (b + 3)) (S.1 (b + 4)) (S.1 b)
def RngR (S : Sm) (w : Nat) : Prop := RingOK S ∧ (∀ i j, i < 40 → j < 40 → i ≠ j → gi S 31 i ≠ 0 → gi S 31 j ≠ 0 → ix (gi S 31 i) + 5 ≤ ix (gi S 31 j) ∨ ix (gi S 31 j) + 5 ≤ ix (gi S 31 i)) ∧ gNs S + 5 * ((List.range 40).filter fun j => gi S 31 j = 0).length ≤ 91 + 200 + w
def KepR (N K : Nat) (U : List Nat) (T S : Sm) : Prop := ∃ a x, a ≤ 40 ∧ x < 40 ∧ gi T 53 34 = nI a ∧ gi S 30 4 = nI a ∧ gi S 30 5 = nI x ∧ ∀ j, j < a → gi S 31 (slot x a j) ≠ 0 ∧ MoK N K U (S.1 13) (fun k => gi T 73 (320 * j + k)) S (ix (gi S 31 (slot x a j)))
def ImgR (N K : Nat) (U : List Nat) (T S : Sm) : Prop := gi T 53 57 = gi S 30 3 ∧ (gi S 30 3 = nI 0 ∨ gi S 30 3 = nI 1 ∧ 0 < N ∧ MoR N K U (S.1 13) (T.1 89) (S.1 33) (S.1 34) (S.1 35) (S.1 36) (S.1 32))
def StrR (N K : Nat) (T S : Sm) : Prop := ∃ l, l ≤ 10 ∧ gi T 53 49 = nI l ∧ gi S 42 6 = nI l ∧ ∀ i, i < l → ∃ m c k t, m < N ∧ c < K ∧ 1 ≤ k ∧ k ≤ 4 ∧ t < N ∧ (gi S 43 (4 * i) = nI m ∧ gi T 81 i = nI m) ∧ (gi S 43 (4 * i + 1) = nI c ∧ gi T 82 i = nI c) ∧ (gi S 43 (4 * i + 2) = nI k ∧ gi T 83 i = nI k) ∧ gi S 43 (4 * i + 3) = nI t ∧ gi T 84 i = nI t
def TapR (T S : Sm) : Prop := ∃ n, n ≤ 240 ∧ gi T 53 2 = nI n ∧ gi S 8 1 = nI n ∧ ∀ i, i < n → ∃ b, 1 ≤ b ∧ b ≤ 255 ∧ gi S 9 i = nI b ∧ gi T 54 i = nI b
def FogR (T S : Sm) : Prop := ∃ f, f ≤ 99 ∧ gi T 53 32 = nI f ∧ gi S 40 5 = nI f
/-- laws: tokens (kind, value) as the reference has them; the class's code of one -/
abbrev Tk : Type := Nat × Nat
def tkC (t : Tk) : Int32 := match t.1 with
  | 0 => nI t.2
  | 1 => (match t.2 with | 0 => -99 | 1 => -108 | 2 => -97 | 3 => -98 | _ => -103)
  | 2 => -43
  | 3 => -45
  | 4 => -42
  | 5 => -47
  | 6 => -61
  | 7 => -60
  | 8 => -62
  | 9 => -33
  | 10 => -38
  | _ => -124
/-- kinds on the stack while tokens are worked: true a truth, false a number -/
def rt1 (t : Tk) (st : List Bool) : Option (List Bool) := match t.1, st with
  | 0, st => if t.2 ≤ 9999 ∧ st.length < 60 then some (false :: st) else none
  | 1, st => if t.2 < 5 ∧ st.length < 60 then some (false :: st) else none
  | 2, false :: false :: st => some (false :: st)
  | 3, false :: false :: st => some (false :: st)
  | 4, false :: false :: st => some (false :: st)
  | 5, false :: false :: st => some (false :: st)
  | 6, false :: false :: st => some (true :: st)
  | 7, false :: false :: st => some (true :: st)
  | 8, false :: false :: st => some (true :: st)
  | 9, true :: st => some (true :: st)
  | 10, true :: true :: st => some (true :: st)
  | 11, true :: true :: st => some (true :: st)
  | _, _ => none
def rt : List Tk → List Bool → Option (List Bool)
  | [], st => some st
  | t :: l, st => (rt1 t st).bind (rt l)
abbrev Cl : Type := List Tk × List Tk
def clC (q : Cl) : List Int32 := (if q.1 = [] then [] else q.1.map tkC ++ [-63]) ++ (q.2.map tkC ++ [-59])
def clT (q : Cl) : List Tk := q.1 ++ q.2
def clOK (q : Cl) : Prop := (q.1 = [] ∨ rt q.1 [] = some [true]) ∧ rt q.2 [] = some [false]
/-- one law: its row with the class and with the reference -/
def LawC (l : List Cl) (i : Nat) (S : Sm) : Prop := (l.flatMap clC).length ≤ 240 ∧ gi S 22 i = nI (l.flatMap clC).length ∧ ∀ j x, (l.flatMap clC)[j]? = some x → gi S 21 (240 * i + j) = x
def LawT (l : List Cl) (i : Nat) (T : Sm) : Prop := l.length ≤ 100 ∧ (l.flatMap clT).length ≤ 500 ∧ gi T 58 i = nI l.length ∧ (∀ j x, (l.flatMap clT)[j]? = some x → gi T 55 (520 * i + j) = nI x.1 ∧ gi T 56 (520 * i + j) = nI x.2) ∧ ∀ k q, l[k]? = some q → gi T 59 (140 * i + k) = nI ((l.take k).flatMap clT).length ∧ gi T 60 (140 * i + k) = nI (((l.take k).flatMap clT).length + q.1.length) ∧ gi T 61 (140 * i + k) = nI (((l.take k).flatMap clT).length + q.1.length + q.2.length)
def LawsR (X : List (List Cl)) (T S : Sm) : Prop := X.length ≤ 4 ∧ gi T 53 13 = nI X.length ∧ gi S 20 4 = nI X.length ∧ (gi T 53 31 = gi S 20 5) ∧ (gi S 20 5 = mI ∨ ∃ h, h < X.length ∧ gi S 20 5 = nI h) ∧ ∀ i l, X[i]? = some l → LawC l i S ∧ LawT l i T ∧ ∀ q, q ∈ l → clOK q
def RelP (N K F R : Nat) (U : List Nat) (X : List (List Cl)) (w : Nat) (T S : Sm) : Prop := NetR N K F T S ∧ TldR N K R T S ∧ UnkR N K U T S ∧ MoR N K U (S.1 13) (T.1 70) (S.1 26) (S.1 27) (S.1 28) (S.1 29) (S.1 25) ∧ RngR S w ∧ KepR N K U T S ∧ ImgR N K U T S ∧ StrR N K T S ∧ TapR T S ∧ FogR T S ∧ LawsR X T S
def Rel (w : Nat) (T S : Sm) : Prop := ∃ N K F R U X, RelP N K F R U X w T S
/-! cells that a reading may leave changed -/
def scS (i j : Nat) : Bool := (i == 8 && (j == 2 || j == 3)) || i == 14 || i == 15 || i == 16 || i == 17 || i == 19 || i == 23 || (i == 20 && j == 3) || i == 38 || i == 39 || i == 41 || i == 44 || i == 45 || i == 46 || (i == 42 && j == 7) || i == 48 || i == 49 || i == 50 || i == 51 || i == 52 || i == 47 || i == 90
def scT (i j : Nat) : Bool := (i == 53 && (j == 0 || j == 3 || j == 4 || j == 5 || j == 14 || j == 21 || j == 22 || j == 23 || j == 43 || j == 44 || j == 52 || j == 53)) || i == 62 || i == 63 || i == 64 || i == 65 || i == 66 || i == 67 || i == 74 || i == 75 || i == 76 || i == 77 || i == 78 || i == 79 || i == 80 || i == 85 || i == 86 || i == 87 || i == 88
def SamS (S S' : Sm) : Prop := ∀ i j, scS i j = false → S'.1 i j = S.1 i j
def SamT (T T' : Sm) : Prop := ∀ i j, scT i j = false → T'.1 i j = T.1 i j
theorem SamS.rfl (S : Sm) : SamS S S := fun _ _ _ => by rfl
theorem SamT.rfl (T : Sm) : SamT T T := fun _ _ _ => by rfl
theorem SamS.trans {S S1 S2 : Sm} (h : SamS S S1) (h2 : SamS S1 S2) : SamS S S2 := fun i j q => (h2 i j q).trans (h i j q)
theorem SamT.trans {S S1 S2 : Sm} (h : SamT S S1) (h2 : SamT S1 S2) : SamT S S2 := fun i j q => (h2 i j q).trans (h i j q)
theorem SamS.si {S S1 : Sm} (h : SamS S S1) {i j : Nat} {v : Int32} (hc : scS i j = true) : SamS S (si S1 i j v) := fun a b q => by
  show (if a = i ∧ b = j then v else S1.1 a b) = S.1 a b
  rw [if_neg fun e => by rw [e.1, e.2, hc] at q; cases q]
  exact h a b q
theorem SamT.si {S S1 : Sm} (h : SamT S S1) {i j : Nat} {v : Int32} (hc : scT i j = true) : SamT S (si S1 i j v) := fun a b q => by
  show (if a = i ∧ b = j then v else S1.1 a b) = S.1 a b
  rw [if_neg fun e => by rw [e.1, e.2, hc] at q; cases q]
  exact h a b q
theorem SamS.sl {S S1 : Sm} (h : SamS S S1) {i j : Nat} {v : Int64} : SamS S (sl S1 i j v) := fun a b q => h a b q
theorem SamT.sl {S S1 : Sm} (h : SamT S S1) {i j : Nat} {v : Int64} : SamT S (sl S1 i j v) := fun a b q => h a b q
theorem SamS.pu {S S1 : Sm} (h : SamS S S1) {r n : Nat} {j v : Int32} (hc : ∀ j, scS r j = true) : SamS S (puF S1 r n j v) := by
  unfold puF
  split
  · exact h
  · split
    · exact h
    · exact h.si (hc _)
theorem SamS.row {S S' : Sm} (h : SamS S S') (i : Nat) (hc : ∀ j, scS i j = false) : S'.1 i = S.1 i := funext fun j => h i j (hc j)
theorem SamT.row {S S' : Sm} (h : SamT S S') (i : Nat) (hc : ∀ j, scT i j = false) : S'.1 i = S.1 i := funext fun j => h i j (hc j)
