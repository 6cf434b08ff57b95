/-! ===== what the unknown ones could be: numbers ===== -/
theorem nw_pos {a : Nat} (h : 0 < a) (ha : a < 2147483648) : ¬ nI a ≤ 0 := fun z => by have := (q_le ha (by omega)).mp (show nI a ≤ nI 0 from z); omega
def nwDg (N n x j : Nat) : Nat := x / N ^ (n - 1 - j) % N
def nwDec (N d p : Nat) : Nat := fld (fun j a => a * 10 + nwDg N d p j) d 0
def NwRow (un : List Nat) (N d p : Nat) (M f : Nat → Int32) : Prop := (∀ j u, un[j]? = some u → f u = if j < d then nI (nwDg N d p j) else mI2) ∧ ∀ k, ¬ k ∈ un → f k = M k
def NwFit (un : List Nat) (N : Nat) (M : Nat → Int32) (T : Sm) (x : Nat) : Prop := ∃ f, NwRow un N un.length x M f ∧ ∀ i l, gi T 53 49 = nI l → l ≤ 10 → i < l → wk (Ld f) (ix (gi T 82 i)) (ix (gi T 83 i)) (ix (gi T 81 i)) = ix (gi T 84 i)
noncomputable def nwB (un : List Nat) (N : Nat) (M : Nat → Int32) (T : Sm) (x : Nat) : Bool := @decide (NwFit un N M T x) (Classical.propDecidable _)
theorem nwB_t {un : List Nat} {N : Nat} {M : Nat → Int32} {T : Sm} {x : Nat} (h : NwFit un N M T x) : nwB un N M T x = true := @decide_eq_true _ (Classical.propDecidable _) h
theorem nwB_f {un : List Nat} {N : Nat} {M : Nat → Int32} {T : Sm} {x : Nat} (h : ¬ NwFit un N M T x) : nwB un N M T x = false := @decide_eq_false _ (Classical.propDecidable _) h
/-- of b's first x: how many, how often the j'th is m, the v'th one's digits -/
def nwO (N n : Nat) (b : Nat → Bool) (j m x : Nat) : Nat := cntN (fun y => b y && decide (nwDg N n y j = m)) x
def nwF (N n : Nat) (b : Nat → Bool) (v : Int32) : Nat → Int32
  | 0 => mI
  | x + 1 => if b x = true ∧ nI (cntN b x) = v then nI (nwDec N n x) else nwF N n b v x
theorem nwDg_lt {N n x j : Nat} (h : 0 < N) : nwDg N n x j < N := Nat.mod_lt _ h
theorem nwDg_s {N d p q j : Nat} (hq : q < N) (hj : j < d + 1) : nwDg N (d + 1) (p * N + q) j = if j < d then nwDg N d p j else q := by
  unfold nwDg
  have e : (p * N + q) / N = p := by
    rw [Nat.mul_comm, Nat.mul_add_div (by omega), Nat.div_eq_of_lt hq, Nat.add_zero]
  by_cases c : j < d
  · rw [if_pos c, show d + 1 - 1 - j = (d - 1 - j) + 1 by omega, Nat.pow_succ', ← Nat.div_div_eq_div_mul, e]
  · rw [if_neg c, show d + 1 - 1 - j = 0 by omega, Nat.pow_zero, Nat.div_one, Nat.mul_comm, Nat.mul_add_mod, Nat.mod_eq_of_lt hq]
theorem nwDec_s {N d p q : Nat} (hq : q < N) : nwDec N (d + 1) (p * N + q) = nwDec N d p * 10 + q := by
  show fld (fun j a => a * 10 + nwDg N (d + 1) (p * N + q) j) d 0 * 10 + nwDg N (d + 1) (p * N + q) d = _
  rw [nwDg_s hq (Nat.lt_succ_self d), if_neg (Nat.lt_irrefl d)]
  congr 2
  exact fld_ext (fun _ _ => True) trivial (fun _ _ _ _ => trivial) (fun i y hi _ => by
    show y * 10 + _ = y * 10 + _
    rw [nwDg_s hq (by omega), if_pos hi]) d (Nat.le_refl d)
theorem nwDec_lt {N n x : Nat} (h : 0 < N) (h8 : N ≤ 8) : ∀ i, i ≤ n → fld (fun j a => a * 10 + nwDg N n x j) i 0 < 10 ^ i
  | 0, _ => Nat.one_pos
  | i + 1, hi => by
    have ih := nwDec_lt (n := n) (x := x) h h8 i (by omega)
    have hd := nwDg_lt (n := n) (x := x) (j := i) h
    show fld (fun j a => a * 10 + nwDg N n x j) i 0 * 10 + nwDg N n x i < 10 ^ (i + 1)
    rw [Nat.pow_succ]; omega
theorem nwDec_b {N n x : Nat} (h : 0 < N) (h8 : N ≤ 8) (hn : n ≤ 4) : nwDec N n x < 10000 := by
  have := nwDec_lt (n := n) (x := x) h h8 n (Nat.le_refl n)
  unfold nwDec
  have h2 : 10 ^ n ≤ 10 ^ 4 := Nat.pow_le_pow_right (by decide) hn
  omega
theorem nwDec_at {N n x j : Nat} (h : 0 < N) (h8 : N ≤ 8) (hn : n ≤ 4) (hj : j < n) : nwDec N n x / 10 ^ (n - 1 - j) % 10 = nwDg N n x j := by
  obtain ⟨d, hd⟩ : ∃ d : Nat → Nat, ∀ j, d j = nwDg N n x j := ⟨_, fun _ => rfl⟩
  have hl : ∀ j, d j < 8 := fun j => by rw [hd]; exact Nat.lt_of_lt_of_le (nwDg_lt h) h8
  have e : nwDec N n x = fld (fun j a => a * 10 + d j) n 0 := by
    unfold nwDec
    exact fld_ext (fun _ _ => True) trivial (fun _ _ _ _ => trivial) (fun i y _ _ => by show y * 10 + _ = y * 10 + _; rw [hd]) n (Nat.le_refl n)
  rw [e, ← hd]
  have h0 := hl 0
  have h1 := hl 1
  have h2 := hl 2
  have h3 := hl 3
  match n, hn, hj with
  | 1, _, hj =>
    match j, hj with
    | 0, _ => show (0 * 10 + d 0) / 1 % 10 = d 0; omega
  | 2, _, hj =>
    match j, hj with
    | 0, _ => show ((0 * 10 + d 0) * 10 + d 1) / 10 % 10 = d 0; omega
    | 1, _ => show ((0 * 10 + d 0) * 10 + d 1) / 1 % 10 = d 1; omega
  | 3, _, hj =>
    match j, hj with
    | 0, _ => show (((0 * 10 + d 0) * 10 + d 1) * 10 + d 2) / 100 % 10 = d 0; omega
    | 1, _ => show (((0 * 10 + d 0) * 10 + d 1) * 10 + d 2) / 10 % 10 = d 1; omega
    | 2, _ => show (((0 * 10 + d 0) * 10 + d 1) * 10 + d 2) / 1 % 10 = d 2; omega
  | 4, _, hj =>
    match j, hj with
    | 0, _ => show ((((0 * 10 + d 0) * 10 + d 1) * 10 + d 2) * 10 + d 3) / 1000 % 10 = d 0; omega
    | 1, _ => show ((((0 * 10 + d 0) * 10 + d 1) * 10 + d 2) * 10 + d 3) / 100 % 10 = d 1; omega
    | 2, _ => show ((((0 * 10 + d 0) * 10 + d 1) * 10 + d 2) * 10 + d 3) / 10 % 10 = d 2; omega
    | 3, _ => show ((((0 * 10 + d 0) * 10 + d 1) * 10 + d 2) * 10 + d 3) / 1 % 10 = d 3; omega
theorem nw_pow {N n : Nat} (h8 : N ≤ 8) (hn : n ≤ 4) : N ^ n ≤ 4096 := by
  have h1 : N ^ n ≤ 8 ^ n := Nat.pow_le_pow_left h8 n
  have h2 : 8 ^ n ≤ 8 ^ 4 := Nat.pow_le_pow_right (by decide) hn
  omega
theorem NwRow.uniq {un : List Nat} {N d p : Nat} {M f g : Nat → Int32} (h : NwRow un N d p M f) (h' : NwRow un N d p M g) : f = g := funext fun k => by
  by_cases c : k ∈ un
  · obtain ⟨j, hj, e⟩ := List.mem_iff_getElem.mp c
    have ej : un[j]? = some k := by rw [List.getElem?_eq_getElem hj, e]
    rw [h.1 j k ej, h'.1 j k ej]
  · rw [h.2 k c, h'.2 k c]
theorem NwFit.of {un : List Nat} {N x : Nat} {M f : Nat → Int32} {T : Sm} (hf : NwRow un N un.length x M f) : NwFit un N M T x ↔ ∀ i l, gi T 53 49 = nI l → l ≤ 10 → i < l → wk (Ld f) (ix (gi T 82 i)) (ix (gi T 83 i)) (ix (gi T 81 i)) = ix (gi T 84 i) := by
  constructor
  · intro ⟨g, hg, h⟩
    rw [hf.uniq hg]; exact h
  · intro h
    exact ⟨f, hf, h⟩
theorem nwF_st {N n : Nat} {b : Nat → Bool} {x k : Nat} (hb : b x = true) (hk : k = cntN b x) (hx : x < 5000) : ∀ y, x + 1 ≤ y → y < 5000 → nwF N n b (nI k) y = nI (nwDec N n x) ∧ k < cntN b y
  | 0, h, _ => absurd h (by omega)
  | y + 1, h, hy => by
    by_cases c : y = x
    · subst c
      refine ⟨?_, by rw [cnt_t hb]; omega⟩
      show (if b y = true ∧ nI (cntN b y) = nI k then nI (nwDec N n y) else _) = _
      rw [if_pos ⟨hb, by rw [hk]⟩]
    · obtain ⟨h1, h2⟩ := nwF_st (N := N) (n := n) hb hk hx y (by omega) (by omega)
      have h3 := cnt_le b y
      refine ⟨?_, by rw [cnt_s]; split <;> omega⟩
      show (if b y = true ∧ nI (cntN b y) = nI k then nI (nwDec N n y) else nwF N n b (nI k) y) = _
      rw [if_neg fun e => by
        have := (q_eq (by omega) (by omega)).mp e.2
        omega]
      exact h1
