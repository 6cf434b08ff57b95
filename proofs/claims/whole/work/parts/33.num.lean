/-! ===== the pure part: numbers, rows that rewrite ===== -/
def mI : Int32 := -1
def mI2 : Int32 := -2
def hI : Int32 := -1000000
theorem q_lit (n : Nat) : (OfNat.ofNat n : Int32) = nI n := rfl
theorem q_m1 : -nI 1 = mI := rfl
theorem q_m2 : -nI 2 = mI2 := rfl
theorem q_hid : -nI 1000000 = hI := rfl
theorem q_add (a b : Nat) : nI a + nI b = nI (a + b) := nI_add a b
theorem q_mul (a b : Nat) : nI a * nI b = nI (a * b) := pk_mul a b
theorem q_sub {a b : Nat} (h : b ≤ a) : nI a - nI b = nI (a - b) := pk_sub h
theorem q_addm {a : Nat} (h : 1 ≤ a) : nI a + mI = nI (a - 1) := by
  obtain ⟨b, rfl⟩ : ∃ b, a = b + 1 := ⟨a - 1, by omega⟩
  exact pk_m1 b
theorem q_le {a b : Nat} (ha : a < 2147483648) (hb : b < 2147483648) : nI a ≤ nI b ↔ a ≤ b := nI_leI ha hb
theorem q_lt {a b : Nat} (ha : a < 2147483648) (hb : b < 2147483648) : nI a < nI b ↔ a < b := nI_ltI ha hb
theorem q_eq {a b : Nat} (ha : a < 2147483648) (hb : b < 2147483648) : nI a = nI b ↔ a = b := nI_eq ha hb
theorem q_neg {x : Int32} (hx : x < 0) {a : Nat} (ha : a < 2147483648) : x < nI a := Int32.lt_of_lt_of_le hx (nI_pos' ha)
theorem q_mlt {a : Nat} (ha : a < 2147483648) : mI < nI a ↔ True := iff_true_intro (q_neg (by decide) ha)
theorem q_mle {a : Nat} (ha : a < 2147483648) : mI ≤ nI a ↔ True := iff_true_intro (Int32.le_of_lt (q_neg (by decide) ha))
theorem q_ltm {a : Nat} (ha : a < 2147483648) : nI a < mI ↔ False := iff_false_intro fun h => Int32.lt_asymm h (q_neg (by decide) ha)
theorem q_lem {a : Nat} (ha : a < 2147483648) : nI a ≤ mI ↔ False := iff_false_intro fun h => Int32.lt_irrefl (Int32.lt_of_lt_of_le (q_neg (x := mI) (by decide) ha) h)
theorem q_meq {a : Nat} (ha : a < 2147483648) : mI = nI a ↔ False := iff_false_intro fun h => Int32.lt_irrefl (h ▸ q_neg (x := mI) (by decide) ha)
theorem q_eqm {a : Nat} (ha : a < 2147483648) : nI a = mI ↔ False := iff_false_intro fun h => Int32.lt_irrefl (h ▸ q_neg (x := mI) (by decide) ha)
theorem q_m2lt {a : Nat} (ha : a < 2147483648) : mI2 < nI a ↔ True := iff_true_intro (q_neg (by decide) ha)
theorem q_m2le {a : Nat} (ha : a < 2147483648) : mI2 ≤ nI a ↔ True := iff_true_intro (Int32.le_of_lt (q_neg (by decide) ha))
theorem q_ltm2 {a : Nat} (ha : a < 2147483648) : nI a < mI2 ↔ False := iff_false_intro fun h => Int32.lt_asymm h (q_neg (by decide) ha)
theorem q_lem2 {a : Nat} (ha : a < 2147483648) : nI a ≤ mI2 ↔ False := iff_false_intro fun h => Int32.lt_irrefl (Int32.lt_of_lt_of_le (q_neg (x := mI2) (by decide) ha) h)
theorem q_eqm2 {a : Nat} (ha : a < 2147483648) : nI a = mI2 ↔ False := iff_false_intro fun h => Int32.lt_irrefl (h ▸ q_neg (x := mI2) (by decide) ha)
theorem q_mm2 : mI = mI2 ↔ False := iff_false_intro (by decide)
theorem q_m2m : mI2 = mI ↔ False := iff_false_intro (by decide)
theorem q_mm : mI ≤ mI ↔ True := iff_true_intro (by decide)
theorem q_mnm : mI < mI ↔ False := iff_false_intro (by decide)
theorem q_eqh {a : Nat} (ha : a < 2147483648) : nI a = hI ↔ False := iff_false_intro fun h => Int32.lt_irrefl (h ▸ q_neg (x := hI) (by decide) ha)
theorem q_heq {a : Nat} (ha : a < 2147483648) : hI = nI a ↔ False := iff_false_intro fun h => Int32.lt_irrefl (h ▸ q_neg (x := hI) (by decide) ha)
theorem q_ix {a : Nat} (h : a < 2147483648) : ix (nI a) = a := nI_clamp h
theorem q_inb {a n : Nat} (h : a < 2147483648) : inb (nI a) n ↔ a < n := by
  constructor
  · intro q
    refine Nat.lt_of_not_le fun c => q (Or.inr ?_)
    rw [nI_clamp h]; exact c
  · rintro c (q | q)
    · exact nI_pos h q
    · rw [nI_clamp h] at q; omega
theorem q_a0 : nI 0 &&& nI 1 = nI 0 := by decide
theorem q_a1 : nI 1 &&& nI 1 = nI 1 := by decide
theorem q_at {f : Nat → Int32} {n a : Nat} (h : a < n) (hn : n < 2147483648) : atF f n (nI a) = f a := by
  unfold atF
  rw [if_neg (nI_pos (by omega)), if_neg (show ¬ Int32.ofNat n ≤ nI a from nI_ge h hn), q_ix (by omega)]
theorem q_atx {f : Nat → Int32} {n a : Nat} (h : n ≤ a) (ha : a < 2147483648) : atF f n (nI a) = nI 0 := by
  unfold atF
  rw [if_neg (nI_pos (by omega)), if_pos (show Int32.ofNat n ≤ nI a from nI_le h ha)]
  rfl
theorem q_pu {S : Sm} {r n a : Nat} {v : Int32} (h : a < n) (hn : n < 2147483648) : puF S r n (nI a) v = si S r a v := by
  unfold puF
  rw [if_neg (nI_pos (by omega)), if_neg (show ¬ Int32.ofNat n ≤ nI a from nI_ge h hn), q_ix (by omega)]
theorem q_pux {S : Sm} {r n a : Nat} {v : Int32} (h : n ≤ a) (ha : a < 2147483648) : puF S r n (nI a) v = S := by
  unfold puF
  rw [if_neg (nI_pos (by omega)), if_pos (show Int32.ofNat n ≤ nI a from nI_le h ha)]
theorem q_app {α β : Type} (x : α) (f : α → β) : app x f = f x := rfl
theorem q_bind {α β : Type} (x : α) (f : α → Option β) : (some x).bind f = f x := rfl
theorem q_div {a d : Nat} (ha : a < 2147483648) (h0 : 0 < d) (hd : d < 2147483648) : nI a / nI d = nI (a / d) := pk_div ha h0 hd
theorem q_rem {a d : Nat} (ha : a < 2147483648) (h0 : 0 < d) (hd : d < 2147483648) : iRem (nI a) (nI d) = nI (a % d) := pk_rem ha h0 hd
theorem q_min {a b : Nat} (ha : a < 2147483648) (hb : b < 2147483648) : iMin (nI a) (nI b) = nI (min a b) := by
  unfold iMin
  by_cases c : b < a
  · rw [if_pos (nI_lt c ha), Nat.min_eq_right (by omega)]
  · rw [if_neg (nI_nlt (by omega) hb), Nat.min_eq_left (by omega)]
theorem q_max {a b : Nat} (ha : a < 2147483648) (hb : b < 2147483648) : iMax (nI a) (nI b) = nI (max a b) := by
  unfold iMax
  by_cases c : a < b
  · rw [if_pos (nI_lt c hb), Nat.max_eq_right (by omega)]
  · rw [if_neg (nI_nlt (by omega) ha), Nat.max_eq_left (by omega)]
theorem q_or (a b : Nat) : nI a ||| nI b = nI (a ||| b) := by
  apply Int32.toBitVec_inj.mp
  show ((Int32.ofNat a).toBitVec ||| (Int32.ofNat b).toBitVec) = (Int32.ofNat (a ||| b)).toBitVec
  rw [Int32.toBitVec_ofNat', Int32.toBitVec_ofNat', Int32.toBitVec_ofNat', BitVec.ofNat_or]
theorem q_and (a b : Nat) : nI a &&& nI b = nI (a &&& b) := by
  apply Int32.toBitVec_inj.mp
  show ((Int32.ofNat a).toBitVec &&& (Int32.ofNat b).toBitVec) = (Int32.ofNat (a &&& b)).toBitVec
  rw [Int32.toBitVec_ofNat', Int32.toBitVec_ofNat', Int32.toBitVec_ofNat', BitVec.ofNat_and]
theorem sh_k : ∀ i, i < 32 → ((nI i &&& 31).toBitVec.smod 32).toNat = i := by decide +kernel
theorem q_shl {m : Nat} (h : m < 31) : iShl (nI 1) (nI m) = nI (2 ^ m) := by
  unfold iShl
  rw [pk_shlN (n := 1) _ m (sh_k m (by omega)) (by rw [Nat.one_mul]; exact Nat.pow_lt_pow_right (by decide) (by omega)), Nat.one_mul]
theorem q_shla {a m : Nat} (h : m < 31) (ha : a = 0 ∨ a = 1) : iShl (nI a) (nI m) = nI (a * 2 ^ m) := by
  rcases ha with rfl | rfl
  · unfold iShl
    rw [pk_shlN (n := 0) _ m (sh_k m (by omega)) (by omega)]
  · rw [q_shl h, Nat.one_mul]
theorem q_shr {a i : Nat} (ha : a < 2147483648) (h : i < 32) : iShr (nI a) (nI i) = nI (a / 2 ^ i) := pk_shrN ha _ i (sh_k i h)
def bI (b : Bool) : Int32 := if b then nI 1 else nI 0
theorem bI_t : bI true = nI 1 := rfl
theorem bI_f : bI false = nI 0 := rfl
theorem q_b0 {b : Bool} : bI b = nI 0 ↔ b = false := by cases b <;> decide
theorem q_b1 {b : Bool} : bI b = nI 1 ↔ b = true := by cases b <;> decide
theorem q_holds {a i : Nat} (ha : a < 2147483648) (h : i < 32) : Dk_holds (nI a) (nI i) = bI (a.testBit i) := by
  have e : iShr (nI a) (nI i) &&& 1 = nI (a / 2 ^ i % 2) := by
    rw [q_shr ha h]
    exact pk_andN (Nat.lt_of_le_of_lt (Nat.div_le_self _ _) (by omega)) 1 (by decide)
  unfold Dk_holds Dk_holds_14
  rw [e, Nat.testBit_eq_decide_div_mod_eq]
  rcases Nat.mod_two_eq_zero_or_one (a / 2 ^ i) with q | q <;> rw [q] <;> decide
theorem q_has {a i : Nat} (ha : a < 2147483648) (h : i < 32) : Md_has (nI a) (nI i) = bI (a.testBit i) := q_holds ha h
/-- a function, many times -/
def itr {α : Type} (f : α → α) : Nat → α → α
  | 0, x => x
  | n + 1, x => f (itr f n x)
theorem itr_add {α : Type} (f : α → α) (a b : Nat) (x : α) : itr f (a + b) x = itr f a (itr f b x) := by
  induction a with
  | zero => rw [Nat.zero_add]; rfl
  | succ a ih => rw [Nat.succ_add]; show f _ = f _; rw [ih]
theorem itr_lt {f : Nat → Nat} {N : Nat} (h : ∀ x, x < N → f x < N) {x : Nat} (hx : x < N) : ∀ n, itr f n x < N
  | 0 => hx
  | n + 1 => h _ (itr_lt h hx n)
/-- folding from the first on -/
def fld {α : Type} (f : Nat → α → α) : Nat → α → α
  | 0, x => x
  | n + 1, x => f n (fld f n x)
theorem fld_ind {α : Type} {f : Nat → α → α} (P : Nat → α → Prop) {n : Nat} {x : α} (h0 : P 0 x) (hs : ∀ i y, i < n → P i y → P (i + 1) (f i y)) : ∀ i, i ≤ n → P i (fld f i x)
  | 0, _ => h0
  | i + 1, h => hs i _ (by omega) (fld_ind P h0 hs i (by omega))
theorem fld_ext {α : Type} {f g : Nat → α → α} (P : Nat → α → Prop) {n : Nat} {x : α} (h0 : P 0 x) (hs : ∀ i y, i < n → P i y → P (i + 1) (f i y)) (he : ∀ i y, i < n → P i y → f i y = g i y) : ∀ i, i ≤ n → fld f i x = fld g i x
  | 0, _ => rfl
  | i + 1, h => by
    show f i _ = g i _
    rw [← fld_ext P h0 hs he i (by omega)]
    exact he i _ (by omega) (fld_ind P h0 hs i (by omega))
/-- of more numbers than places two are alike -/
theorem php : ∀ (N : Nat) (x : Nat → Nat), (∀ i, i ≤ N → x i < N) → ∃ i j, i < j ∧ j ≤ N ∧ x i = x j
  | 0, x, h => absurd (h 0 (Nat.le_refl 0)) (Nat.not_lt_zero _)
  | N + 1, x, h => by
    by_cases c : ∃ i, i ≤ N ∧ x i = x (N + 1)
    · obtain ⟨i, h1, h2⟩ := c
      exact ⟨i, N + 1, by omega, Nat.le_refl _, h2⟩
    · have hn : ∀ i, i ≤ N → x i ≠ x (N + 1) := fun i hi e => c ⟨i, hi, e⟩
      obtain ⟨i, j, h1, h2, h3⟩ := php N (fun i => if x (N + 1) < x i then x i - 1 else x i) (fun i hi => by
        have a := h i (by omega)
        have b := h (N + 1) (Nat.le_refl _)
        have d := hn i hi
        show (if x (N + 1) < x i then x i - 1 else x i) < N
        by_cases q : x (N + 1) < x i
        · rw [if_pos q]; omega
        · rw [if_neg q]; omega)
      refine ⟨i, j, h1, by omega, ?_⟩
      have d1 := hn i (by omega)
      have d2 := hn j h2
      have h3' : (if x (N + 1) < x i then x i - 1 else x i) = (if x (N + 1) < x j then x j - 1 else x j) := h3
      by_cases q1 : x (N + 1) < x i <;> by_cases q2 : x (N + 1) < x j
      · rw [if_pos q1, if_pos q2] at h3'; omega
      · rw [if_pos q1, if_neg q2] at h3'; omega
      · rw [if_neg q1, if_pos q2] at h3'; omega
      · rw [if_neg q1, if_neg q2] at h3'; omega
/-! loops by what holds -/
theorem lpN_inv {σ ρ : Type} {f : σ → Option (σ ⊕ ρ)} {Q : ρ → Prop} (I : Nat → σ → Prop) {n : Nat} (hs : ∀ i s, i < n → I i s → (∃ s', f s = some (.inl s') ∧ I (i + 1) s') ∨ ∃ r, f s = some (.inr r) ∧ Q r) (he : ∀ s, I n s → ∃ r, f s = some (.inr r) ∧ Q r) : ∀ (k i : Nat) (s : σ), i ≤ n → n - i < k → I i s → ∃ r, lpN f k s = some r ∧ Q r
  | 0, _, _, _, h, _ => absurd h (Nat.not_lt_zero _)
  | k + 1, i, s, hi, hk, h => by
    rw [lpN_s]
    have hx : (∃ s', f s = some (.inl s') ∧ i < n ∧ I (i + 1) s') ∨ ∃ r, f s = some (.inr r) ∧ Q r := by
      by_cases q : i = n
      · subst q; exact Or.inr (he s h)
      · rcases hs i s (by omega) h with ⟨s', a, b⟩ | c
        · exact Or.inl ⟨s', a, by omega, b⟩
        · exact Or.inr c
    rcases hx with ⟨s', a, b, c⟩ | ⟨r, a, b⟩
    · rw [a]
      exact lpN_inv I hs he k (i + 1) s' (by omega) (by omega) c
    · rw [a]
      exact ⟨r, rfl, b⟩
theorem lp_inv {σ ρ : Type} {f : σ → Option (σ ⊕ ρ)} {Q : ρ → Prop} (I : Nat → σ → Prop) (n : Nat) (hn : n < 13000) {s : σ} (h0 : I 0 s) (hs : ∀ i s, i < n → I i s → (∃ s', f s = some (.inl s') ∧ I (i + 1) s') ∨ ∃ r, f s = some (.inr r) ∧ Q r) (he : ∀ s, I n s → ∃ r, f s = some (.inr r) ∧ Q r) : ∃ r, lpN f FU s = some r ∧ Q r :=
  lpN_inv I hs he FU 0 s (Nat.zero_le _) (by unfold FU; omega) h0
theorem lpN_rel {σ ρ σ' ρ' : Type} {f : σ → Option (σ ⊕ ρ)} {g : σ' → Option (σ' ⊕ ρ')} {Q : ρ → ρ' → Prop} (I : Nat → σ → σ' → Prop) {n : Nat} (hs : ∀ i s t, i < n → I i s t → (∃ s' t', f s = some (.inl s') ∧ g t = some (.inl t') ∧ I (i + 1) s' t') ∨ ∃ r u, f s = some (.inr r) ∧ g t = some (.inr u) ∧ Q r u) (he : ∀ s t, I n s t → ∃ r u, f s = some (.inr r) ∧ g t = some (.inr u) ∧ Q r u) : ∀ (k i : Nat) (s : σ) (t : σ'), i ≤ n → n - i < k → I i s t → ∃ r u, lpN f k s = some r ∧ lpN g k t = some u ∧ Q r u
  | 0, _, _, _, _, h, _ => absurd h (Nat.not_lt_zero _)
  | k + 1, i, s, t, hi, hk, h => by
    rw [lpN_s, lpN_s]
    have hx : (∃ s' t', f s = some (.inl s') ∧ g t = some (.inl t') ∧ i < n ∧ I (i + 1) s' t') ∨ ∃ r u, f s = some (.inr r) ∧ g t = some (.inr u) ∧ Q r u := by
      by_cases q : i = n
      · subst q; exact Or.inr (he s t h)
      · rcases hs i s t (by omega) h with ⟨s', t', a, b, d⟩ | c
        · exact Or.inl ⟨s', t', a, b, by omega, d⟩
        · exact Or.inr c
    rcases hx with ⟨s', t', a, b, c, d⟩ | ⟨r, u, a, b, c⟩
    · rw [a, b]
      exact lpN_rel I hs he k (i + 1) s' t' (by omega) (by omega) d
    · rw [a, b]
      exact ⟨r, u, rfl, rfl, c⟩
theorem lp_rel {σ ρ σ' ρ' : Type} {f : σ → Option (σ ⊕ ρ)} {g : σ' → Option (σ' ⊕ ρ')} {Q : ρ → ρ' → Prop} (I : Nat → σ → σ' → Prop) (n : Nat) (hn : n < 13000) {s : σ} {t : σ'} (h0 : I 0 s t) (hs : ∀ i s t, i < n → I i s t → (∃ s' t', f s = some (.inl s') ∧ g t = some (.inl t') ∧ I (i + 1) s' t') ∨ ∃ r u, f s = some (.inr r) ∧ g t = some (.inr u) ∧ Q r u) (he : ∀ s t, I n s t → ∃ r u, f s = some (.inr r) ∧ g t = some (.inr u) ∧ Q r u) : ∃ r u, lpN f FU s = some r ∧ lpN g FU t = some u ∧ Q r u :=
  lpN_rel I hs he FU 0 s t (Nat.zero_le _) (by unfold FU; omega) h0
/-- the first of n that is so -/
theorem first_ex (P : Nat → Prop) : ∀ n : Nat, ∃ j, j ≤ n ∧ (∀ t, t < j → ¬ P t) ∧ (j < n → P j)
  | 0 => ⟨0, Nat.le_refl _, fun t h => absurd h (Nat.not_lt_zero _), fun h => absurd h (Nat.lt_irrefl _)⟩
  | n + 1 => by
    obtain ⟨j, h1, h2, h3⟩ := first_ex P n
    by_cases c : j < n
    · exact ⟨j, by omega, h2, fun _ => h3 c⟩
    · have e : j = n := by omega
      subst e
      by_cases p : P j
      · exact ⟨j, by omega, h2, fun _ => p⟩
      · exact ⟨j + 1, by omega, fun t ht => by
          by_cases q : t = j
          · subst q; exact p
          · exact h2 t (by omega), fun h => absurd h (Nat.lt_irrefl _)⟩
theorem mask_lt {a b n : Nat} (ha : a < 2 ^ n) (hb : b < 2 ^ n) : a ||| b < 2 ^ n := Nat.or_lt_two_pow ha hb
theorem bit_lt {m n : Nat} (h : m < n) : 2 ^ m < 2 ^ n := Nat.pow_lt_pow_right (by decide) h
theorem tb_pow (m i : Nat) : (2 ^ m).testBit i = decide (m = i) := Nat.testBit_two_pow
