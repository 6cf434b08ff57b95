/-! ===== feed ===== -/
def byC (x : Int32) (s : Nat) : Nat := ((x.toBitVec >>> s) &&& 255#32).toNat
theorem byC_le (x : Int32) (s : Nat) : byC x s ≤ 255 := by
  unfold byC
  rw [BitVec.toNat_and]
  exact Nat.and_le_right
theorem m255 : ∀ i, i < 32 → (255#32).getLsbD i = decide (i < 8) := by decide
theorem by_ss (X : BitVec 32) {s : Nat} (hs : s ≤ 24) : X.sshiftRight s &&& 255#32 = (X >>> s) &&& 255#32 := by
  apply BitVec.eq_of_getLsbD_eq
  intro i hi
  rw [BitVec.getLsbD_and, BitVec.getLsbD_and, m255 i hi]
  by_cases c : i < 8
  · rw [BitVec.getLsbD_sshiftRight, BitVec.getLsbD_ushiftRight, if_pos (by omega), decide_eq_false (by omega), Bool.not_false, Bool.true_and]
  · rw [decide_eq_false c, Bool.and_false, Bool.and_false]
theorem by_of {y : Int32} {x : Int32} {s : Nat} (h : y.toBitVec = (x.toBitVec >>> s) &&& 255#32) : y = nI (byC x s) := by
  apply Int32.toBitVec_inj.mp
  rw [h]
  show _ = (Int32.ofNat _).toBitVec
  rw [Int32.toBitVec_ofNat']
  unfold byC
  rw [BitVec.ofNat_toNat]
  rfl
theorem by_u (x : Int32) : ∀ t, t < 4 → (iUsh x (nI (24 - 8 * t)) &&& 255) = nI (byC x (24 - 8 * t)) := fun t ht => by
  have t4 : t = 0 ∨ t = 1 ∨ t = 2 ∨ t = 3 := by omega
  rcases t4 with rfl | rfl | rfl | rfl
  · exact by_of rfl
  · exact by_of rfl
  · exact by_of rfl
  · exact by_of rfl
theorem by_s (x : Int32) : ∀ t, t < 4 → (iShr x (nI (24 - 8 * t)) &&& 255) = nI (byC x (24 - 8 * t)) := fun t ht => by
  have t4 : t = 0 ∨ t = 1 ∨ t = 2 ∨ t = 3 := by omega
  rcases t4 with rfl | rfl | rfl | rfl
  · exact by_of (by_ss x.toBitVec (s := 24) (by omega))
  · exact by_of (by_ss x.toBitVec (s := 16) (by omega))
  · exact by_of (by_ss x.toBitVec (s := 8) (by omega))
  · exact by_of (by_ss x.toBitVec (s := 0) (by omega))
theorem cnt_add (p : Nat → Bool) (a : Nat) : ∀ b, cntN p (a + b) = cntN p a + cntN (fun t => p (a + t)) b
  | 0 => rfl
  | b + 1 => by
    rw [show a + (b + 1) = (a + b) + 1 by omega, cnt_s, cnt_s, cnt_add p a b]
    split <;> omega
def fdW (v0 v1 v2 v3 v4 : Int32) (k : Nat) : Int32 := if k = 0 then v0 else if k = 1 then v1 else if k = 2 then v2 else if k = 3 then v3 else v4
def fdB (v0 v1 v2 v3 v4 : Int32) (j : Nat) : Nat := byC (fdW v0 v1 v2 v3 v4 (j / 4)) (24 - 8 * (j % 4))
def fdQ (c : Nat → Nat) (j : Nat) : Bool := decide (c j ≠ 0)
def fdS (c : Nat → Nat) (k : Nat) (S : Sm) : Sm := fld (fun j S => if c j = 0 then S else si (si S 9 (ix (gi S 8 1)) (nI (c j))) 8 1 (nI (ix (gi S 8 1) + 1))) k S
def fdT (c : Nat → Nat) (k : Nat) (T : Sm) : Sm := fld (fun j T => if c j = 0 then T else si (si T 54 (ix (gi T 53 2)) (nI (c j))) 53 2 (nI (ix (gi T 53 2) + 1))) k T
theorem fd_S {c : Nat → Nat} {S : Sm} {n : Nat} (h : gi S 8 1 = nI n) (hn : n ≤ 240) : ∀ k, k ≤ 20 → gi (fdS c k S) 8 1 = nI (n + cntN (fdQ c) k) ∧ (∀ b, b ≠ 8 → b ≠ 9 → (fdS c k S).1 b = S.1 b) ∧ (∀ j, j ≠ 1 → (fdS c k S).1 8 j = S.1 8 j) ∧ (∀ i, i < n → gi (fdS c k S) 9 i = gi S 9 i) ∧ (fdS c k S).2 = S.2
  | 0, _ => ⟨h, fun _ _ _ => rfl, fun _ _ => rfl, fun _ _ => rfl, rfl⟩
  | k + 1, hk => by
    obtain ⟨a1, a2, a3, a4, a5⟩ := fd_S h hn k (by omega) (c := c)
    have cl := cnt_le (fdQ c) k
    have e : fdS c (k + 1) S = if c k = 0 then fdS c k S else si (si (fdS c k S) 9 (ix (gi (fdS c k S) 8 1)) (nI (c k))) 8 1 (nI (ix (gi (fdS c k S) 8 1) + 1)) := rfl
    rw [e, a1, q_ix (by omega)]
    by_cases z : c k = 0
    · rw [if_pos z, cnt_n (show fdQ c k = false from decide_eq_false (fun w => w z))]
      exact ⟨a1, a2, a3, a4, a5⟩
    · rw [if_neg z, cnt_t (show fdQ c k = true from decide_eq_true z)]
      refine ⟨tb_h, fun b h1 h2 => ?_, fun j hj => ?_, fun i hi => ?_, a5⟩
      · rw [si_row h1, si_row h2]; exact a2 b h1 h2
      · show gi (si (si (fdS c k S) 9 _ _) 8 1 _) 8 j = _
        rw [tb_n (fun e => hj e.2), tb_n (fun e => absurd e.1 (by decide))]; exact a3 j hj
      · rw [tb_n (fun e => absurd e.1 (by decide)), tb_n (fun e => by omega)]; exact a4 i hi
theorem fd_T {c : Nat → Nat} {T : Sm} {n : Nat} (h : gi T 53 2 = nI n) (hn : n ≤ 240) : ∀ k, k ≤ 20 → gi (fdT c k T) 53 2 = nI (n + cntN (fdQ c) k) ∧ (∀ b, b ≠ 53 → b ≠ 54 → (fdT c k T).1 b = T.1 b) ∧ (∀ j, j ≠ 2 → (fdT c k T).1 53 j = T.1 53 j) ∧ (∀ i, i < n → gi (fdT c k T) 54 i = gi T 54 i)
  | 0, _ => ⟨h, fun _ _ _ => rfl, fun _ _ => rfl, fun _ _ => rfl⟩
  | k + 1, hk => by
    obtain ⟨a1, a2, a3, a4⟩ := fd_T h hn k (by omega) (c := c)
    have cl := cnt_le (fdQ c) k
    have e : fdT c (k + 1) T = if c k = 0 then fdT c k T else si (si (fdT c k T) 54 (ix (gi (fdT c k T) 53 2)) (nI (c k))) 53 2 (nI (ix (gi (fdT c k T) 53 2) + 1)) := rfl
    rw [e, a1, q_ix (by omega)]
    by_cases z : c k = 0
    · rw [if_pos z, cnt_n (show fdQ c k = false from decide_eq_false (fun w => w z))]
      exact ⟨a1, a2, a3, a4⟩
    · rw [if_neg z, cnt_t (show fdQ c k = true from decide_eq_true z)]
      refine ⟨tb_h, fun b h1 h2 => ?_, fun j hj => ?_, fun i hi => ?_⟩
      · rw [si_row h1, si_row h2]; exact a2 b h1 h2
      · show gi (si (si (fdT c k T) 54 _ _) 53 2 _) 53 j = _
        rw [tb_n (fun e => hj e.2), tb_n (fun e => absurd e.1 (by decide))]; exact a3 j hj
      · rw [tb_n (fun e => absurd e.1 (by decide)), tb_n (fun e => by omega)]; exact a4 i hi
/-- the new bytes are alike on both sides -/
theorem fd_b {c : Nat → Nat} (hc : ∀ j, c j ≤ 255) {T S : Sm} {n : Nat} (h : gi S 8 1 = nI n) (h2 : gi T 53 2 = nI n) (hn : n ≤ 240) : ∀ k, k ≤ 20 → ∀ i, n ≤ i → i < n + cntN (fdQ c) k → ∃ b, 1 ≤ b ∧ b ≤ 255 ∧ gi (fdS c k S) 9 i = nI b ∧ gi (fdT c k T) 54 i = nI b
  | 0, _, i, h1, h3 => absurd h3 (by show ¬ i < n + 0; omega)
  | k + 1, hk, i, h1, h3 => by
    obtain ⟨a1, -⟩ := fd_S h hn k (by omega) (c := c)
    obtain ⟨d1, -⟩ := fd_T h2 hn k (by omega) (c := c)
    have cl := cnt_le (fdQ c) k
    have e : fdS c (k + 1) S = if c k = 0 then fdS c k S else si (si (fdS c k S) 9 (ix (gi (fdS c k S) 8 1)) (nI (c k))) 8 1 (nI (ix (gi (fdS c k S) 8 1) + 1)) := rfl
    have e2 : fdT c (k + 1) T = if c k = 0 then fdT c k T else si (si (fdT c k T) 54 (ix (gi (fdT c k T) 53 2)) (nI (c k))) 53 2 (nI (ix (gi (fdT c k T) 53 2) + 1)) := rfl
    rw [e, e2, a1, d1, q_ix (by omega)]
    by_cases z : c k = 0
    · rw [cnt_n (show fdQ c k = false from decide_eq_false (fun w => w z))] at h3
      rw [if_pos z, if_pos z]
      exact fd_b hc h h2 hn k (by omega) i h1 h3
    · rw [cnt_t (show fdQ c k = true from decide_eq_true z)] at h3
      rw [if_neg z, if_neg z]
      by_cases y : i = n + cntN (fdQ c) k
      · refine ⟨c k, by omega, hc k, ?_, ?_⟩
        · rw [tb_n (fun e => absurd e.1 (by decide)), y]; exact tb_h
        · rw [tb_n (fun e => absurd e.1 (by decide)), y]; exact tb_h
      · obtain ⟨x, x1, x2, x3, x4⟩ := fd_b hc h h2 hn k (by omega) i h1 (by omega)
        refine ⟨x, x1, x2, ?_, ?_⟩
        · rw [tb_n (fun e => absurd e.1 (by decide)), tb_n (fun e => y e.2)]; exact x3
        · rw [tb_n (fun e => absurd e.1 (by decide)), tb_n (fun e => y e.2)]; exact x4
theorem fd_in (x : Int32) : Tp_bytesIn x = some (nI (cntN (fun t => decide (byC x (24 - 8 * t) ≠ 0)) 4)) := by
  have e : lpN (Tp_bytesIn_L5 x) FU (0, 24) = some (nI (cntN (fun t => decide (byC x (24 - 8 * t) ≠ 0)) 4)) := by
    refine lpN_run0 (fun t => (nI (cntN (fun t => decide (byC x (24 - 8 * t) ≠ 0)) t), if t < 4 then nI (24 - 8 * t) else -8)) 4 (by omega) (fun t ht => ?_) ?_ rfl
    · have nx : (nI (24 - 8 * t) + -8) = if t + 1 < 4 then nI (24 - 8 * (t + 1)) else -8 := by
        have t4 : t = 0 ∨ t = 1 ∨ t = 2 ∨ t = 3 := by omega
        rcases t4 with rfl | rfl | rfl | rfl <;> decide
      have := byC_le x (24 - 8 * t)
      unfold Tp_bytesIn_L5 Tp_bytesIn_25_L5
      dsimp only
      rw [if_pos ht, if_neg (nI_pos (by omega)), by_u x t ht, nx]
      by_cases z : byC x (24 - 8 * t) = 0
      · rw [z, if_pos (show nI 0 = 0 from rfl), cnt_n (show decide (byC x (24 - 8 * t) ≠ 0) = false from decide_eq_false (fun w => w z)), show (0 : Int32) = nI 0 from rfl, q_add, Nat.add_zero]
      · rw [if_neg (show ¬ nI (byC x (24 - 8 * t)) = 0 from fun e => z ((q_eq (b := 0) (by omega) (by omega)).mp e)), cnt_t (show decide (byC x (24 - 8 * t) ≠ 0) = true from decide_eq_true z), show (1 : Int32) = nI 1 from rfl, q_add]
    · unfold Tp_bytesIn_L5
      exact if_pos (show (-8 : Int32) < 0 by decide)
  unfold Tp_bytesIn
  rw [e]; rfl
theorem fd_app {c : Nat → Nat} {S : Sm} {n a : Nat} (h : gi S 8 1 = nI n) (hn : n + cntN (fdQ c) (a + 4) ≤ 240) (ha : a + 4 ≤ 20) {x : Int32} (hx : ∀ t, t < 4 → c (a + t) = byC x (24 - 8 * t)) : Tp_append x (fdS c a S) = some (fdS c (a + 4) S) := by
  have e : lpN (Tp_append_L3 x) FU (24, fdS c a S) = some (fdS c (a + 4) S) := by
    refine lpN_run0 (fun t => (if t < 4 then nI (24 - 8 * t) else -8, fdS c (a + t) S)) 4 (by omega) (fun t ht => ?_) ?_ rfl
    · have nx : (nI (24 - 8 * t) + -8) = if t + 1 < 4 then nI (24 - 8 * (t + 1)) else -8 := by
        have t4 : t = 0 ∨ t = 1 ∨ t = 2 ∨ t = 3 := by omega
        rcases t4 with rfl | rfl | rfl | rfl <;> decide
      have := byC_le x (24 - 8 * t)
      have cl := cnt_le (fdQ c) (a + t)
      have mono : cntN (fdQ c) (a + t) + (if c (a + t) = 0 then 0 else 1) ≤ cntN (fdQ c) (a + 4) := by
        have e1 := cnt_add (fdQ c) (a + t + 1) (3 - t)
        rw [show a + t + 1 + (3 - t) = a + 4 by omega] at e1
        have e2 := cnt_s (fdQ c) (a + t)
        by_cases z : c (a + t) = 0
        · rw [if_pos z]; rw [if_neg (show ¬ fdQ c (a + t) = true from fun e => (of_decide_eq_true e) z)] at e2; omega
        · rw [if_neg z]; rw [if_pos (show fdQ c (a + t) = true from decide_eq_true z)] at e2; omega
      have hn2 : n ≤ 240 := by omega
      obtain ⟨a1, -⟩ := fd_S h hn2 (a + t) (by omega) (c := c)
      have es : fdS c (a + (t + 1)) S = if c (a + t) = 0 then fdS c (a + t) S else si (si (fdS c (a + t) S) 9 (ix (gi (fdS c (a + t) S) 8 1)) (nI (c (a + t)))) 8 1 (nI (ix (gi (fdS c (a + t) S) 8 1) + 1)) := rfl
      rw [es, a1, q_ix (by omega)]
      unfold Tp_append_L3 Tp_append_41_L3
      dsimp only
      rw [if_pos ht, if_neg (nI_pos (by omega)), by_u x t ht, nx, hx t ht]
      rw [hx t ht] at mono
      by_cases z : byC x (24 - 8 * t) = 0
      · rw [if_pos z, z, if_pos (show nI 0 = 0 from rfl)]
      · rw [if_neg z] at mono
        rw [if_neg z, if_neg (show ¬ nI (byC x (24 - 8 * t)) = 0 from fun e => z ((q_eq (b := 0) (by omega) (by omega)).mp e)), a1, q_pu (by omega) (by omega), q_app, tb_n (fun e => absurd e.1 (by decide)), a1, show (1 : Int32) = nI 1 from rfl, q_add]
    · unfold Tp_append_L3
      exact if_pos (show (-8 : Int32) < 0 by decide)
  unfold Tp_append
  rw [e]; rfl
theorem fd_byte (v0 v1 v2 v3 v4 : Int32) {j : Nat} (hj : j < 20) : Md_byteOf v0 v1 v2 v3 v4 (nI j) = nI (fdB v0 v1 v2 v3 v4 j) := by
  have sh : ∀ v : Int32, Md_byteOf_45 (nI j) v = nI (byC v (24 - 8 * (j % 4))) := fun v => by
    unfold Md_byteOf_45
    have e : (24 : Int32) - 8 * iRem (nI j) 4 = nI (24 - 8 * (j % 4)) := by
      rw [show (4 : Int32) = nI 4 from rfl, q_rem (by omega) (by omega) (by omega), show (8 : Int32) = nI 8 from rfl, q_mul, show (24 : Int32) = nI 24 from rfl, q_sub (by omega)]
    rw [e]
    exact by_s v (j % 4) (by omega)
  have le : ∀ a : Nat, a < 100 → (nI a ≤ nI j ↔ a ≤ j) := fun a ha => q_le (by omega) (by omega)
  unfold Md_byteOf fdB fdW
  rw [sh, sh, sh, sh, sh]
  by_cases c1 : j < 4
  · rw [if_neg (show ¬ (4 : Int32) ≤ nI j from fun z => by have := (le 4 (by omega)).mp z; omega), if_pos (show j / 4 = 0 by omega)]
  · rw [if_pos (show (4 : Int32) ≤ nI j from (le 4 (by omega)).mpr (by omega)), if_neg (show ¬ j / 4 = 0 by omega)]
    by_cases c2 : j < 8
    · rw [if_neg (show ¬ (8 : Int32) ≤ nI j from fun z => by have := (le 8 (by omega)).mp z; omega), if_pos (show j / 4 = 1 by omega)]
    · rw [if_pos (show (8 : Int32) ≤ nI j from (le 8 (by omega)).mpr (by omega)), if_neg (show ¬ j / 4 = 1 by omega)]
      by_cases c3 : j < 12
      · rw [if_neg (show ¬ (12 : Int32) ≤ nI j from fun z => by have := (le 12 (by omega)).mp z; omega), if_pos (show j / 4 = 2 by omega)]
      · rw [if_pos (show (12 : Int32) ≤ nI j from (le 12 (by omega)).mpr (by omega)), if_neg (show ¬ j / 4 = 2 by omega)]
        by_cases c4 : j < 16
        · rw [if_neg (show ¬ (16 : Int32) ≤ nI j from fun z => by have := (le 16 (by omega)).mp z; omega), if_pos (show j / 4 = 3 by omega)]
        · rw [if_pos (show (16 : Int32) ≤ nI j from (le 16 (by omega)).mpr (by omega)), if_neg (show ¬ j / 4 = 3 by omega)]
section FD
variable {N K F R w : Nat} {U : List Nat} {X : List (List Cl)} {T S : Sm}
theorem op_feed (h : RelP N K F R U X w T S) (v0 v1 v2 v3 v4 : Int32) : ∃ q p, Dk_feed v0 v1 v2 v3 v4 S = some q ∧ Md_feed v0 v1 v2 v3 v4 T = some p ∧ q.1 = p.1 ∧ q.2.1 31 = S.1 31 ∧ RelP N K F R U X w p.2 q.2 := by
  have hh := h
  obtain ⟨h1, h2, h3, h4, h5, h6, h7, h8, ⟨n, n1, n2, n3, n4⟩, h10, h11⟩ := h
  generalize hc : fdB v0 v1 v2 v3 v4 = c
  have cj : ∀ k t, t < 4 → c (4 * k + t) = byC (fdW v0 v1 v2 v3 v4 k) (24 - 8 * t) := fun k t ht => by
    rw [← hc]
    unfold fdB
    rw [show (4 * k + t) / 4 = k by omega, show (4 * k + t) % 4 = t by omega]
  have c255 : ∀ j, c j ≤ 255 := fun j => by rw [← hc]; exact byC_le _ _
  have cw : ∀ k, cntN (fun t => decide (byC (fdW v0 v1 v2 v3 v4 k) (24 - 8 * t) ≠ 0)) 4 = cntN (fun t => fdQ c (4 * k + t)) 4 := fun k => cnt_ext 4 fun t ht => by
    show decide _ = decide _
    rw [cj k t ht]
  have s0 : Tp_bytesIn v0 = some (nI (cntN (fun t => fdQ c (4 * 0 + t)) 4)) := by rw [← cw 0]; exact fd_in v0
  have s1 : Tp_bytesIn v1 = some (nI (cntN (fun t => fdQ c (4 * 1 + t)) 4)) := by rw [← cw 1]; exact fd_in v1
  have s2 : Tp_bytesIn v2 = some (nI (cntN (fun t => fdQ c (4 * 2 + t)) 4)) := by rw [← cw 2]; exact fd_in v2
  have s3 : Tp_bytesIn v3 = some (nI (cntN (fun t => fdQ c (4 * 3 + t)) 4)) := by rw [← cw 3]; exact fd_in v3
  have s4 : Tp_bytesIn v4 = some (nI (cntN (fun t => fdQ c (4 * 4 + t)) 4)) := by rw [← cw 4]; exact fd_in v4
  have tot : cntN (fun t => fdQ c (4 * 0 + t)) 4 + cntN (fun t => fdQ c (4 * 1 + t)) 4 + cntN (fun t => fdQ c (4 * 2 + t)) 4 + cntN (fun t => fdQ c (4 * 3 + t)) 4 + cntN (fun t => fdQ c (4 * 4 + t)) 4 = cntN (fdQ c) 20 := by
    have e1 : cntN (fdQ c) 20 = cntN (fdQ c) 16 + cntN (fun t => fdQ c (4 * 4 + t)) 4 := cnt_add (fdQ c) 16 4
    have e2 : cntN (fdQ c) 16 = cntN (fdQ c) 12 + cntN (fun t => fdQ c (4 * 3 + t)) 4 := cnt_add (fdQ c) 12 4
    have e3 : cntN (fdQ c) 12 = cntN (fdQ c) 8 + cntN (fun t => fdQ c (4 * 2 + t)) 4 := cnt_add (fdQ c) 8 4
    have e4 : cntN (fdQ c) 8 = cntN (fdQ c) 4 + cntN (fun t => fdQ c (4 * 1 + t)) 4 := cnt_add (fdQ c) 4 4
    have e5 : cntN (fdQ c) 4 = cntN (fdQ c) 0 + cntN (fun t => fdQ c (4 * 0 + t)) 4 := cnt_add (fdQ c) 0 4
    have e6 : cntN (fdQ c) 0 = 0 := rfl
    omega
  have hl := cnt_le (fdQ c) 20
  have lT : lpN (Md_feed_L6 v0 v1 v2 v3 v4 T) FU (0, 0) = some (nI (cntN (fdQ c) 20)) := by
    refine lpN_run0 (fun j => (nI (cntN (fdQ c) j), nI j)) 20 (by omega) (fun j hj => ?_) ?_ rfl
    · have := c255 j
      unfold Md_feed_L6 Md_feed_35_L6
      dsimp only
      rw [if_neg (show ¬ (20 : Int32) ≤ nI j from fun z => by have := (q_le (a := 20) (by omega) (by omega)).mp z; omega), fd_byte v0 v1 v2 v3 v4 hj, hc, show nI j + 1 = nI (j + 1) from q_add j 1]
      by_cases z : c j = 0
      · rw [z, if_pos (show nI 0 = 0 from rfl), cnt_n (show fdQ c j = false from decide_eq_false (fun w => w z)), show (0 : Int32) = nI 0 from rfl, q_add, Nat.add_zero]
      · rw [if_neg (show ¬ nI (c j) = 0 from fun e => z ((q_eq (b := 0) (by omega) (by omega)).mp e)), cnt_t (show fdQ c j = true from decide_eq_true z), show (1 : Int32) = nI 1 from rfl, q_add]
    · unfold Md_feed_L6
      exact if_pos (show (20 : Int32) ≤ nI 20 by decide)
  unfold Dk_feed Tp_add Md_feed Dk_feed_28 Tp_size
  rw [s0, s1, s2, s3, s4, lT, q_bind, q_bind, q_bind, q_bind, q_bind, q_bind, n2, n3, q_add, q_add, q_add, q_add, q_add, q_add, tot]
  by_cases c0 : n + cntN (fdQ c) 20 ≤ 240
  · have cle : nI (n + cntN (fdQ c) 20) ≤ 240 := nI_le (b := 240) c0 (by omega)
    rw [if_pos cle, if_pos cle]
    have le : ∀ a b, a + b = 20 → n + cntN (fdQ c) a ≤ 240 := fun a b e => by
      have := cnt_add (fdQ c) a b
      rw [e] at this; omega
    have w0 : Tp_append v0 S = some (fdS c 4 S) := fd_app (a := 0) n3 (le 4 16 rfl) (by omega) fun t ht => by rw [Nat.zero_add]; have := cj 0 t ht; rw [Nat.mul_zero, Nat.zero_add] at this; exact this
    have w1 : Tp_append v1 (fdS c 4 S) = some (fdS c 8 S) := fd_app (a := 4) n3 (le 8 12 rfl) (by omega) fun t ht => cj 1 t ht
    have w2 : Tp_append v2 (fdS c 8 S) = some (fdS c 12 S) := fd_app (a := 8) n3 (le 12 8 rfl) (by omega) fun t ht => cj 2 t ht
    have w3 : Tp_append v3 (fdS c 12 S) = some (fdS c 16 S) := fd_app (a := 12) n3 (le 16 4 rfl) (by omega) fun t ht => cj 3 t ht
    have w4 : Tp_append v4 (fdS c 16 S) = some (fdS c 20 S) := fd_app (a := 16) n3 (le 20 0 rfl) (by omega) fun t ht => cj 4 t ht
    have l2 : lpN (Md_feed_L62 v0 v1 v2 v3 v4) FU (0, T) = some (fdT c 20 T) := by
      refine lpN_run0 (fun j => (nI j, fdT c j T)) 20 (by omega) (fun j hj => ?_) ?_ rfl
      · have := c255 j
        obtain ⟨a1, -⟩ := fd_T n2 n1 j (by omega) (c := c)
        have lj := le (j + 1) (19 - j) (by omega)
        rw [cnt_s] at lj
        have es : fdT c (j + 1) T = if c j = 0 then fdT c j T else si (si (fdT c j T) 54 (ix (gi (fdT c j T) 53 2)) (nI (c j))) 53 2 (nI (ix (gi (fdT c j T) 53 2) + 1)) := rfl
        have cl := cnt_le (fdQ c) j
        rw [es, a1, q_ix (by omega)]
        unfold Md_feed_L62 Md_feed_109_L62
        dsimp only
        rw [if_neg (show ¬ (20 : Int32) ≤ nI j from fun z => by have := (q_le (a := 20) (by omega) (by omega)).mp z; omega), fd_byte v0 v1 v2 v3 v4 hj, hc, show nI j + 1 = nI (j + 1) from q_add j 1]
        by_cases z : c j = 0
        · rw [if_pos z, z, if_pos (show nI 0 = 0 from rfl)]
        · rw [if_pos (show fdQ c j = true from decide_eq_true z)] at lj
          rw [if_neg z, if_neg (show ¬ nI (c j) = 0 from fun e => z ((q_eq (b := 0) (by omega) (by omega)).mp e)), a1, if_pos (nI_in (by omega) (by omega)), q_ix (by omega), tb_n (fun e => absurd e.1 (by decide)), a1, show (1 : Int32) = nI 1 from rfl, q_add]
      · unfold Md_feed_L62
        exact if_pos (show (20 : Int32) ≤ nI 20 by decide)
    rw [w0, q_bind, w1, q_bind, w2, q_bind, w3, q_bind, w4, q_bind, q_bind, l2, q_bind]
    obtain ⟨a1, a2, a3, a4, -⟩ := fd_S n3 n1 20 (by omega) (c := c)
    obtain ⟨d1, d2, d3, d4⟩ := fd_T n2 n1 20 (by omega) (c := c)
    have nb := fd_b c255 n3 n2 n1 20 (by omega)
    refine ⟨_, _, rfl, rfl, a1.trans d1.symm, a2 31 (by omega) (by omega), ?_⟩
    show RelP N K F R U X w (fdT c 20 T) (fdS c 20 S)
    generalize fdS c 20 S = S' at *
    generalize fdT c 20 T = T' at *
    refine ⟨?_, ?_, ?_, ?_, h5.of (a2 31 (by omega) (by omega)), h6.of h5 (fun b hb => a2 b (by omega) (by omega)) (a2 30 (by omega) (by omega)) (fun k _ => congrFun (a2 31 (by omega) (by omega)) k) (a2 13 (by omega) (by omega)) (d2 73 (by omega) (by omega)) (d3 34 (by omega)), ?_, ?_, ⟨n + cntN (fdQ c) 20, c0, d1, a1, fun i hi => ?_⟩, ?_, ?_⟩
    · simp only [NetR, gi, a2 11 (by omega) (by omega), d2 68 (by omega) (by omega)] at h1 ⊢; exact h1
    · simp only [TldR, gi, a2 11 (by omega) (by omega), a2 12 (by omega) (by omega), d2 69 (by omega) (by omega), d3 26 (by omega)] at h2 ⊢; exact h2
    · simp only [UnkR, gi, a2 11 (by omega) (by omega), a2 12 (by omega) (by omega), d2 71 (by omega) (by omega), d2 72 (by omega) (by omega), d3 30 (by omega)] at h3 ⊢; exact h3
    · rw [d2 70 (by omega) (by omega), a2 13 (by omega) (by omega), a2 25 (by omega) (by omega), a2 26 (by omega) (by omega), a2 27 (by omega) (by omega), a2 28 (by omega) (by omega), a2 29 (by omega) (by omega)]; exact h4
    · simp only [ImgR, gi, a2 30 (by omega) (by omega), d3 57 (by omega), d2 89 (by omega) (by omega), a2 13 (by omega) (by omega), a2 33 (by omega) (by omega), a2 34 (by omega) (by omega), a2 35 (by omega) (by omega), a2 36 (by omega) (by omega), a2 32 (by omega) (by omega)] at h7 ⊢; exact h7
    · simp only [StrR, gi, a2 43 (by omega) (by omega), a2 42 (by omega) (by omega), d3 49 (by omega), d2 81 (by omega) (by omega), d2 82 (by omega) (by omega), d2 83 (by omega) (by omega), d2 84 (by omega) (by omega)] at h8 ⊢; exact h8
    · by_cases y : i < n
      · obtain ⟨b, b1, b2, b3, b4⟩ := n4 i y
        exact ⟨b, b1, b2, (a4 i y).trans b3, (d4 i y).trans b4⟩
      · exact nb i (by omega) hi
    · simp only [FogR, gi, a2 40 (by omega) (by omega), d3 32 (by omega)] at h10 ⊢; exact h10
    · simp only [LawsR, LawC, LawT, gi, a2 20 (by omega) (by omega), a2 21 (by omega) (by omega), a2 22 (by omega) (by omega), d3 13 (by omega), d3 31 (by omega), d2 55 (by omega) (by omega), d2 56 (by omega) (by omega), d2 58 (by omega) (by omega), d2 59 (by omega) (by omega), d2 60 (by omega) (by omega), d2 61 (by omega) (by omega)] at h11 ⊢; exact h11
  · have cle : ¬ nI (n + cntN (fdQ c) 20) ≤ 240 := fun z => c0 ((q_le (b := 240) (by omega) (by omega)).mp z)
    rw [if_neg cle, if_neg cle, q_bind]
    exact ⟨_, _, rfl, rfl, rfl, rfl, hh⟩
end FD
