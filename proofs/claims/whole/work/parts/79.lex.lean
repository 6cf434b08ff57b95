/-! ===== the tape, read by both ===== -/
def lxs (n : Nat) (b : Nat → Nat) (k : Nat) : Int32 := if k < n then nI (b k) else mI
def LxN (n : Nat) (b : Nat → Nat) (k : Nat) : Prop := ¬ (k < n ∧ b k = 32)
def LxB (n : Nat) (b : Nat → Nat) (T S : Sm) : Prop := n ≤ 240 ∧ (∀ i, i < n → 1 ≤ b i ∧ b i ≤ 255) ∧ gi S 8 1 = nI n ∧ (∀ i, i < n → gi S 9 i = nI (b i)) ∧ gi T 53 2 = nI n ∧ ∀ i, i < n → gi T 54 i = nI (b i)
/-- no fault as yet, both stand at i -/
def LxO (n : Nat) (b : Nat → Nat) (i : Nat) (T S : Sm) : Prop := LxB n b T S ∧ gi S 8 3 = mI ∧ gi T 53 4 = mI ∧ gi S 8 2 = nI i ∧ gi T 53 3 = nI i ∧ i ≤ n
theorem lx_ss {S : Sm} {i j : Nat} {v u : Int32} : si (si S i j v) i j u = si S i j u := by
  refine Prod.ext (funext fun x => funext fun y => ?_) rfl
  show (if x = i ∧ y = j then u else if x = i ∧ y = j then v else S.1 x y) = if x = i ∧ y = j then u else S.1 x y
  by_cases w : x = i ∧ y = j
  · rw [if_pos w, if_pos w]
  · rw [if_neg w, if_neg w, if_neg w]
theorem lxs_in {n : Nat} {b : Nat → Nat} {k : Nat} (h : k < n) : lxs n b k = nI (b k) := if_pos h
theorem lxs_out {n : Nat} {b : Nat → Nat} {k : Nat} (h : ¬ k < n) : lxs n b k = mI := if_neg h
section LX
variable {n : Nat} {b : Nat → Nat} {T S : Sm}
theorem lxs_eq (h : ∀ i, i < n → 1 ≤ b i ∧ b i ≤ 255) {k c : Nat} (hc : c < 2147483648) : lxs n b k = nI c ↔ k < n ∧ b k = c := by
  by_cases x : k < n
  · rw [lxs_in x, q_eq (by have := h k x; omega) hc]
    exact ⟨fun e => ⟨x, e⟩, fun e => e.2⟩
  · rw [lxs_out x]
    exact ⟨fun e => absurd e fun e => (q_meq hc).mp e, fun e => absurd e.1 x⟩
theorem lx_here (h : LxB n b T S) {i : Nat} (hi : gi T 53 3 = nI i) (h5 : i < 1000) : Md_here T = some (lxs n b i) := by
  obtain ⟨h1, h2, h3, h4, h5', h6⟩ := h
  unfold Md_here Md_here_24
  rw [hi, h5']
  by_cases x : i < n
  · rw [if_neg (show ¬ nI n ≤ nI i from fun z => by have := (q_le (by omega) (by omega)).mp z; omega), if_pos (nI_in (by omega) (by omega)), q_ix (by omega), h6 i x, lxs_in x]
  · rw [if_pos ((q_le (by omega) (by omega)).mpr (by omega)), lxs_out x]; rfl
theorem LxB.move (h : LxB n b T S) {i j : Nat} : LxB n b (si T 53 3 (nI i)) (si S 8 2 (nI j)) := by
  obtain ⟨h1, h2, h3, h4, h5, h6⟩ := h
  exact ⟨h1, h2, (tb_n (fun e => absurd e.2 (by decide))).trans h3, fun i hi => (tb_n (fun e => absurd e.1 (by decide))).trans (h4 i hi), (tb_n (fun e => absurd e.2 (by decide))).trans h5, fun i hi => (tb_n (fun e => absurd e.1 (by decide))).trans (h6 i hi)⟩
theorem LxO.move {i : Nat} (h : LxO n b i T S) {k : Nat} (hk : k ≤ n) : LxO n b k (si T 53 3 (nI k)) (si S 8 2 (nI k)) := by
  obtain ⟨h1, h2, h3, h4, h5, h6⟩ := h
  exact ⟨h1.move, (tb_n (fun e => absurd e.2 (by decide))).trans h2, (tb_n (fun e => absurd e.2 (by decide))).trans h3, tb_h, tb_h, hk⟩
theorem lx_look {i : Nat} (h : LxO n b i T S) : ∃ k, i ≤ k ∧ k ≤ n ∧ LxN n b k ∧ Tp_sign S = some (lxs n b k, si S 8 2 (nI k)) ∧ Md_look T = some (lxs n b k, si T 53 3 (nI k)) := by
  obtain ⟨⟨h1, h2, h3, h4, h5, h6⟩, f1, f2, f3, f4, hi⟩ := h
  obtain ⟨j, hj, j1, j2⟩ := first_ex (fun t => ¬ (i + t < n ∧ b (i + t) = 32)) 241
  have j3 : ∀ t, t < j → i + t < n ∧ b (i + t) = 32 := fun t ht => Classical.not_not.mp (j1 t ht)
  have jn : i + j ≤ n := by
    by_cases z : j = 0
    · omega
    · have := (j3 (j - 1) (by omega)).1; omega
  have hb : ¬ (i + j < n ∧ b (i + j) = 32) := j2 (by omega)
  have c0 : S = si S 8 2 (nI (i + 0)) := (si_same f3).symm
  have d0 : T = si T 53 3 (nI (i + 0)) := (si_same f4).symm
  have s82 : ∀ v, gi (si S 8 2 v) 8 2 = v := fun v => tb_h
  have s9 : ∀ v k, gi (si S 8 2 v) 9 k = gi S 9 k := fun v k => tb_n (fun e => absurd e.1 (by decide))
  have ng : ∀ t, t ≤ n → ¬ nI t < 0 := fun t ht => nI_pos (by omega)
  have lk : lpN (Tp_sign_L23 (nI n)) FU S = some (si S 8 2 (nI (i + j))) := by
    refine lpN_run0 (fun t => si S 8 2 (nI (i + t))) j (by omega) (fun t ht => ?_) ?_ c0
    · obtain ⟨a1, a2⟩ := j3 t ht
      unfold Tp_sign_L23
      rw [s82, s9, if_neg (ng _ (by omega)), if_neg (show ¬ nI n ≤ nI (i + t) from fun z => by have := (q_le (by omega) (by omega)).mp z; omega), if_pos (nI_in (by omega) (by omega)), q_ix (by omega), h4 _ a1, a2, if_pos (show nI 32 = 32 from rfl), lx_ss, show nI (i + t) + 1 = nI (i + (t + 1)) from q_add (i + t) 1]
    · unfold Tp_sign_L23
      rw [s82, s9, if_neg (ng _ jn)]
      by_cases y : i + j < n
      · rw [if_neg (show ¬ nI n ≤ nI (i + j) from fun z => by have := (q_le (by omega) (by omega)).mp z; omega), if_pos (nI_in (by omega) (by omega)), q_ix (by omega), h4 _ y, if_neg (show ¬ nI (b (i + j)) = 32 from fun e => hb ⟨y, (q_eq (b := 32) (by have := h2 _ y; omega) (by omega)).mp e⟩)]
      · rw [if_pos ((q_le (by omega) (by omega)).mpr (by omega))]
  have hr : ∀ t, i + t ≤ n → Md_here (si T 53 3 (nI (i + t))) = some (lxs n b (i + t)) := fun t ht =>
    lx_here (S := S) (LxB.move (i := i + t) (j := 0) ⟨h1, h2, h3, h4, h5, h6⟩ |> fun (x : LxB n b (si T 53 3 (nI (i + t))) (si S 8 2 (nI 0))) => ⟨h1, h2, h3, h4, x.2.2.2.2.1, x.2.2.2.2.2⟩) tb_h (by omega)
  have lt : lpN Md_look_L0 FU T = some (si T 53 3 (nI (i + j))) := by
    refine lpN_run0 (fun t => si T 53 3 (nI (i + t))) j (by omega) (fun t ht => ?_) ?_ d0
    · obtain ⟨a1, a2⟩ := j3 t ht
      unfold Md_look_L0
      rw [hr t (by omega), q_bind, lxs_in a1, a2, if_pos (show nI 32 = 32 from rfl), show gi (si T 53 3 (nI (i + t))) 53 3 = nI (i + t) from tb_h, lx_ss, show nI (i + t) + 1 = nI (i + (t + 1)) from q_add (i + t) 1]
    · unfold Md_look_L0
      rw [hr j jn, q_bind, if_neg (show ¬ lxs n b (i + j) = 32 from fun e => hb ((lxs_eq h2 (c := 32) (by omega)).mp e))]
  refine ⟨i + j, by omega, jn, hb, ?_, ?_⟩
  · have m240 : iMin (nI n) 240 = nI n := by
      rw [show (240 : Int32) = nI 240 from rfl, q_min (by omega) (by omega), Nat.min_eq_left h1]
    unfold Tp_sign Tp_sign_92 Tp_sign_93
    rw [f1, if_pos (show mI = -1 from rfl), h3, m240, lk, q_bind, s82, s9, if_neg (ng _ jn)]
    by_cases y : i + j < n
    · rw [if_neg (show ¬ nI n ≤ nI (i + j) from fun z => by have := (q_le (by omega) (by omega)).mp z; omega), if_pos (nI_in (by omega) (by omega)), q_ix (by omega), h4 _ y, lxs_in y]
    · rw [if_pos ((q_le (by omega) (by omega)).mpr (by omega)), lxs_out y]; rfl
  · unfold Md_look
    rw [lt, q_bind, hr j jn]; rfl
/-- where one stands at no blank -/
theorem lx_at {i : Nat} (h : LxO n b i T S) (hb : LxN n b i) : Tp_sign S = some (lxs n b i, S) ∧ Md_look T = some (lxs n b i, T) := by
  have hh := h
  obtain ⟨⟨h1, h2, h3, h4, h5, h6⟩, f1, f2, f3, f4, hi⟩ := h
  have m240 : iMin (nI n) 240 = nI n := by
    rw [show (240 : Int32) = nI 240 from rfl, q_min (by omega) (by omega), Nat.min_eq_left h1]
  have hr := lx_here hh.1 f4 (by omega)
  have lk : lpN (Tp_sign_L23 (nI n)) FU S = some S := by
    refine lpN_run0 (fun _ => S) 0 (by omega) (fun t ht => absurd ht (by omega)) ?_ rfl
    unfold Tp_sign_L23
    rw [f3, if_neg (nI_pos (by omega))]
    by_cases y : i < n
    · rw [if_neg (show ¬ nI n ≤ nI i from fun z => by have := (q_le (by omega) (by omega)).mp z; omega), if_pos (nI_in (by omega) (by omega)), q_ix (by omega), h4 _ y, if_neg (show ¬ nI (b i) = 32 from fun e => hb ⟨y, (q_eq (b := 32) (by have := h2 _ y; omega) (by omega)).mp e⟩)]
    · rw [if_pos ((q_le (by omega) (by omega)).mpr (by omega))]
  have lt : lpN Md_look_L0 FU T = some T := by
    refine lpN_run0 (fun _ => T) 0 (by omega) (fun t ht => absurd ht (by omega)) ?_ rfl
    unfold Md_look_L0
    rw [hr, q_bind, if_neg (show ¬ lxs n b i = 32 from fun e => hb ((lxs_eq h2 (c := 32) (by omega)).mp e))]
  constructor
  · unfold Tp_sign Tp_sign_92 Tp_sign_93
    rw [f1, if_pos (show mI = -1 from rfl), h3, m240, lk, q_bind, f3, if_neg (nI_pos (by omega))]
    by_cases y : i < n
    · rw [if_neg (show ¬ nI n ≤ nI i from fun z => by have := (q_le (by omega) (by omega)).mp z; omega), if_pos (nI_in (by omega) (by omega)), q_ix (by omega), h4 _ y, lxs_in y]
    · rw [if_pos ((q_le (by omega) (by omega)).mpr (by omega)), lxs_out y]; rfl
  · unfold Md_look
    rw [lt, q_bind, hr]; rfl
theorem lx_take {i : Nat} (h : LxO n b i T S) (hb : LxN n b i) (v : Int32) : Tp_take v S = if lxs n b i = v then some (1, si S 8 2 (nI (i + 1))) else some (0, S) := by
  unfold Tp_take Tp_take_13 Tp_take_28
  rw [(lx_at h hb).1, q_bind, h.2.2.2.1]
  by_cases y : lxs n b i = v
  · rw [if_pos y, if_pos y, if_neg (show ¬ (1 : Int32) = 0 by decide), show nI i + 1 = nI (i + 1) from q_add i 1]; rfl
  · rw [if_neg y, if_neg y, if_pos rfl, show nI i + 0 = nI i from q_add i 0, si_same h.2.2.2.1]; rfl
theorem lx_need {i : Nat} (h : LxO n b i T S) (hb : LxN n b i) (v : Int32) : Tp_need v S = some (if lxs n b i = v then si S 8 2 (nI (i + 1)) else si S 8 3 (nI i)) := by
  unfold Tp_need Tp_need_25 Tp_fail Tp_fail_16
  rw [(lx_at h hb).1, q_bind, h.2.2.2.1, h.2.1, if_pos (show mI = -1 from rfl)]
  by_cases y : lxs n b i = v
  · rw [if_pos y, if_pos y, show nI i + 1 = nI (i + 1) from q_add i 1]
  · rw [if_neg y, if_neg y]; rfl
theorem lx_fail {i : Nat} (h : LxO n b i T S) : Tp_fail S = si S 8 3 (nI i) ∧ Md_bad T = si T 53 4 (nI i) := by
  unfold Tp_fail Tp_fail_16 Md_bad Md_bad_20
  rw [h.2.2.2.1, h.2.1, h.2.2.2.2.1, h.2.2.1, if_pos (show mI = -1 from rfl), if_pos (show mI = -1 from rfl)]
  exact ⟨rfl, rfl⟩
end LX
