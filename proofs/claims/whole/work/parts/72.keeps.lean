/-! ===== acts kept: the ring ===== -/
section KP
variable {N K F R w : Nat} {U : List Nat} {X : List (List Cl)} {T S : Sm}
theorem al_o {S : Sm} {x i : Nat} (h : i < gNs S ∨ gNs S + 5 ≤ i) (h31 : i ≠ 31) : (alS S x).1 i = S.1 i := funext fun j => by
  show (if gNs S ≤ i ∧ i < gNs S + 5 then 0 else if i = 31 then _ else S.1 i j) = S.1 i j
  rw [if_neg (by omega), if_neg h31]
theorem al_l {S : Sm} {x i : Nat} (h : i < gNs S ∨ gNs S + 5 ≤ i) : (alS S x).2 i = S.2 i := funext fun j => by
  show (if gNs S ≤ i ∧ i < gNs S + 5 then 0 else S.2 i j) = S.2 i j
  rw [if_neg (by omega)]
theorem al_t31 {S : Sm} {x : Nat} (h : 91 ≤ gNs S) (j : Nat) : (alS S x).1 31 j = if j = x then nI (gNs S) else if j = 40 then nI (gNs S + 5) else if j = 1000 + gNs S then 1 else if j = 1001 + gNs S then 2 else if j = 1002 + gNs S then 3 else if j = 1003 + gNs S then 4 else if j = 1004 + gNs S then 5 else S.1 31 j := by
  show (if gNs S ≤ 31 ∧ 31 < gNs S + 5 then 0 else if 31 = 31 then _ else S.1 31 j) = _
  rw [if_neg (by omega), if_pos rfl]
theorem al_ok (h : RngR S w) (hw : w ≤ 1000) {x : Nat} (hx : x < 40) (e : gi S 31 x = 0) : RngR (alS S x) w ∧ gNs (alS S x) = gNs S + 5 ∧ gi (alS S x) 31 x = nI (gNs S) ∧ ∀ k, k < 40 → k ≠ x → gi (alS S x) 31 k = gi S 31 k := by
  obtain ⟨⟨r1, r2, r3⟩, r4, r5⟩ := h
  have hz : ¬ nI (gNs S) = 0 := fun z => absurd ((q_eq (b := 0) (by omega) (by omega)).mp z) (by omega)
  have hx1 : gi (alS S x) 31 x = nI (gNs S) := by
    rw [show gi (alS S x) 31 x = (alS S x).1 31 x from rfl, al_t31 r1, if_pos rfl]
  have hn : gNs (alS S x) = gNs S + 5 := by
    show ix ((alS S x).1 31 40) = _
    rw [al_t31 r1, if_neg (by omega), if_pos rfl, q_ix (by omega)]
  have ho : ∀ k, k < 40 → k ≠ x → gi (alS S x) 31 k = gi S 31 k := fun k hk hn => by
    rw [show gi (alS S x) 31 k = (alS S x).1 31 k from rfl, al_t31 r1, if_neg hn, if_neg (by omega), if_neg (by omega), if_neg (by omega), if_neg (by omega), if_neg (by omega), if_neg (by omega)]
    rfl
  have hlo : ∀ y, y < gNs S → (alS S x).1 31 (1000 + y) = S.1 31 (1000 + y) := fun y hy => by
    rw [al_t31 r1, if_neg (by omega), if_neg (by omega), if_neg (by omega), if_neg (by omega), if_neg (by omega), if_neg (by omega), if_neg (by omega)]
  have cnt := fl_one (p := fun j => decide (gi S 31 j = 0)) (q := fun j => decide (gi (alS S x) 31 j = 0)) (x := x) (m := 40) (decide_eq_true e) (decide_eq_false (by rw [hx1]; exact hz)) (fun j hj hne => by
    show decide (gi (alS S x) 31 j = 0) = decide (gi S 31 j = 0)
    rw [ho j hj hne]) 40 (Nat.le_refl _)
  rw [if_pos hx] at cnt
  have cnt : ((List.range 40).filter fun j => decide (gi S 31 j = 0)).length = ((List.range 40).filter fun j => decide (gi (alS S x) 31 j = 0)).length + 1 := cnt
  have bk : ∀ k, k < 40 → k ≠ x → gi S 31 k ≠ 0 → ix (gi S 31 k) + 5 ≤ gNs S := fun k hk _ hne => (r3 k hk hne).2.1
  refine ⟨⟨⟨by omega, by rw [hn]; omega, fun j hj hne => ?_⟩, fun i j hi hj hij a b => ?_, ?_⟩, hn, hx1, ho⟩
  · by_cases c : j = x
    · subst c
      rw [hx1, q_ix (by omega)]
      refine ⟨r1, ?_, ?_, ?_, ?_, ?_, ?_⟩
      · have : ix ((alS S j).1 31 40) = gNs S + 5 := hn
        omega
      · rw [al_t31 r1, if_neg (by omega), if_neg (by omega), if_pos rfl]
      · rw [al_t31 r1, if_neg (by omega), if_neg (by omega), if_neg (by omega), if_pos (by omega)]
      · rw [al_t31 r1, if_neg (by omega), if_neg (by omega), if_neg (by omega), if_neg (by omega), if_pos (by omega)]
      · rw [al_t31 r1, if_neg (by omega), if_neg (by omega), if_neg (by omega), if_neg (by omega), if_neg (by omega), if_pos (by omega)]
      · rw [al_t31 r1, if_neg (by omega), if_neg (by omega), if_neg (by omega), if_neg (by omega), if_neg (by omega), if_neg (by omega), if_pos (by omega)]
    · rw [ho j hj c] at hne ⊢
      obtain ⟨c1, c2, c3, c4, c5, c6, c7⟩ := r3 j hj hne
      have c2' : ix (gi S 31 j) + 5 ≤ gNs S := c2
      refine ⟨c1, ?_, ?_, ?_, ?_, ?_, ?_⟩
      · have : ix ((alS S x).1 31 40) = gNs S + 5 := hn
        omega
      · rw [hlo _ (by omega)]; exact c3
      · rw [hlo _ (by omega)]; exact c4
      · rw [hlo _ (by omega)]; exact c5
      · rw [hlo _ (by omega)]; exact c6
      · rw [hlo _ (by omega)]; exact c7
  · by_cases ci : i = x
    · subst ci
      have cj : j ≠ i := fun z => hij z.symm
      rw [ho j hj cj] at b ⊢
      rw [hx1, q_ix (by omega)]
      exact Or.inr (bk j hj cj b)
    · rw [ho i hi ci] at a ⊢
      by_cases cj : j = x
      · subst cj
        rw [hx1, q_ix (by omega)]
        exact Or.inl (bk i hi ci a)
      · rw [ho j hj cj] at b ⊢
        exact r4 i j hi hj hij a b
  · rw [hn]; omega
/-- the slot to be written has a moment -/
theorem al_if (h : RngR S w) (hw : w ≤ 1000) {x : Nat} (hx : x < 40) : ∃ S0, (if gi S 31 x = 0 then alS S x else S) = S0 ∧ RngR S0 w ∧ gNs S ≤ gNs S0 ∧ gi S0 31 x ≠ 0 ∧ (∀ k, k < 40 → k ≠ x → gi S0 31 k = gi S 31 k) ∧ (∀ i, i < gNs S → i ≠ 31 → S0.1 i = S.1 i) ∧ ∀ i, i < gNs S → S0.2 i = S.2 i := by
  by_cases c : gi S 31 x = 0
  · obtain ⟨a1, a2, a3, a4⟩ := al_ok h hw hx c
    refine ⟨alS S x, if_pos c, a1, by omega, ?_, a4, fun i hi h31 => al_o (Or.inl hi) h31, fun i hi => al_l (Or.inl hi)⟩
    rw [a3]
    have := h.1.1
    have := h.1.2.1
    exact fun z => absurd ((q_eq (b := 0) (by omega) (by omega)).mp z) (by omega)
  · exact ⟨S, if_neg c, h, Nat.le_refl _, c, fun k _ _ => rfl, fun i _ _ => rfl, fun i _ => rfl⟩
theorem kp_S (h : RngR S w) (hw : w ≤ 1000) {a x : Nat} (ha : a ≤ 40) (hx : x < 40) (e4 : gi S 30 4 = nI a) (e5 : gi S 30 5 = nI x) : Ac_keep S = some (kpS S) ∧ RngR (kpS S) w ∧ gNs S ≤ gNs (kpS S) ∧ (∀ b, b < 91 → b ≠ 30 → b ≠ 31 → (kpS S).1 b = S.1 b) ∧ (∀ k, k ≠ 4 → k ≠ 5 → (kpS S).1 30 k = S.1 30 k) ∧ (∀ b, b < 91 → (kpS S).2 b = S.2 b) ∧ gi (kpS S) 30 4 = nI (min (a + 1) 40) ∧ gi (kpS S) 30 5 = nI ((x + 1) % 40) ∧ (∀ k, k < 40 → k ≠ x → gi (kpS S) 31 k = gi S 31 k ∧ (gi S 31 k ≠ 0 → ∀ t, t < 5 → (kpS S).1 (ix (gi S 31 k) + t) = S.1 (ix (gi S 31 k) + t))) ∧ gi (kpS S) 31 x ≠ 0 ∧ ∃ b, b = ix (gi (kpS S) 31 x) ∧ (∀ k, k < 56 → (kpS S).1 (b + 1) k = S.1 26 k) ∧ (∀ k, k < 40 → (kpS S).1 (b + 2) k = S.1 27 k) ∧ (∀ k, k < 8 → (kpS S).1 (b + 3) k = S.1 28 k) ∧ (∀ k, k < 60 → (kpS S).1 (b + 4) k = S.1 29 k) ∧ ∀ k, 4 ≤ k → k < 8 → (kpS S).1 b k = S.1 25 k := by
  obtain ⟨S0, d, s1, s2, s3, s4, s5, s6⟩ := al_if h hw hx
  have r1 := h.1.1
  have ib : inb (gi S 30 5) 40 := by rw [e5]; exact nI_in (by omega) (by omega)
  have hk : Ac_keep S = some (kpS S) := by
    unfold Ac_keep
    exact @if_pos _ (Classical.propDecidable _) ⟨h.1, ib⟩ _ _ _
  obtain ⟨c1, c2, c3, c4, c5, c6, c7⟩ := s1.1.2.2 x hx s3
  have c2' : ix (gi S0 31 x) + 5 ≤ gNs S0 := c2
  have ek : kpS S = si (si (bcS S0 (ix (gi S0 31 x)) 25) 30 5 (nI ((x + 1) % 40))) 30 4 (nI (min (a + 1) 40)) := by
    unfold kpS
    have e5' : ix (gi S 30 5) = x := by rw [e5, q_ix (by omega)]
    simp only [e5', d]
    have g5 : gi (bcS S0 (ix (gi S0 31 x)) 25) 30 5 = nI x := by
      show (bcS S0 (ix (gi S0 31 x)) 25).1 30 5 = _
      rw [bc_o (by omega) (Or.inl (by omega)), s5 30 (by omega) (by omega)]; exact e5
    have g4 : ∀ v, gi (si (bcS S0 (ix (gi S0 31 x)) 25) 30 5 v) 30 4 = nI a := fun v => by
      show (bcS S0 (ix (gi S0 31 x)) 25).1 30 4 = _
      rw [bc_o (by omega) (Or.inl (by omega)), s5 30 (by omega) (by omega)]; exact e4
    rw [g5, g4, show (1 : Int32) = nI 1 from rfl, show (40 : Int32) = nI 40 from rfl, q_add, q_add, q_rem (by omega) (by omega) (by omega), q_min (by omega) (by omega)]
  generalize hb : ix (gi S0 31 x) = b at *
  have low : ∀ i, i < b ∨ b + 5 ≤ i → i ≠ 30 → (kpS S).1 i = S0.1 i := fun i hi h30 => by
    rw [ek, si_row h30, si_row h30, bc_o (by omega) hi]
  have h31 : (kpS S).1 31 = S0.1 31 := low 31 (Or.inl (by omega)) (by omega)
  have hi : ∀ i, 91 ≤ i → (kpS S).1 i = (bcS S0 b 25).1 i := fun i hi => by
    rw [ek, si_row (by omega), si_row (by omega)]
  obtain ⟨p1, p2, p3, p4, p5⟩ := bc_c (S := S0) (a := b) (b := 25) (Or.inl (by omega))
  refine ⟨hk, s1.of h31, ?_, fun i hi h0 h1 => ?_, fun k k4 k5 => ?_, fun i hi => ?_, ?_, ?_, fun k hk hne => ⟨?_, fun hne0 t ht => ?_⟩, ?_, b, ?_, fun k hk => ?_, fun k hk => ?_, fun k hk => ?_, fun k hk => ?_, fun k h4 hk => ?_⟩
  · show _ ≤ ix ((kpS S).1 31 40)
    rw [h31]; exact s2
  · rw [low i (Or.inl (by omega)) h0, s5 i (by omega) h1]
  · rw [ek]
    show (if 30 = 30 ∧ k = 4 then _ else if 30 = 30 ∧ k = 5 then _ else (bcS S0 b 25).1 30 k) = _
    rw [if_neg (fun e => k4 e.2), if_neg (fun e => k5 e.2), bc_o (by omega) (Or.inl (by omega)), s5 30 (by omega) (by omega)]
  · rw [ek]
    show S0.2 i = S.2 i
    exact s6 i (by omega)
  · rw [ek]; rfl
  · rw [ek]; rfl
  · show (kpS S).1 31 k = _
    rw [h31]; exact s4 k hk hne
  · have k0 : gi S0 31 k = gi S 31 k := s4 k hk hne
    have d1 := s1.2.1 k x hk hx hne (by rw [k0]; exact hne0) s3
    rw [k0, hb] at d1
    obtain ⟨q1, q2, -⟩ := h.1.2.2 k hk hne0
    have q2' : ix (gi S 31 k) + 5 ≤ gNs S := q2
    rw [low _ (by omega) (by omega), s5 _ (by omega) (by omega)]
  · show (kpS S).1 31 x ≠ 0
    rw [h31]; exact s3
  · rw [show gi (kpS S) 31 x = gi S0 31 x from congrFun h31 x, hb]
  · rw [hi _ (by omega), p1 k hk]; exact congrFun (s5 26 (by omega) (by omega)) k
  · rw [hi _ (by omega), p2 k hk]; exact congrFun (s5 27 (by omega) (by omega)) k
  · rw [hi _ (by omega), p3 k hk]; exact congrFun (s5 28 (by omega) (by omega)) k
  · rw [hi _ (by omega), p4 k hk]; exact congrFun (s5 29 (by omega) (by omega)) k
  · rw [hi _ (by omega), p5 k h4 hk]; exact congrFun (s5 25 (by omega) (by omega)) k
/-- what a keeping leaves as it was -/
def KpF (T T' S S' : Sm) : Prop := gNs S ≤ gNs S' ∧ (∀ b, b < 91 → b ≠ 30 → b ≠ 31 → S'.1 b = S.1 b) ∧ (∀ b, b ≠ 73 → b ≠ 53 → T'.1 b = T.1 b) ∧ (∀ j, j ≠ 34 → T'.1 53 j = T.1 53 j) ∧ T'.2 = T.2 ∧ ∀ b, b < 91 → S'.2 b = S.2 b
theorem keep_ok (h : RelP N K F R U X w T S) (hw : w ≤ 1000) : ∃ T', Md_keep T = some T' ∧ Ac_keep S = some (kpS S) ∧ RelP N K F R U X w T' (kpS S) ∧ KpF T T' S (kpS S) := by
  obtain ⟨h1, h2, h3, h4, h5, ⟨a, x, ha, hx, m1, m2, m3, m4⟩, h7, h8, h9, h10, h11⟩ := h
  obtain ⟨T', t1, t2, t3, t4, t5, t6, t7⟩ := md_keep ha m1
  obtain ⟨k1, k2, k3, k4, k5, k6, k7, k8, k9, k10, b, k11, k12⟩ := kp_S h5 hw ha hx m2 m3
  refine ⟨T', t1, k1, ⟨?_, ?_, ?_, ?_, k2, ⟨min (a + 1) 40, (x + 1) % 40, by omega, by omega, t5, k7, k8, fun j hj => ?_⟩, ?_, ?_, ?_, ?_, ?_⟩, k3, k4, t3, t4, t2, k6⟩
  · simp only [NetR, gi, k4 11 (by omega) (by omega) (by omega), t3 68 (by omega) (by omega)] at h1 ⊢; exact h1
  · simp only [TldR, gi, k4 11 (by omega) (by omega) (by omega), k4 12 (by omega) (by omega) (by omega), t3 69 (by omega) (by omega), t4 26 (by omega)] at h2 ⊢; exact h2
  · simp only [UnkR, gi, k4 11 (by omega) (by omega) (by omega), k4 12 (by omega) (by omega) (by omega), t3 71 (by omega) (by omega), t3 72 (by omega) (by omega), t4 30 (by omega)] at h3 ⊢; exact h3
  · rw [t3 70 (by omega) (by omega), k4 13 (by omega) (by omega) (by omega), k4 25 (by omega) (by omega) (by omega), k4 26 (by omega) (by omega) (by omega), k4 27 (by omega) (by omega) (by omega), k4 28 (by omega) (by omega) (by omega), k4 29 (by omega) (by omega) (by omega)]; exact h4
  · by_cases c : j = min (a + 1) 40 - 1
    · have es : slot ((x + 1) % 40) (min (a + 1) 40) j = x := by unfold slot; omega
      rw [es]
      refine ⟨k10, ?_⟩
      rw [← k11]
      have e13 : (kpS S).1 13 = S.1 13 := k4 13 (by omega) (by omega) (by omega)
      unfold MoK
      rw [c]
      exact h4.ext (fun k hk => t6 k hk) k12.1 k12.2.1 k12.2.2.1 k12.2.2.2.1 k12.2.2.2.2 fun k _ => congrFun e13 k
    · have es : slot ((x + 1) % 40) (min (a + 1) 40) j = slot x a (if a = 40 then j + 1 else j) := by
        unfold slot
        split <;> omega
      have jj : (if a = 40 then j + 1 else j) < a := by split <;> omega
      have nx : slot x a (if a = 40 then j + 1 else j) ≠ x := by
        unfold slot
        split <;> omega
      have t7' := t7 j (by omega)
      rw [es]
      generalize (if a = 40 then j + 1 else j) = j' at *
      obtain ⟨c1, c2⟩ := m4 j' jj
      have sl : slot x a j' < 40 := Nat.mod_lt _ (by omega)
      obtain ⟨d1, d2⟩ := k9 _ sl nx
      have d3 := d2 c1
      rw [d1]
      refine ⟨c1, ?_⟩
      have e13 : (kpS S).1 13 = S.1 13 := k4 13 (by omega) (by omega) (by omega)
      unfold MoK at c2 ⊢
      rw [d3 1 (by omega), d3 2 (by omega), d3 3 (by omega), d3 4 (by omega), show (kpS S).1 (ix (gi S 31 (slot x a j'))) = S.1 (ix (gi S 31 (slot x a j'))) from d3 0 (by omega)]
      exact c2.ext (fun k hk => t7' k hk) (fun _ _ => rfl) (fun _ _ => rfl) (fun _ _ => rfl) (fun _ _ => rfl) (fun _ _ _ => rfl) fun k _ => congrFun e13 k
  · have e30 : (kpS S).1 30 3 = S.1 30 3 := k5 3 (by omega) (by omega)
    simp only [ImgR, gi, e30, t4 57 (by omega), t3 89 (by omega) (by omega), k4 13 (by omega) (by omega) (by omega), k4 33 (by omega) (by omega) (by omega), k4 34 (by omega) (by omega) (by omega), k4 35 (by omega) (by omega) (by omega), k4 36 (by omega) (by omega) (by omega), k4 32 (by omega) (by omega) (by omega)] at h7 ⊢; exact h7
  · simp only [StrR, gi, k4 43 (by omega) (by omega) (by omega), k4 42 (by omega) (by omega) (by omega), t4 49 (by omega), t3 81 (by omega) (by omega), t3 82 (by omega) (by omega), t3 83 (by omega) (by omega), t3 84 (by omega) (by omega)] at h8 ⊢; exact h8
  · simp only [TapR, gi, k4 9 (by omega) (by omega) (by omega), k4 8 (by omega) (by omega) (by omega), t4 2 (by omega), t3 54 (by omega) (by omega)] at h9 ⊢; exact h9
  · simp only [FogR, gi, k4 40 (by omega) (by omega) (by omega), t4 32 (by omega)] at h10 ⊢; exact h10
  · simp only [LawsR, LawC, LawT, gi, k4 20 (by omega) (by omega) (by omega), k4 21 (by omega) (by omega) (by omega), k4 22 (by omega) (by omega) (by omega), t4 13 (by omega), t4 31 (by omega), t3 55 (by omega) (by omega), t3 56 (by omega) (by omega), t3 58 (by omega) (by omega), t3 59 (by omega) (by omega), t3 60 (by omega) (by omega), t3 61 (by omega) (by omega)] at h11 ⊢; exact h11
theorem KepR.of2 {T' S' : Sm} (h : KepR N K U T S) (hr : RngR S w) (hb : ∀ b, 91 ≤ b → S'.1 b = S.1 b) (h4 : S'.1 30 4 = S.1 30 4) (h5 : S'.1 30 5 = S.1 30 5) (h31 : ∀ k, k < 40 → gi S' 31 k = gi S 31 k) (h13 : S'.1 13 = S.1 13) (t73 : T'.1 73 = T.1 73) (t34 : T'.1 53 34 = T.1 53 34) : KepR N K U T' S' := by
  obtain ⟨a, x, b1, b2, b3, b4, b5, b6⟩ := h
  refine ⟨a, x, b1, b2, t34.trans b3, h4.trans b4, h5.trans b5, fun j hj => ?_⟩
  obtain ⟨c1, c2⟩ := b6 j hj
  have hsl : slot x a j < 40 := Nat.mod_lt _ (by omega)
  have hb9 := (hr.1.2.2 _ hsl c1).1
  rw [h31 _ hsl]
  refine ⟨c1, ?_⟩
  clear c1 b6
  generalize ix (gi S 31 (slot x a j)) = b at c2 hb9 ⊢
  unfold MoK at c2 ⊢
  rw [hb (b + 1) (by omega), hb (b + 2) (by omega), hb (b + 3) (by omega), hb (b + 4) (by omega), hb b hb9, h13]
  simp only [gi, t73] at c2 ⊢
  exact c2
/-- only the moment and what is kept change -/
theorem RelP.mom {T' S' : Sm} (h : RelP N K F R U X w T S) (hS : ∀ b, b < 25 ∨ 30 < b → b ≠ 41 → S'.1 b = S.1 b) (h30 : S'.1 30 3 = S.1 30 3) (hT : ∀ b, b ≠ 70 → b ≠ 74 → b ≠ 53 → T'.1 b = T.1 b) (h53 : ∀ j, j ≠ 34 → T'.1 53 j = T.1 53 j) (hm : MoR N K U (S.1 13) (T'.1 70) (S'.1 26) (S'.1 27) (S'.1 28) (S'.1 29) (S'.1 25)) (hk : KepR N K U T' S') : RelP N K F R U X w T' S' := by
  obtain ⟨h1, h2, h3, h4, h5, h6, h7, h8, h9, h10, h11⟩ := h
  refine ⟨?_, ?_, ?_, ?_, h5.of (hS 31 (by omega) (by omega)), hk, ?_, ?_, ?_, ?_, ?_⟩
  · simp only [NetR, gi, hS 11 (by omega) (by omega), hT 68 (by omega) (by omega) (by omega)] at h1 ⊢; exact h1
  · simp only [TldR, gi, hS 11 (by omega) (by omega), hS 12 (by omega) (by omega), hT 69 (by omega) (by omega) (by omega), h53 26 (by omega)] at h2 ⊢; exact h2
  · simp only [UnkR, gi, hS 11 (by omega) (by omega), hS 12 (by omega) (by omega), hT 71 (by omega) (by omega) (by omega), hT 72 (by omega) (by omega) (by omega), h53 30 (by omega)] at h3 ⊢; exact h3
  · rw [hS 13 (by omega) (by omega)]; exact hm
  · simp only [ImgR, gi, h30, h53 57 (by omega), hT 89 (by omega) (by omega) (by omega), hS 13 (by omega) (by omega), hS 33 (by omega) (by omega), hS 34 (by omega) (by omega), hS 35 (by omega) (by omega), hS 36 (by omega) (by omega), hS 32 (by omega) (by omega)] at h7 ⊢; exact h7
  · simp only [StrR, gi, hS 43 (by omega) (by omega), hS 42 (by omega) (by omega), h53 49 (by omega), hT 81 (by omega) (by omega) (by omega), hT 82 (by omega) (by omega) (by omega), hT 83 (by omega) (by omega) (by omega), hT 84 (by omega) (by omega) (by omega)] at h8 ⊢; exact h8
  · simp only [TapR, gi, hS 9 (by omega) (by omega), hS 8 (by omega) (by omega), h53 2 (by omega), hT 54 (by omega) (by omega) (by omega)] at h9 ⊢; exact h9
  · simp only [FogR, gi, hS 40 (by omega) (by omega), h53 32 (by omega)] at h10 ⊢; exact h10
  · simp only [LawsR, LawC, LawT, gi, hS 20 (by omega) (by omega), hS 21 (by omega) (by omega), hS 22 (by omega) (by omega), h53 13 (by omega), h53 31 (by omega), hT 55 (by omega) (by omega) (by omega), hT 56 (by omega) (by omega) (by omega), hT 58 (by omega) (by omega) (by omega), hT 59 (by omega) (by omega) (by omega), hT 60 (by omega) (by omega) (by omega), hT 61 (by omega) (by omega) (by omega)] at h11 ⊢; exact h11
/-- only the moment changes -/
theorem RelP.now {T' S' : Sm} (h : RelP N K F R U X w T S) (hS : ∀ b, b < 25 ∨ 30 ≤ b → b ≠ 41 → S'.1 b = S.1 b) (hT : ∀ b, b ≠ 70 → b ≠ 74 → T'.1 b = T.1 b) (hm : MoR N K U (S.1 13) (T'.1 70) (S'.1 26) (S'.1 27) (S'.1 28) (S'.1 29) (S'.1 25)) : RelP N K F R U X w T' S' :=
  h.mom (fun b hb h4 => hS b (by omega) h4) (congrFun (hS 30 (by omega) (by omega)) 3) (fun b h1 h2 _ => hT b h1 h2) (fun j _ => congrFun (hT 53 (by omega) (by omega)) j) hm (h.2.2.2.2.2.1.of h.2.2.2.2.1 (fun b hb => hS b (by omega) (by omega)) (hS 30 (by omega) (by omega)) (fun k _ => congrFun (hS 31 (by omega) (by omega)) k) (hS 13 (by omega) (by omega)) (hT 73 (by omega) (by omega)) (congrFun (hT 53 (by omega) (by omega)) 34))
end KP
