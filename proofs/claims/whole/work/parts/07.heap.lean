/-! ===== fields, arrays, new things, calls, ends: over a world ===== -/
def ftI (ty : FieldType) : Bool := match ty with
  | .int => true
  | .boolean => true
  | .char => true
  | .byte => true
  | .short => true
  | _ => false
def ftR (ty : FieldType) : Bool := match ty with
  | .object _ => true
  | .array _ => true
  | _ => false
theorem fv_I {Γ : Gm} {w : Wd} {ty : FieldType} {i k : Nat} (h : ftI ty = true) : fv Γ w ty i k = .int (gI w i k) := by cases ty <;> first | rfl | cases h
theorem fv_R {Γ : Gm} {w : Wd} {ty : FieldType} {i k : Nat} (h : ftR ty = true) : fv Γ w ty i k = va_rf ((gR w i k).map (ad Γ)) := by cases ty <;> first | rfl | cases h
theorem rv_rf (Γ : Gm) (x : Option Nat) : rv Γ (va_rf x) = va_rf (x.map (ad Γ)) := by cases x <;> rfl
theorem fv_cong {Γ : Gm} {w w1 : Wd} {ty : FieldType} {i k : Nat} (h1 : gI w1 i k = gI w i k) (h2 : gL w1 i k = gL w i k) (h3 : gR w1 i k = gR w i k) : fv Γ w1 ty i k = fv Γ w ty i k := by
  unfold fv
  rw [h1, h2, h3]
/-- a field's place: class C (its table T of N fields), entry idx of its own pool, number k -/
def FOK (C : String) (T : u_T) (N idx ci k : Nat) : Prop := vwCl[ci]? = some (C, T, N) ∧ k < N ∧ (∀ w ∈ u_ws C T N, w ∈ WS) ∧ Cond.fieldLink C idx (T k).1 (T k).2.1 (T k).2.2.1 ∈ WS ∧ (∀ j, j < N → parseFieldDescriptor (T j).2.2.1 = some (cty ci j)) ∧ (∀ a, a < N → ∀ b, b < N → a ≠ b → (T a).2.1 ≠ (T b).2.1) ∧ (T k).1 = C
theorem sI_at (w : Wd) (i j : Nat) (v : Int32) (a b : Nat) : gI (sI w i j v) a b = if a = i ∧ b = j then v else gI w a b := rfl
theorem sI_ne {w : Wd} {i j : Nat} {v : Int32} {a : Nat} (h : a ≠ i) (b : Nat) : gI (sI w i j v) a b = gI w a b := if_neg fun q => h q.1
theorem sL_ne {w : Wd} {i j : Nat} {v : Int64} {a : Nat} (h : a ≠ i) (b : Nat) : gL (sL w i j v) a b = gL w a b := if_neg fun q => h q.1
theorem sR_ne {w : Wd} {i j : Nat} {v : Option Nat} {a : Nat} (h : a ≠ i) (b : Nat) : gR (sR w i j v) a b = gR w a b := if_neg fun q => h q.1
section HR
variable {M : Mt} {l : Launch} {Γ : Gm} {R : Room} {Q : QT} {cells slots pc : Nat} {ls : List (Option Value)} {st : List Value} {w : Wd}
theorem gw_get {T : u_T} {N idx ci k i : Nat} {v : Value} (hd : decode M.2.1 pc = .ok (.getfield idx, 3)) (hf : FOK M.1.cls T N idx ci k) (hk : gK w i = some (.inl ci)) (hv : fv Γ w (cty ci k) i k = rv Γ v) (kk : G M l Γ R Q cells slots (pc + 3) ls (v :: st) w) : G M l Γ R Q cells slots pc ls (.ref i :: st) w := by
  intro p e s m args below meth c H locs la X hS hl
  obtain ⟨hc, hlt, hin, hlk, hty, hnm, hC⟩ := hf
  obtain ⟨q, h1, cell, q1, q2, q3, q4⟩ := hS.1.obj hk
  cases hc.symm.trans h1
  have hts := X.2.2.2.2.1
  obtain ⟨hSl, hfc, kC, hkC, hkind⟩ := X.2.2.2.2.2.2.2.2.1.1.1 ci _ hc
  obtain ⟨cf, kf, fi, f, hi, hsl⟩ := hSl k hlt
  rw [hC] at hi
  rw [hC] at hlk
  refine W.getf X.1 X.2.1 X.2.2.2.1 (hts _ hlk) hi (u_facts hfc hkC (u_lays hts hin hlt) (by rw [hC]; exact hi)).1 q1 (by rw [q3]; exact fun h => by cases h) (v := rv Γ v) ?_ rfl rfl hd (kk p e s m args below meth c H locs la X hS hl)
  rw [hsl, q4 k hlt]
  exact congrArg some hv
theorem gw_put {T : u_T} {N idx ci k i : Nat} {v : Value} {w1 : Wd} (hd : decode M.2.1 pc = .ok (.putfield idx, 3)) (hf : FOK M.1.cls T N idx ci k) (hk : gK w i = some (.inl ci)) (h7 : 7 ≤ i) (hfin : (T k).2.2.2 = false ∨ M.1.name = "<init>")
    (hn : narrow (cty ci k) (rv Γ v) = rv Γ v) (hfit : fits (cty ci k) (rv Γ v) = true) (e1 : w1.2.2.2 = w.2.2.2) (e2 : ∀ a, a ≠ i → ∀ b, gI w1 a b = gI w a b ∧ gL w1 a b = gL w a b ∧ gR w1 a b = gR w a b)
    (e3 : ∀ j, j ≠ k → gI w1 i j = gI w i j ∧ gL w1 i j = gL w i j ∧ gR w1 i j = gR w i j) (e4 : fv Γ w1 (cty ci k) i k = rv Γ v)
    (kk : G M l Γ R Q cells slots (pc + 3) ls st w1) : G M l Γ R Q cells slots pc ls (v :: .ref i :: st) w := by
  intro p e s m args below meth c H locs la X hS hl
  obtain ⟨hc, hlt, hin, hlk, hty, hnm, hC⟩ := hf
  obtain ⟨q, h1, cell, q1, q2, q3, q4⟩ := hS.1.obj hk
  cases hc.symm.trans h1
  have hts := X.2.2.2.2.1
  have hK := X.2.2.2.2.2.2.2.2.1.1
  have hap := va_apart (own := M.1.cls) hts hin (cty ci) hty hnm hK hc
  obtain ⟨hSl, hfc, kC, hkC, hkind⟩ := hK.1 ci _ hc
  obtain ⟨cf, kf, fi, f, hi, hsl⟩ := hSl k hlt
  have hlay := hts _ (hin _ (u_in_lay hlt))
  have hst := (u_facts hfc hkC (u_lays hts hin hlt) hi).1
  have key : ∀ (H1 : Heap), H1[ad Γ i]? = some (cell.setSlot f.slot (rv Γ v)) → H1.size = H.size → (∀ q, q ≠ ad Γ i → H1[q]? = H[q]?) → W p l e R s m args below meth c H1 (locs ++ [⟨ad Γ i, f.slot⟩]) cells slots (Q below args s) (F0 m (pc + 3) la (st.map (rv Γ))) := by
    intro H1 g1 g2 g3
    have hg : Γ.2.2.2 ≤ ad Γ i := ad_ge h7
    refine kk p e s m args below meth c H1 _ la X ⟨hS.1.put h7 e1 e2 g2 g3 ?_, fun z hz => ?_, fun z hz => ?_⟩ hl
    · unfold cellAt
      rw [show gK w1 i = gK w i by unfold gK; rw [e1], hk]
      refine ⟨_, hc, _, g1, q2, q3, fun j hj => ?_⟩
      rw [hsl, t_set q4 hap hlt (rv Γ v) j hj]
      unfold updV
      by_cases hjk : j = k
      · rw [if_pos hjk, hjk]; exact congrArg some e4.symm
      · rw [if_neg hjk]
        obtain ⟨a1, a2, a3⟩ := e3 j hjk
        exact congrArg some (fv_cong a1 a2 a3).symm
    · rw [g3 z (by omega)]; exact hS.2.1 z hz
    · rcases List.mem_append.mp hz with h | h
      · exact hS.2.2 z h
      · rw [List.mem_singleton.mp h]; exact hg
  rw [hC] at hi hlk
  cases hq : (T k).2.2.2 with
  | false =>
    unfold u_lay at hlay
    rw [if_neg (by rw [hq]; decide)] at hlay
    have h6 := u_store hfc hkC hkind hlay (by rw [hC]; exact hi) (hty k hlt) hn hfit
    exact W.putK X.1 X.2.1 (f := f) ⟨X.2.2.2.1, hts _ hlk, ⟨_, _, _, hi⟩, hst⟩ (by rw [q2]; exact h6) q1 q3 (by rw [hsl]; exact k2_hasslot (q4 k hlt)) rfl rfl hd key
  | true =>
    have hin2 : meth.name = "<init>" := by
      rcases hfin with h | h
      · rw [hq] at h; cases h
      · rw [X.2.2.2.2.2.2.2.1]; exact h
    unfold u_lay at hlay
    rw [if_pos hq] at hlay
    have hcf : m.cls = cf := by
      obtain ⟨_, _, c', _, _, _, -, -, hf', -, -, -, hown2, -⟩ := Cond.laysFinal_spec hlay
      have h9 := hf'
      rw [hC] at h9
      have e1 : c' = cf := (congrArg Prod.fst (Option.some.inj (hi.symm.trans h9))).symm
      rw [hC] at hown2
      rw [← e1]; exact Option.some.inj (X.2.2.2.1.symm.trans hown2)
    have h6 := u_fits hfc hkC hkind (Or.inr hlay) (by rw [hC]; exact hi) (hty k hlt) hn hfit
    exact W.putFinK X.1 X.2.1 X.2.2.2.1 (hts _ hlk) hi hst hcf hin2 (by rw [q2]; exact h6) q1 q3 (by rw [hsl]; exact k2_hasslot (q4 k hlt)) rfl rfl hd key
theorem gw_getI {T : u_T} {N idx ci k i : Nat} (hd : decode M.2.1 pc = .ok (.getfield idx, 3)) (hf : FOK M.1.cls T N idx ci k) (ht : ftI (cty ci k) = true) (hk : gK w i = some (.inl ci)) (kk : G M l Γ R Q cells slots (pc + 3) ls (.int (gI w i k) :: st) w) : G M l Γ R Q cells slots pc ls (.ref i :: st) w := gw_get hd hf hk (fv_I ht) kk
theorem gw_getL {T : u_T} {N idx ci k i : Nat} (hd : decode M.2.1 pc = .ok (.getfield idx, 3)) (hf : FOK M.1.cls T N idx ci k) (ht : cty ci k = .long) (hk : gK w i = some (.inl ci)) (kk : G M l Γ R Q cells slots (pc + 3) ls (.long (gL w i k) :: st) w) : G M l Γ R Q cells slots pc ls (.ref i :: st) w := gw_get hd hf hk (by rw [ht]; rfl) kk
theorem gw_getR {T : u_T} {N idx ci k i x : Nat} (hd : decode M.2.1 pc = .ok (.getfield idx, 3)) (hf : FOK M.1.cls T N idx ci k) (ht : ftR (cty ci k) = true) (hk : gK w i = some (.inl ci)) (hr : gR w i k = some x) (kk : G M l Γ R Q cells slots (pc + 3) ls (.ref x :: st) w) : G M l Γ R Q cells slots pc ls (.ref i :: st) w := gw_get hd hf hk (by rw [fv_R ht, hr]; rfl) kk
theorem gw_putI {T : u_T} {N idx ci k i : Nat} {x : Int32} (hd : decode M.2.1 pc = .ok (.putfield idx, 3)) (hf : FOK M.1.cls T N idx ci k) (ht : ftI (cty ci k) = true) (hk : gK w i = some (.inl ci)) (h7 : 7 ≤ i) (hfin : (T k).2.2.2 = false ∨ M.1.name = "<init>") (hn : narrow (cty ci k) (.int x) = .int x) (hfit : fits (cty ci k) (.int x) = true)
    (kk : G M l Γ R Q cells slots (pc + 3) ls st (sI w i k x)) : G M l Γ R Q cells slots pc ls (.int x :: .ref i :: st) w :=
  gw_put (v := .int x) (w1 := sI w i k x) hd hf hk h7 hfin hn hfit rfl (fun a ha b => ⟨sI_ne ha b, rfl, rfl⟩) (fun j hj => ⟨if_neg fun q => hj q.2, rfl, rfl⟩) (by rw [fv_I ht]; exact congrArg _ (if_pos ⟨rfl, rfl⟩)) kk
theorem gw_putL {T : u_T} {N idx ci k i : Nat} {x : Int64} (hd : decode M.2.1 pc = .ok (.putfield idx, 3)) (hf : FOK M.1.cls T N idx ci k) (ht : cty ci k = .long) (hk : gK w i = some (.inl ci)) (h7 : 7 ≤ i) (hfin : (T k).2.2.2 = false ∨ M.1.name = "<init>")
    (kk : G M l Γ R Q cells slots (pc + 3) ls st (sL w i k x)) : G M l Γ R Q cells slots pc ls (.long x :: .ref i :: st) w :=
  gw_put (v := .long x) (w1 := sL w i k x) hd hf hk h7 hfin (by rw [ht]; rfl) (by rw [ht]; rfl) rfl (fun a ha b => ⟨rfl, sL_ne ha b, rfl⟩) (fun j hj => ⟨rfl, if_neg fun q => hj q.2, rfl⟩) (by rw [ht]; exact congrArg Value.long (if_pos ⟨rfl, rfl⟩)) kk
theorem gw_putR {T : u_T} {N idx ci k i x : Nat} (hd : decode M.2.1 pc = .ok (.putfield idx, 3)) (hf : FOK M.1.cls T N idx ci k) (ht : ftR (cty ci k) = true) (hk : gK w i = some (.inl ci)) (h7 : 7 ≤ i) (hfin : (T k).2.2.2 = false ∨ M.1.name = "<init>")
    (kk : G M l Γ R Q cells slots (pc + 3) ls st (sR w i k (some x))) : G M l Γ R Q cells slots pc ls (.ref x :: .ref i :: st) w :=
  gw_put (v := .ref x) (w1 := sR w i k (some x)) hd hf hk h7 hfin (by cases hc : cty ci k <;> first | rfl | (rw [hc] at ht; cases ht)) (by cases hc : cty ci k <;> first | rfl | (rw [hc] at ht; cases ht)) rfl (fun a ha b => ⟨rfl, rfl, sR_ne ha b⟩) (fun j hj => ⟨rfl, rfl, if_neg fun q => hj q.2⟩)
    (by rw [fv_R ht, show gR (sR w i k (some x)) i k = some x from if_pos ⟨rfl, rfl⟩]; rfl) kk
theorem gs_get {C n d : String} {idx i : Nat} (hd : decode M.2.1 pc = .ok (.getstatic idx, 3)) (hm : (C, n, d, i) ∈ statL) (hC : M.1.cls = C) (hlk : Cond.fieldLink C idx C n d ∈ WS) (kk : G M l Γ R Q cells slots (pc + 3) ls (.ref i :: st) w) : G M l Γ R Q cells slots pc ls st w := by
  intro p e s m args below meth c H locs la X hS hl
  obtain ⟨cf, kf, fi, f, a, cell, h1, h2, h3, h4, h5, h6, h7, h8⟩ := X.2.2.2.2.2.2.2.2.2.1.1 _ hm
  have hown := X.2.2.2.1
  rw [hC] at hown
  exact W.gets X.1 X.2.1 hown (X.2.2.2.2.1 _ hlk) h1 h2 h3 h4 (by rw [hS.2.1 a (Nat.not_le.mp h8)]; exact h5) (fun e => by rw [e] at h6; cases h6) h7 rfl hd (kk p e s m args below meth c H locs la X hS hl)
/-! arrays -/
theorem ar_of {Γ : Gm} {s : State} (h : StOK Γ s) (k : Nat) {ty : FieldType} (hk : (tyl Γ.2.1)[k]? = some (Γ.2.1 ty, ty)) (n : Nat) (z : Nat → Value) : s.isArrayOf (arrV (Γ.2.1 ty) n z) ty := (h.1.2 k _ hk).1 n z
theorem ain {cA : ClassId} {n : Nat} {z : Nat → Value} {j : Int32} (h : vp_in j n) : ¬ (j < 0 ∨ (arrV cA n z).slots.size ≤ j.toNatClampNeg) := by rw [arrV_size]; exact h
theorem ald {cA : ClassId} {n : Nat} {z : Nat → Value} {j : Int32} (h : vp_in j n) : (arrV cA n z).slots[j.toNatClampNeg]? = some (z j.toNatClampNeg) := arrV_read _ _ (Nat.not_le.mp fun q => h (Or.inr q))
/-- an array, old or made, as reading it wants it -/
theorem Rep.ga {Γ : Gm} {w : Wd} {s : State} {H : Heap} (h : Rep Γ w H) (hO : StOK Γ s) (t : Nat) {i n : Nat} {ty : FieldType} (ht : (tyl Γ.2.1)[t]? = some (Γ.2.1 ty, ty)) (hk : gK w i = some (.inr (ty, n))) : ∃ cell : Cell, H[ad Γ i]? = some cell ∧ s.isArrayOf cell ty ∧ cell.vm ≠ .unknown ∧ cell.slots.size = n ∧ ∀ j, j < n → cell.slots[j]? = some (fv Γ w ty i j) := by
  by_cases h7 : i < 7
  · have h1 := h.arr0 hk
    unfold arrAt at h1
    rw [if_pos h7] at h1
    obtain ⟨a1, a2, a3, a4⟩ := h1
    obtain ⟨b1, b2⟩ := hO.2.2.2 i h7
    rw [a2] at b1
    exact ⟨_, a1, b1, b2, a3, a4⟩
  · exact ⟨_, h.arr (by omega) hk, ar_of hO t ht _ _, (fun q => by cases q), arrV_size .., fun j hj => arrV_read _ _ hj⟩
theorem ain2 {cell : Cell} {n : Nat} {j : Int32} (hs : cell.slots.size = n) (h : vp_in j n) : ¬ (j < 0 ∨ cell.slots.size ≤ j.toNatClampNeg) := by rw [hs]; exact h
theorem gw_iald {i n : Nat} {j : Int32} (hd : decode M.2.1 pc = .ok (.iaload, 1)) (hk : gK w i = some (.inr (.int, n))) (hin : vp_in j n) (kk : G M l Γ R Q cells slots (pc + 1) ls (.int (gI w i j.toNatClampNeg) :: st) w) : G M l Γ R Q cells slots pc ls (.int j :: .ref i :: st) w := by
  intro p e s m args below meth c H locs la X hS hl
  obtain ⟨cell, a1, a2, a3, a4, a5⟩ := hS.1.ga X.2.2.2.2.2.2.2.2.1 0 rfl hk
  exact W.iald (v := .int (gI w i j.toNatClampNeg)) X.1 X.2.1 a1 a2 a3 (ain2 a4 hin) (a5 _ (Nat.not_le.mp fun q => hin (Or.inr q))) rfl rfl hd (kk p e s m args below meth c H locs la X hS hl)
theorem gw_zald {i n : Nat} {j : Int32} (hd : decode M.2.1 pc = .ok (.baload, 1)) (hk : gK w i = some (.inr (.boolean, n))) (hin : vp_in j n) (kk : G M l Γ R Q cells slots (pc + 1) ls (.int (gI w i j.toNatClampNeg) :: st) w) : G M l Γ R Q cells slots pc ls (.int j :: .ref i :: st) w := by
  intro p e s m args below meth c H locs la X hS hl
  obtain ⟨cell, a1, a2, a3, a4, a5⟩ := hS.1.ga X.2.2.2.2.2.2.2.2.1 1 rfl hk
  exact W.zald (v := .int (gI w i j.toNatClampNeg)) X.1 X.2.1 a1 a2 a3 (ain2 a4 hin) (a5 _ (Nat.not_le.mp fun q => hin (Or.inr q))) rfl rfl hd (kk p e s m args below meth c H locs la X hS hl)
theorem gw_cald {i n : Nat} {j : Int32} (hd : decode M.2.1 pc = .ok (.caload, 1)) (hk : gK w i = some (.inr (.char, n))) (hin : vp_in j n) (kk : G M l Γ R Q cells slots (pc + 1) ls (.int (gI w i j.toNatClampNeg) :: st) w) : G M l Γ R Q cells slots pc ls (.int j :: .ref i :: st) w := by
  intro p e s m args below meth c H locs la X hS hl
  obtain ⟨cell, a1, a2, a3, a4, a5⟩ := hS.1.ga X.2.2.2.2.2.2.2.2.1 2 rfl hk
  exact W.cald (v := .int (gI w i j.toNatClampNeg)) X.1 X.2.1 a1 a2 a3 (ain2 a4 hin) (a5 _ (Nat.not_le.mp fun q => hin (Or.inr q))) rfl rfl hd (kk p e s m args below meth c H locs la X hS hl)
theorem gw_lald {i n : Nat} {j : Int32} (hd : decode M.2.1 pc = .ok (.laload, 1)) (hk : gK w i = some (.inr (.long, n))) (hin : vp_in j n) (kk : G M l Γ R Q cells slots (pc + 1) ls (.long (gL w i j.toNatClampNeg) :: st) w) : G M l Γ R Q cells slots pc ls (.int j :: .ref i :: st) w := by
  intro p e s m args below meth c H locs la X hS hl
  obtain ⟨cell, a1, a2, a3, a4, a5⟩ := hS.1.ga X.2.2.2.2.2.2.2.2.1 3 rfl hk
  exact W.lald (v := .long (gL w i j.toNatClampNeg)) X.1 X.2.1 a1 a2 a3 (ain2 a4 hin) (a5 _ (Nat.not_le.mp fun q => hin (Or.inr q))) rfl rfl hd (kk p e s m args below meth c H locs la X hS hl)
theorem gw_aald {i n : Nat} {j : Int32} (hd : decode M.2.1 pc = .ok (.aaload, 1)) (hk : gK w i = some (.inr (.object "DarkLamps$Moment", n))) (hin : vp_in j n) (kk : G M l Γ R Q cells slots (pc + 1) ls (va_rf (gR w i j.toNatClampNeg) :: st) w) : G M l Γ R Q cells slots pc ls (.int j :: .ref i :: st) w := by
  intro p e s m args below meth c H locs la X hS hl
  obtain ⟨cell, a1, a2, a3, a4, a5⟩ := hS.1.ga X.2.2.2.2.2.2.2.2.1 4 rfl hk
  refine W.aald (v := va_rf ((gR w i j.toNatClampNeg).map (ad Γ))) (ty := .object "DarkLamps$Moment") X.1 X.2.1 a1 a2 rfl a3 (ain2 a4 hin) (a5 _ (Nat.not_le.mp fun q => hin (Or.inr q))) rfl rfl hd ?_
  have := kk p e s m args below meth c H locs la X hS hl
  rw [List.map_cons, rv_rf] at this
  exact this
theorem gw_alen {i n : Nat} {ty : FieldType} {v : Int32} (hd : decode M.2.1 pc = .ok (.arraylength, 1)) (hk : gK w i = some (.inr (ty, n))) (t : Nat) (ht : ∀ tc : FieldType → ClassId, (tyl tc)[t]? = some (tc ty, ty)) (hv : Int32.ofNat n = v) (kk : G M l Γ R Q cells slots (pc + 1) ls (.int v :: st) w) : G M l Γ R Q cells slots pc ls (.ref i :: st) w := by
  subst hv
  intro p e s m args below meth c H locs la X hS hl
  obtain ⟨cell, a1, a2, a3, a4, a5⟩ := hS.1.ga X.2.2.2.2.2.2.2.2.1 t (ht _) hk
  exact W.alen (n := Int32.ofNat n) X.1 X.2.1 a1 a2 (by rw [a4]) rfl rfl hd (kk p e s m args below meth c H locs la X hS hl)
/-- what is left to say when an array's cell was written -/
theorem hs_arr {s : State} {H H1 : Heap} {locs : List Loc} {w1 : Wd} {i n j : Nat} {ty : FieldType} {v : Value} (hS : HS Γ s H locs w) (h7 : 7 ≤ i) (hk : gK w i = some (.inr (ty, n))) (e1 : w1.2.2.2 = w.2.2.2) (e2 : ∀ a, a ≠ i → ∀ b, gI w1 a b = gI w a b ∧ gL w1 a b = gL w a b ∧ gR w1 a b = gR w a b) (e3 : ∀ b, fv Γ w1 ty i b = updV (fun b => fv Γ w ty i b) j v b)
    (g1 : H1[ad Γ i]? = some ((arrV (Γ.2.1 ty) n (fun k => fv Γ w ty i k)).setSlot j v)) (g2 : H1.size = H.size) (g3 : ∀ q, q ≠ ad Γ i → H1[q]? = H[q]?) : HS Γ s H1 (locs ++ [⟨ad Γ i, j⟩]) w1 := by
  have hg : Γ.2.2.2 ≤ ad Γ i := ad_ge h7
  refine ⟨hS.1.put h7 e1 e2 g2 g3 ?_, fun z hz => ?_, fun z hz => ?_⟩
  · unfold cellAt
    rw [show gK w1 i = gK w i by unfold gK; rw [e1], hk]
    show arrAt Γ i ty n _ H1
    rw [arrAt_7 h7, g1, arrV_store, show (fun k => fv Γ w1 ty i k) = updV (fun b => fv Γ w ty i b) j v from funext e3]
  · rw [g3 z (by omega)]; exact hS.2.1 z hz
  · rcases List.mem_append.mp hz with h | h
    · exact hS.2.2 z h
    · rw [List.mem_singleton.mp h]; exact hg
theorem gw_iast {i n : Nat} {j x : Int32} (hd : decode M.2.1 pc = .ok (.iastore, 1)) (hk : gK w i = some (.inr (.int, n))) (h7 : 7 ≤ i) (hin : vp_in j n) (kk : G M l Γ R Q cells slots (pc + 1) ls st (sI w i j.toNatClampNeg x)) : G M l Γ R Q cells slots pc ls (.int x :: .int j :: .ref i :: st) w := by
  intro p e s m args below meth c H locs la X hS hl
  refine W.iast X.1 X.2.1 (hS.1.arr h7 hk) (ar_of X.2.2.2.2.2.2.2.2.1 0 rfl _ _) (fun q => by cases q) (ain hin) rfl rfl hd fun H1 g1 g2 g3 => ?_
  refine kk p e s m args below meth c H1 _ la X (hs_arr hS h7 hk rfl (fun a ha b => ⟨sI_ne ha b, rfl, rfl⟩) (fun b => ?_) g1 g2 g3) hl
  show Value.int (if i = i ∧ b = j.toNatClampNeg then x else gI w i b) = updV _ _ _ b
  unfold updV
  by_cases q : b = j.toNatClampNeg
  · rw [if_pos ⟨rfl, q⟩, if_pos q]
  · rw [if_neg (fun z => q z.2), if_neg q]; rfl
theorem gw_zast {i n : Nat} {j x : Int32} (hd : decode M.2.1 pc = .ok (.bastore, 1)) (hk : gK w i = some (.inr (.boolean, n))) (h7 : 7 ≤ i) (hin : vp_in j n) (kk : G M l Γ R Q cells slots (pc + 1) ls st (sI w i j.toNatClampNeg (x &&& 1))) : G M l Γ R Q cells slots pc ls (.int x :: .int j :: .ref i :: st) w := by
  intro p e s m args below meth c H locs la X hS hl
  refine W.zast X.1 X.2.1 (hS.1.arr h7 hk) (ar_of X.2.2.2.2.2.2.2.2.1 1 rfl _ _) (fun q => by cases q) (ain hin) rfl rfl hd fun H1 g1 g2 g3 => ?_
  refine kk p e s m args below meth c H1 _ la X (hs_arr hS h7 hk rfl (fun a ha b => ⟨sI_ne ha b, rfl, rfl⟩) (fun b => ?_) g1 g2 g3) hl
  show Value.int (if i = i ∧ b = j.toNatClampNeg then x &&& 1 else gI w i b) = updV _ _ _ b
  unfold updV
  by_cases q : b = j.toNatClampNeg
  · rw [if_pos ⟨rfl, q⟩, if_pos q]; rfl
  · rw [if_neg (fun z => q z.2), if_neg q]; rfl
theorem gw_last {i n : Nat} {j : Int32} {x : Int64} (hd : decode M.2.1 pc = .ok (.lastore, 1)) (hk : gK w i = some (.inr (.long, n))) (h7 : 7 ≤ i) (hin : vp_in j n) (kk : G M l Γ R Q cells slots (pc + 1) ls st (sL w i j.toNatClampNeg x)) : G M l Γ R Q cells slots pc ls (.long x :: .int j :: .ref i :: st) w := by
  intro p e s m args below meth c H locs la X hS hl
  refine W.last X.1 X.2.1 (hS.1.arr h7 hk) (ar_of X.2.2.2.2.2.2.2.2.1 3 rfl _ _) (fun q => by cases q) (ain hin) rfl rfl hd fun H1 g1 g2 g3 => ?_
  refine kk p e s m args below meth c H1 _ la X (hs_arr hS h7 hk rfl (fun a ha b => ⟨rfl, sL_ne ha b, rfl⟩) (fun b => ?_) g1 g2 g3) hl
  show Value.long (if i = i ∧ b = j.toNatClampNeg then x else gL w i b) = updV _ _ _ b
  unfold updV
  by_cases q : b = j.toNatClampNeg
  · rw [if_pos ⟨rfl, q⟩, if_pos q]
  · rw [if_neg (fun z => q z.2), if_neg q]; rfl
theorem gw_aast {i n x : Nat} {j : Int32} (hd : decode M.2.1 pc = .ok (.aastore, 1)) (hk : gK w i = some (.inr (.object "DarkLamps$Moment", n))) (hx : gK w x = some (.inl 4)) (h7 : 7 ≤ i) (hin : vp_in j n) (kk : G M l Γ R Q cells slots (pc + 1) ls st (sR w i j.toNatClampNeg (some x))) : G M l Γ R Q cells slots pc ls (.ref x :: .int j :: .ref i :: st) w := by
  intro p e s m args below meth c H locs la X hS hl
  obtain ⟨q, hq, cellV, g1, g2, g3, -⟩ := hS.1.obj hx
  cases (show vwCl[4]? = some (RX4, TX4, 8) from rfl).symm.trans hq
  have hK := X.2.2.2.2.2.2.2.2.1.1
  have hcls := (hK.1 4 _ hq).2
  obtain ⟨kA, comp, k1, k2, k3, -⟩ := (hK.2 4 _ (show (tyl Γ.2.1)[4]? = some (Γ.2.1 (.object "DarkLamps$Moment"), .object "DarkLamps$Moment") from rfl)).2
  have hcomp : comp = Γ.1.1 4 := Option.some.inj (k3.symm.trans hcls.1)
  subst hcomp
  obtain ⟨kC, hkC, -⟩ := hcls.2
  have hlt : j.toNatClampNeg < n := Nat.not_le.mp fun q => hin (Or.inr q)
  refine W.aast X.1 X.2.1 (hS.1.arr h7 hk) (fun q h => by cases h) (fun h => by cases h) k1 k2 rfl hkC ⟨fun q => hin (Or.inl q), by rw [arrV_size]; exact hlt⟩ g1 (fun q h => by rw [g3] at h; cases h) (by rw [g2]; exact hkC) (by rw [g2]; exact va_assign hcls) rfl rfl hd fun H1 z1 z2 z3 => ?_
  refine kk p e s m args below meth c H1 _ la X (hs_arr hS h7 hk rfl (fun a ha b => ⟨rfl, rfl, sR_ne ha b⟩) (fun b => ?_) z1 z2 z3) hl
  show va_rf ((if i = i ∧ b = j.toNatClampNeg then some x else gR w i b).map (ad Γ)) = updV _ _ _ b
  unfold updV
  by_cases q : b = j.toNatClampNeg
  · rw [if_pos ⟨rfl, q⟩, if_pos q]; rfl
  · rw [if_neg (fun z => q z.2), if_neg q]; rfl
/-! new things -/
theorem hs_new {s : State} {H H1 : Heap} {locs : List Loc} {k : Kd} (hS : HS Γ s H locs w) (hz : H1.size = H.size + 1) (ho : ∀ q, q < H.size → H1[q]? = H[q]?) (hc : cellAt Γ (sN w k) (gN w) H1) : HS Γ s H1 locs (sN w k) := by
  refine ⟨hS.1.new k hz ho hc, fun z hq => ?_, hS.2.2⟩
  rw [ho z (by have := hS.1.1; have := hS.1.2.2.2.1; omega)]
  exact hS.2.1 z hq
theorem gK_new {k : Kd} : gK (sN w k) (gN w) = some k := if_pos rfl
theorem fv_new {k : Kd} (ty : FieldType) (hty : ftI ty = true ∨ ftR ty = true ∨ ty = .long) (b : Nat) : fv Γ (sN w k) ty (gN w) b = defaultValue ty := by
  have e1 : gI (sN w k) (gN w) b = 0 := if_pos rfl
  have e2 : gL (sN w k) (gN w) b = 0 := if_pos rfl
  have e3 : gR (sN w k) (gN w) b = none := if_pos rfl
  unfold fv
  rw [e1, e2, e3]
  cases ty <;> first | rfl | (simp [ftI, ftR] at hty)
theorem gw_newa {ty : FieldType} {atype : ArrayType} {n : Int32} {N : Nat} (hd : decode M.2.1 pc = .ok (.newarray atype, 2)) (hty : newarray.typeOf atype = ty) (t : Nat) (ht : ∀ tc : FieldType → ClassId, (tyl tc)[t]? = some (tc ty, ty)) (hft : ftI ty = true ∨ ftR ty = true ∨ ty = .long) (hnm : ∀ (U : State) (cA : ClassId), va_RA U cA ty → U.vm.findClass ("[" ++ ty.toString) = some cA) (hw : Cond.arrayClass ty ∈ WS) (hn : ¬ n < 0) (hN : n.toNatClampNeg = N) (hb : N * componentBytes ty ≤ 536870912) (hc : cells + 1 ≤ R.cells) (hs : slots + N ≤ R.slots)
    (kk : G M l Γ R Q (cells + 1) (slots + N) (pc + 2) ls (.ref (gN w) :: st) (sN w (.inr (ty, N)))) : G M l Γ R Q cells slots pc ls (.int n :: st) w := by
  subst hty
  intro p e s m args below meth c H locs la X hS hl
  refine va_newaK X.1 X.2.1 (X.2.2.2.2.1 _ hw) rfl hd rfl hn hN hb hc hs rfl fun H1 cA e1 z1 o1 hA hNm => ?_
  have hcA : cA = Γ.2.1 (newarray.typeOf atype) := Option.some.inj (hNm.symm.trans (hnm s _ (X.2.2.2.2.2.2.2.2.1.1.2 t _ (ht _)).2))
  subst hcA
  have := kk p e s m args below meth c H1 locs la X (hs_new hS z1 o1 (by
    unfold cellAt
    rw [gK_new]
    show arrAt Γ (gN w) _ N _ H1
    rw [arrAt_7 hS.1.2.2.2.1, ad_new hS.1, e1]
    congr 2
    funext b
    exact (fv_new _ hft b).symm)) hl
  rw [List.map_cons, show rv Γ (.ref (gN w)) = .ref H.size from congrArg Value.ref (ad_new hS.1)] at this
  exact this
theorem gw_new {ci idx : Nat} {q : vw_C} (hd : decode M.2.1 pc = .ok (.new idx, 3)) (hq : vwCl[ci]? = some q) (hin : ∀ w ∈ u_ws q.1 q.2.1 q.2.2, w ∈ WS) (hty : ∀ j, j < q.2.2 → parseFieldDescriptor (q.2.1 j).2.2.1 = some (cty ci j)) (hft : ∀ j, j < q.2.2 → ftI (cty ci j) = true ∨ ftR (cty ci j) = true ∨ cty ci j = .long) (hcl : Cond.classLink M.1.cls idx q.1 ∈ WS) (hi : Cond.instantiable q.1 q.2.2 ∈ WS) (hini : Cond.initialized q.1 ∈ WS) (hc : cells + 1 ≤ R.cells) (hs : slots + q.2.2 ≤ R.slots)
    (kk : G M l Γ R Q (cells + 1) (slots + q.2.2) (pc + 3) ls (.ref (gN w) :: st) (sN w (.inl ci))) : G M l Γ R Q cells slots pc ls st w := by
  intro p e s m args below meth c H locs la X hS hl
  have hts := X.2.2.2.2.1
  have hKn := X.2.2.2.2.2.2.2.2.1.1.1 ci _ hq
  refine W.newcK X.1 X.2.1 X.2.2.2.1 (hts _ hcl) (hts _ hi) (hts _ hini) rfl hd hc hs hKn.2.1 rfl fun H1 kC hkC e1 z1 o1 => ?_
  have := kk p e s m args below meth c H1 locs la X (hs_new hS z1 o1 (by
    unfold cellAt
    rw [gK_new]
    refine ⟨q, hq, ?_⟩
    rw [ad_new hS.1]
    exact (u_born (cty ci) hts hin hKn hkC e1 hty).to fun b hb => (fv_new _ (hft b hb) b).symm)) hl
  rw [List.map_cons, show rv Γ (.ref (gN w)) = .ref H.size from congrArg Value.ref (ad_new hS.1)] at this
  exact this
theorem gw_anew {idx : Nat} {n : Int32} {N : Nat} (hd : decode M.2.1 pc = .ok (.anewarray idx, 3)) (hcl : Cond.classLink M.1.cls idx "DarkLamps$Moment" ∈ WS) (hn : ¬ n < 0) (hN : n.toNatClampNeg = N) (hb : N * 4 ≤ 536870912) (hc : cells + 1 ≤ R.cells) (hs : slots + N ≤ R.slots)
    (kk : G M l Γ R Q (cells + 1) (slots + N) (pc + 3) ls (.ref (gN w) :: st) (sN w (.inr (.object "DarkLamps$Moment", N)))) : G M l Γ R Q cells slots pc ls (.int n :: st) w := by
  subst hN
  intro p e s m args below meth c H locs la X hS hl
  refine W.anew X.1 X.2.1 X.2.2.2.1 (X.2.2.2.2.1 _ hcl) (va_AO.use X.2.2.2.2.2.2.2.2.1.2.2.1) rfl hd rfl hn hb hc hs fun cA kA comp f1 f2 f3 f4 => ?_
  obtain ⟨kA2, comp2, k1, k2, k3, k4⟩ := (X.2.2.2.2.2.2.2.2.1.1.2 4 _ (show (tyl Γ.2.1)[4]? = some (Γ.2.1 (.object "DarkLamps$Moment"), .object "DarkLamps$Moment") from rfl)).2
  have hcA : cA = Γ.2.1 (.object "DarkLamps$Moment") := Option.some.inj (f1.symm.trans k4)
  subst hcA
  generalize hH1 : H.push ({ cls := Γ.2.1 (.object "DarkLamps$Moment"), slots := Array.replicate n.toNatClampNeg .null, vm := .none } : Cell) = H1
  have z1 : H1.size = H.size + 1 := by rw [← hH1, Array.size_push]
  have e1 : H1[H.size]? = some (arrV (Γ.2.1 (.object "DarkLamps$Moment")) n.toNatClampNeg (fun _ => .null)) := by rw [← hH1, Array.getElem?_push_size, ← arrV_new]
  have o1 : ∀ q : Nat, q < H.size → H1[q]? = H[q]? := fun q hq => by rw [← hH1, Array.getElem?_push, if_neg (Nat.ne_of_lt hq)]
  have := kk p e s m args below meth c H1 locs la X (hs_new hS z1 o1 (by
    unfold cellAt
    rw [gK_new]
    show arrAt Γ (gN w) _ _ _ H1
    rw [arrAt_7 hS.1.2.2.2.1, ad_new hS.1, e1]
    congr 2
    funext b
    exact (fv_new (.object "DarkLamps$Moment") (Or.inr (Or.inl rfl)) b).symm)) hl
  rw [List.map_cons, show rv Γ (.ref (gN w)) = .ref H.size from congrArg Value.ref (ad_new hS.1)] at this
  exact this
end HR
