/-! ===== a typed world: cells by number, their ints, longs and references as functions; the real heap stands behind it ===== -/
abbrev Kd : Type := Nat ⊕ (FieldType × Nat)
abbrev Wd : Type := (Nat → Nat → Int32) × (Nat → Nat → Int64) × (Nat → Nat → Option Nat) × (Nat → Option Kd) × Nat
def gI (w : Wd) (i j : Nat) : Int32 := w.1 i j
def gL (w : Wd) (i j : Nat) : Int64 := w.2.1 i j
def gR (w : Wd) (i j : Nat) : Option Nat := w.2.2.1 i j
def gK (w : Wd) (i : Nat) : Option Kd := w.2.2.2.1 i
def gN (w : Wd) : Nat := w.2.2.2.2
def sI (w : Wd) (i j : Nat) (v : Int32) : Wd := (fun a b => if a = i ∧ b = j then v else w.1 a b, w.2)
def sL (w : Wd) (i j : Nat) (v : Int64) : Wd := (w.1, fun a b => if a = i ∧ b = j then v else w.2.1 a b, w.2.2)
def sR (w : Wd) (i j : Nat) (v : Option Nat) : Wd := (w.1, w.2.1, fun a b => if a = i ∧ b = j then v else w.2.2.1 a b, w.2.2.2)
/-- the first n ints of cell a into cell b -/
def sC (w : Wd) (a b n : Nat) : Wd := (fun x y => if x = b ∧ y < n then w.1 a y else w.1 x y, w.2)
def sN (w : Wd) (k : Kd) : Wd := (fun a b => if a = w.2.2.2.2 then 0 else w.1 a b, fun a b => if a = w.2.2.2.2 then 0 else w.2.1 a b, fun a b => if a = w.2.2.2.2 then none else w.2.2.1 a b, fun a => if a = w.2.2.2.2 then some k else w.2.2.2.1 a, w.2.2.2.2 + 1)
/-- where the real things are: the kit's class numbers and slots, the array classes, the cells that were there, the heap's size at the start -/
abbrev Gm : Type := va_G × (FieldType → ClassId) × (Nat → Nat × Cell) × Nat
def ad (Γ : Gm) (i : Nat) : Nat := if i < 7 then (Γ.2.2.1 i).1 else Γ.2.2.2 + (i - 7)
def cty (ci k : Nat) : FieldType := match ci with
  | 0 => tyX0 k
  | 1 => tyX1 k
  | 2 => tyX2 k
  | 3 => tyX3 k
  | 4 => tyX4 k
  | 5 => tyX5 k
  | 6 => tyX6 k
  | 7 => tyX7 k
  | 8 => tyX8 k
  | 9 => tyX9 k
  | 10 => tyX10 k
  | 11 => tyX11 k
  | _ => tyX12 k
def fv (Γ : Gm) (w : Wd) (ty : FieldType) (i k : Nat) : Value := match ty with
  | .long => .long (gL w i k)
  | .object _ => va_rf ((gR w i k).map (ad Γ))
  | .array _ => va_rf ((gR w i k).map (ad Γ))
  | _ => .int (gI w i k)
/-- the type of the arrays that were there -/
def oty (i : Nat) : FieldType := if i = 0 then .char else .int
/-- an array: one that was there is that cell, whatever else it holds; a made one is known whole -/
def arrAt (Γ : Gm) (i : Nat) (ty : FieldType) (n : Nat) (f : Nat → Value) (H : Heap) : Prop := if i < 7 then (H[ad Γ i]? = some (Γ.2.2.1 i).2 ∧ oty i = ty ∧ (Γ.2.2.1 i).2.slots.size = n ∧ ∀ j, j < n → (Γ.2.2.1 i).2.slots[j]? = some (f j)) else H[ad Γ i]? = some (arrV (Γ.2.1 ty) n f)
theorem arrAt_7 {Γ : Gm} {i n : Nat} {ty : FieldType} {f : Nat → Value} {H : Heap} (h : 7 ≤ i) : arrAt Γ i ty n f H = (H[ad Γ i]? = some (arrV (Γ.2.1 ty) n f)) := if_neg (by omega)
theorem arrAt.kept {Γ : Gm} {i n : Nat} {ty : FieldType} {f : Nat → Value} {H H1 : Heap} (h : arrAt Γ i ty n f H) (hq : H1[ad Γ i]? = H[ad Γ i]?) : arrAt Γ i ty n f H1 := by
  unfold arrAt at h ⊢
  rw [hq]
  exact h
def cellAt (Γ : Gm) (w : Wd) (i : Nat) (H : Heap) : Prop := match gK w i with
  | none => True
  | some (.inl ci) => ∃ q : vw_C, vwCl[ci]? = some q ∧ t_OB (ad Γ i) (Γ.1.1 ci) q.2.2 (Γ.1.2 ci) H (fun k => fv Γ w (cty ci k) i k)
  | some (.inr (ty, n)) => arrAt Γ i ty n (fun k => fv Γ w ty i k) H
def Rep (Γ : Gm) (w : Wd) (H : Heap) : Prop := H.size + 7 = Γ.2.2.2 + gN w ∧ (∀ i, gN w ≤ i → gK w i = none) ∧ (∀ i, i < 7 → (Γ.2.2.1 i).1 < Γ.2.2.2) ∧ 7 ≤ gN w ∧ ∀ i, i < gN w → cellAt Γ w i H
def tyl (tc : FieldType → ClassId) : List (ClassId × FieldType) := [(tc .int, .int), (tc .boolean, .boolean), (tc .char, .char), (tc .long, .long), (tc (.object "DarkLamps$Moment"), .object "DarkLamps$Moment")]
def rv (Γ : Gm) : Value → Value
  | .ref i => .ref (ad Γ i)
  | v => v
theorem rv_cat (Γ : Gm) (v : Value) : (rv Γ v).category = v.category := by cases v <;> rfl
theorem ad_old {Γ : Gm} {w : Wd} {H : Heap} (h : Rep Γ w H) {i : Nat} (hi : i < gN w) : ad Γ i < H.size := by
  obtain ⟨h1, -, h3, h4, -⟩ := h
  unfold ad
  split
  · have := h3 i (by assumption); omega
  · omega
theorem ad_new {Γ : Gm} {w : Wd} {H : Heap} (h : Rep Γ w H) : ad Γ (gN w) = H.size := by
  obtain ⟨h1, -, h3, h4, -⟩ := h
  unfold ad
  rw [if_neg (by omega)]
  omega
theorem ad_ge {Γ : Gm} {i : Nat} (hi : 7 ≤ i) : Γ.2.2.2 ≤ ad Γ i := by
  unfold ad
  rw [if_neg (by omega)]
  omega
theorem ad_ne {Γ : Gm} {w : Wd} {H : Heap} (h : Rep Γ w H) {i j : Nat} (hi : 7 ≤ i) (hj : j ≠ i) : ad Γ j ≠ ad Γ i := by
  obtain ⟨h1, -, h3, h4, -⟩ := h
  unfold ad
  by_cases q : j < 7
  · rw [if_pos q, if_neg (by omega)]
    have := h3 j q
    omega
  · rw [if_neg q, if_neg (by omega)]
    omega
theorem Rep.lt {Γ : Gm} {w : Wd} {H : Heap} (h : Rep Γ w H) {i : Nat} {k : Kd} (hk : gK w i = some k) : i < gN w := by
  rcases Nat.lt_or_ge i (gN w) with q | q
  · exact q
  · rw [h.2.1 i q] at hk; cases hk
theorem Rep.obj {Γ : Gm} {w : Wd} {H : Heap} (h : Rep Γ w H) {i ci : Nat} (hk : gK w i = some (.inl ci)) : ∃ q : vw_C, vwCl[ci]? = some q ∧ t_OB (ad Γ i) (Γ.1.1 ci) q.2.2 (Γ.1.2 ci) H (fun k => fv Γ w (cty ci k) i k) := by
  have h1 := h.2.2.2.2 i (h.lt hk)
  unfold cellAt at h1
  rw [hk] at h1
  exact h1
theorem Rep.arr0 {Γ : Gm} {w : Wd} {H : Heap} (h : Rep Γ w H) {i n : Nat} {ty : FieldType} (hk : gK w i = some (.inr (ty, n))) : arrAt Γ i ty n (fun k => fv Γ w ty i k) H := by
  have h1 := h.2.2.2.2 i (h.lt hk)
  unfold cellAt at h1
  rw [hk] at h1
  exact h1
theorem Rep.arr {Γ : Gm} {w : Wd} {H : Heap} (h : Rep Γ w H) {i n : Nat} {ty : FieldType} (h7 : 7 ≤ i) (hk : gK w i = some (.inr (ty, n))) : H[ad Γ i]? = some (arrV (Γ.2.1 ty) n (fun k => fv Γ w ty i k)) := by
  have := h.arr0 hk
  rwa [arrAt_7 h7] at this
/-- one cell is written: the others stay -/
theorem Rep.put {Γ : Gm} {w w1 : Wd} {H H1 : Heap} (h : Rep Γ w H) {i : Nat} (hi : 7 ≤ i) (hk : w1.2.2.2 = w.2.2.2) (ho : ∀ a, a ≠ i → ∀ b, gI w1 a b = gI w a b ∧ gL w1 a b = gL w a b ∧ gR w1 a b = gR w a b) (hz : H1.size = H.size) (hH : ∀ q, q ≠ ad Γ i → H1[q]? = H[q]?) (hc : cellAt Γ w1 i H1) : Rep Γ w1 H1 := by
  have e1 : gN w1 = gN w := by unfold gN; rw [hk]
  have e2 : ∀ a, gK w1 a = gK w a := fun a => by unfold gK; rw [hk]
  refine ⟨by rw [hz, e1]; exact h.1, fun a ha => by rw [e2]; exact h.2.1 a (by rw [← e1]; exact ha), h.2.2.1, by rw [e1]; exact h.2.2.2.1, fun a ha => ?_⟩
  by_cases q : a = i
  · rw [q]; exact hc
  · have h1 := h.2.2.2.2 a (by rw [← e1]; exact ha)
    have hf : ∀ ty k, fv Γ w1 ty a k = fv Γ w ty a k := fun ty k => by
      obtain ⟨g1, g2, g3⟩ := ho a q k
      unfold fv
      rw [g1, g2, g3]
    have hq : H1[ad Γ a]? = H[ad Γ a]? := hH _ (ad_ne h hi q)
    unfold cellAt at h1 ⊢
    rw [e2]
    cases hc : gK w a with
    | none => trivial
    | some x =>
      rw [hc] at h1
      cases x with
      | inl ci =>
        obtain ⟨r, g1, g2⟩ := h1
        exact ⟨r, g1, (g2.kept hq).to fun k _ => (hf _ _).symm⟩
      | inr z =>
        obtain ⟨ty, n⟩ := z
        show arrAt Γ a ty n (fun k => fv Γ w1 ty a k) H1
        rw [show (fun k => fv Γ w1 ty a k) = fun k => fv Γ w ty a k from funext fun k => hf _ _]
        exact arrAt.kept h1 hq
/-- a new cell comes -/
theorem Rep.new {Γ : Gm} {w : Wd} {H H1 : Heap} (h : Rep Γ w H) (k : Kd) (hz : H1.size = H.size + 1) (hH : ∀ q, q < H.size → H1[q]? = H[q]?) (hc : cellAt Γ (sN w k) (gN w) H1) : Rep Γ (sN w k) H1 := by
  have e1 : gN (sN w k) = gN w + 1 := rfl
  have e2 : ∀ a, a ≠ gN w → gK (sN w k) a = gK w a := fun a ha => by unfold gK sN; exact if_neg ha
  refine ⟨by have := h.1; omega, fun a ha => ?_, h.2.2.1, by have := h.2.2.2.1; omega, fun a ha => ?_⟩
  · rw [e1] at ha
    rw [e2 a (by omega)]
    exact h.2.1 a (by omega)
  · by_cases q : a = gN w
    · rw [q]; exact hc
    · have hl : a < gN w := by rw [e1] at ha; omega
      have h1 := h.2.2.2.2 a hl
      have hf : ∀ ty b, fv Γ (sN w k) ty a b = fv Γ w ty a b := fun ty b => by
        unfold fv
        rw [show gI (sN w k) a b = gI w a b from if_neg q, show gL (sN w k) a b = gL w a b from if_neg q, show gR (sN w k) a b = gR w a b from if_neg q]
      have hq : H1[ad Γ a]? = H[ad Γ a]? := hH _ (ad_old h hl)
      unfold cellAt at h1 ⊢
      rw [e2 a q]
      cases hc : gK w a with
      | none => trivial
      | some x =>
        rw [hc] at h1
        cases x with
        | inl ci =>
          obtain ⟨r, g1, g2⟩ := h1
          exact ⟨r, g1, (g2.kept hq).to fun k _ => (hf _ _).symm⟩
        | inr z =>
          obtain ⟨ty, n⟩ := z
          show arrAt Γ a ty n (fun b => fv Γ (sN w k) ty a b) H1
          rw [show (fun b => fv Γ (sN w k) ty a b) = fun b => fv Γ w ty a b from funext fun b => hf _ _]
          exact arrAt.kept h1 hq
/-! locals: a list of what is known of them -/
def hLs (Γ : Gm) (la : Array Slot) (n : Nat) (ls : List (Option Value)) : Prop := la.size = n ∧ lv_wf la ∧ ∀ (i : Nat) (v : Value), ls[i]? = some (some v) → la[i]? = some (.val (rv Γ v))
theorem hLs.has {Γ : Gm} {la : Array Slot} {n : Nat} {ls : List (Option Value)} (h : hLs Γ la n ls) {i : Nat} {v : Value} (hi : ls[i]? = some (some v)) : lv_has la n [(i, rv Γ v)] := ⟨h.1, h.2.1, fun q hq => by rw [List.mem_singleton.mp hq]; exact h.2.2 i v hi⟩
theorem hLs.nil {Γ : Gm} {la : Array Slot} {n : Nat} {ls : List (Option Value)} (h : hLs Γ la n ls) : lv_has la n [] := ⟨h.1, h.2.1, fun q hq => by cases hq⟩
def is2 : Option (Option Value) → Bool
  | some (some (.long _)) => true
  | some (some (.double _)) => true
  | _ => false
def clrL (ls : List (Option Value)) : Nat → List (Option Value)
  | 0 => ls
  | k + 1 => if is2 ls[k]? then ls.set k none else ls
theorem clrL_s (ls : List (Option Value)) (k : Nat) : clrL ls (k + 1) = if is2 ls[k]? then ls.set k none else ls := rfl
def st1 (ls : List (Option Value)) (i : Nat) (v : Value) : List (Option Value) := (clrL ls i).set i (some v)
def st2 (ls : List (Option Value)) (i : Nat) (v : Value) : List (Option Value) := ((clrL ls i).set i (some v)).set (i + 1) none
theorem is2_cat {v : Value} (h : v.category = 2) : is2 (some (some v)) = true := by cases v <;> first | rfl | (simp [Value.category] at h)
theorem clrL_get {ls : List (Option Value)} {i j : Nat} {u : Value} (h : (clrL ls i)[j]? = some (some u)) : ls[j]? = some (some u) ∧ ¬ (j + 1 = i ∧ u.category = 2) := by
  cases i with
  | zero => exact ⟨h, fun q => by omega⟩
  | succ k =>
    rw [clrL_s] at h
    by_cases hc : is2 ls[k]? = true
    · rw [if_pos hc] at h
      by_cases hj : j = k
      · subst hj
        rcases Nat.lt_or_ge j ls.length with z | z
        · rw [List.getElem?_set_self z] at h; cases h
        · rw [List.getElem?_eq_none (by simpa using z)] at h; cases h
      · rw [List.getElem?_set_ne (Ne.symm hj)] at h
        exact ⟨h, fun q => hj (by omega)⟩
    · rw [if_neg hc] at h
      refine ⟨h, fun q => hc ?_⟩
      have : k = j := by omega
      rw [this, h]
      exact is2_cat q.2
theorem hLs.put1 {Γ : Gm} {la : Array Slot} {n : Nat} {ls : List (Option Value)} (h : hLs Γ la n ls) {i : Nat} (hi : i < n) {v : Value} (hv : v.category = 1) : ∃ la', storeLocals la i (rv Γ v) = some la' ∧ hLs Γ la' n (st1 ls i v) := by
  have hc : (rv Γ v).category = 1 := by rw [rv_cat]; exact hv
  obtain ⟨la', e, h'⟩ := lv_store1 (v := rv Γ v) h.nil hi hc
  refine ⟨la', e, h'.1, h'.2.1, fun j u hj => ?_⟩
  unfold st1 at hj
  by_cases q : j = i
  · subst q
    have hl : j < (clrL ls j).length := by
      rcases Nat.lt_or_ge j (clrL ls j).length with z | z
      · exact z
      · rw [List.getElem?_eq_none (by simpa using z)] at hj; cases hj
    rw [List.getElem?_set_self hl] at hj
    cases hj
    exact h'.2.2 _ List.mem_cons_self
  · rw [List.getElem?_set_ne (Ne.symm q)] at hj
    obtain ⟨g1, g2⟩ := clrL_get hj
    obtain ⟨la2, e2, h2⟩ := lv_store1 (v := rv Γ v) (h.has g1) hi hc
    cases e.symm.trans e2
    refine h2.2.2 (j, rv Γ u) (List.mem_cons_of_mem _ (List.mem_filter.mpr ⟨List.mem_singleton.mpr rfl, ?_⟩))
    simp only [Bool.and_eq_true, Bool.not_eq_true', beq_eq_false_iff_ne, ne_eq, Bool.and_eq_false_iff, rv_cat]
    refine ⟨q, ?_⟩
    by_cases z : j + 1 = i
    · exact Or.inr fun c => g2 ⟨z, c⟩
    · exact Or.inl z
theorem hLs.put2 {Γ : Gm} {la : Array Slot} {n : Nat} {ls : List (Option Value)} (h : hLs Γ la n ls) {i : Nat} (hi : i + 1 < n) {v : Value} (hv : v.category = 2) : ∃ la', storeLocals la i (rv Γ v) = some la' ∧ hLs Γ la' n (st2 ls i v) := by
  have hc : (rv Γ v).category = 2 := by rw [rv_cat]; exact hv
  obtain ⟨la', e, h'⟩ := lv_store2 (v := rv Γ v) h.nil hi hc
  refine ⟨la', e, h'.1, h'.2.1, fun j u hj => ?_⟩
  unfold st2 at hj
  by_cases q1 : j = i + 1
  · subst q1
    rcases Nat.lt_or_ge (i + 1) ((clrL ls i).set i (some v)).length with z | z
    · rw [List.getElem?_set_self z] at hj; cases hj
    · rw [List.getElem?_eq_none (by simpa using z)] at hj; cases hj
  rw [List.getElem?_set_ne (Ne.symm q1)] at hj
  by_cases q : j = i
  · subst q
    have hl : j < (clrL ls j).length := by
      rcases Nat.lt_or_ge j (clrL ls j).length with z | z
      · exact z
      · rw [List.getElem?_eq_none (by simpa using z)] at hj; cases hj
    rw [List.getElem?_set_self hl] at hj
    cases hj
    exact h'.2.2 _ List.mem_cons_self
  · rw [List.getElem?_set_ne (Ne.symm q)] at hj
    obtain ⟨g1, g2⟩ := clrL_get hj
    obtain ⟨la2, e2, h2⟩ := lv_store2 (v := rv Γ v) (h.has g1) hi hc
    cases e.symm.trans e2
    refine h2.2.2 (j, rv Γ u) (List.mem_cons_of_mem _ (List.mem_filter.mpr ⟨List.mem_singleton.mpr rfl, ?_⟩))
    simp only [Bool.and_eq_true, Bool.not_eq_true', beq_eq_false_iff_ne, ne_eq, Bool.and_eq_false_iff, rv_cat]
    refine ⟨q, q1, ?_⟩
    by_cases z : j + 1 = i
    · exact Or.inr fun c => g2 ⟨z, c⟩
    · exact Or.inl z
/-- less is known -/
def wkL (m : List Bool) (ls : List (Option Value)) : List (Option Value) := List.zipWith (fun b v => if b then v else none) m ls
theorem hLs.wk {Γ : Gm} {la : Array Slot} {n : Nat} {ls : List (Option Value)} (m : List Bool) (h : hLs Γ la n ls) : hLs Γ la n (wkL m ls) := by
  refine ⟨h.1, h.2.1, fun i v hi => h.2.2 i v ?_⟩
  unfold wkL at hi
  rw [List.getElem?_zipWith] at hi
  cases hm : m[i]? with
  | none => rw [hm] at hi; cases hi
  | some b =>
    cases hl : ls[i]? with
    | none => rw [hm, hl] at hi; cases hi
    | some x =>
      rw [hm, hl] at hi
      cases b with
      | false => cases hi
      | true => exact hi
def entL : List Value → List (Option Value)
  | [] => []
  | v :: vs => if v.category = 2 then some v :: none :: entL vs else some v :: entL vs
theorem entL_mem (Γ : Gm) : ∀ (vs : List Value) (k i : Nat) (v : Value), (entL vs)[i]? = some (some v) → (k + i, rv Γ v) ∈ lv_args k (vs.map (rv Γ))
  | [], k, i, v, h => by cases h
  | u :: us, k, i, v, h => by
    unfold entL at h
    show _ ∈ (k, rv Γ u) :: lv_args (if (rv Γ u).category = 2 then k + 2 else k + 1) (us.map (rv Γ))
    rw [rv_cat]
    by_cases hc : u.category = 2
    · rw [if_pos hc] at h ⊢
      match i, h with
      | 0, h => cases h; exact List.mem_cons_self
      | 1, h => cases h
      | i + 2, h => exact List.mem_cons_of_mem _ (by have := entL_mem Γ us (k + 2) i v h; rwa [show k + 2 + i = k + (i + 2) by omega] at this)
    · rw [if_neg hc] at h ⊢
      match i, h with
      | 0, h => cases h; exact List.mem_cons_self
      | i + 1, h => exact List.mem_cons_of_mem _ (by have := entL_mem Γ us (k + 1) i v h; rwa [show k + 1 + i = k + (i + 1) by omega] at this)
theorem entL_has (Γ : Gm) (vs : List Value) {n : Nat} (h : (lg_sl (vs.map (rv Γ))).length ≤ n) : hLs Γ ((lg_sl (vs.map (rv Γ)) ++ List.replicate (n - (lg_sl (vs.map (rv Γ))).length) Slot.unset).toArray) n (entL vs) := by
  obtain ⟨h1, h2, h3⟩ := lv_entry (vs.map (rv Γ)) h
  refine ⟨h1, h2, fun i v hi => ?_⟩
  have := h3 _ (entL_mem Γ vs 0 i v hi)
  rwa [Nat.zero_add] at this
