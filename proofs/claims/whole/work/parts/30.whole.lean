/-! ===== the whole of the law, out of steps that both sides answer alike ===== -/
theorem stand_fresh {p : Program} {l : Launch} {e : Env} {R : Room} {s : State} {m : MethodId} {args : Array Value} {below : List Frame} {meth : Method} {c : Code} {T : State} {locs : List Loc} {cells slots : Nat} (X : Stand p l e R s m args below meth c T locs cells slots) (hJ : ∀ x ∈ locs, s.heap.size ≤ x.base) : Stand p l e R s m args below meth c T [] cells slots := by
  refine ⟨X.admits, X.cas, X.clock, X.frames, X.room, X.hears, X.method, X.code, X.here, X.tail, X.warmed, X.limits, X.bytes, ?_⟩
  obtain ⟨h1, h2, h3, h4, h5, h6⟩ := X.same
  refine ⟨h1, h2, h3, h4, h5, fun a c hc => ?_⟩
  obtain ⟨c', hc', hce, hsz, hout⟩ := h6 a c hc
  refine ⟨c', hc', hce, hsz, fun i _ => hout i fun hm => ?_⟩
  have hb : s.heap.size ≤ a := hJ _ hm
  have ha : a < s.heap.size := (Array.getElem?_eq_some_iff.mp hc).1
  exact absurd ha (Nat.not_lt.mpr hb)
def QL (b : Nat) (Γ : Gm) : QT := fun below args s t => (args = #[Value.ref b] ∧ s.heap.size = Γ.2.2.2) → lw_Z below #[Value.ref b] s t
theorem g_lawend {l : Launch} {Γ : Gm} {b cells slots : Nat} {ls : List (Option Value)} {w : Wd} (h1 : cells ≤ 601024) (h2 : slots ≤ 7293034) : G mL_law l Γ room_1 (QL b Γ) cells slots 1825 ls [] w := by
  refine g_iconst (v := 1) (pc := 1825) dL_law_1825 (by decide) ?_
  intro p e s m args below meth c H locs la X hS hl
  by_cases hc : args = #[Value.ref b] ∧ s.heap.size = Γ.2.2.2
  · obtain ⟨rfl, hz⟩ := hc
    intro T hT Xs
    have Xs' := stand_widen (stand_fresh Xs (fun z hz' => by rw [hz]; exact hS.2.2 z hz')) h1 h2
    obtain ⟨t, a1, b1⟩ := lw_ret (b := b) (ls := la) X.1 X.2.1 X.2.2.2.2.2.1 X.2.2.2.2.2.2.1 dL_law_1826 T hT Xs'
    exact ⟨t, a1, fun _ => b1⟩
  · intro T hT Xs
    exact ⟨_, Steps.refl _, fun h => absurd h hc⟩
/-- what the pure part has to give: an invariant that holds at the start and that every call keeps, both sides answering alike -/
def PureOK : Prop := ∀ (L : Nat) (xs : Nat → Int32), L ≤ 3072 → ∃ I : Nat → Sm → Sm → Prop, I 0 (T0 L xs) (S0 L xs) ∧ (∀ n T S, I n T S → 91 ≤ gNs S ∧ gNs S ≤ 2000) ∧ ∀ n T S k, 6 * n + 6 ≤ L → I n T S → k < 64 → xs (6 * n) &&& 63 = nI k → ∃ T' S', LStep k (fun j => xs (ix (nI (6 * n) + nI j))) T S T' S' ∧ I (n + 1) T' S'
theorem whole_of (h5 : Lw5) (hP : PureOK) {p : Program} {e : Env} {s : State} {m : MethodId} {below : List Frame} {meth : Method} {c : Code} (l : Launch) (hst : l.stackTraces = false) {b L : Nat} {xs : Nat → Int32} (hL : L ≤ 3072) (C0 : lw_At p s m meth c b L xs) (hn : meth.name = "law") : W p l e room_1 s m #[Value.ref b] below meth c s.heap [] 0 0 (lw_Z below #[Value.ref b] s) (entryFrame m ([Value.ref b] : List Value).toArray 7) := by
  obtain ⟨hx, hb, hr, hml, hown, hts, hX, hbl, hlocks, hg⟩ := C0
  obtain ⟨Γ, g1, g2, g3, g4, g5⟩ := entry hts hg hX hbl
  obtain ⟨I, i0, iN, iS⟩ := hP L xs hL
  have hR : RmL room_1 := ⟨by decide, by decide, by decide, by decide⟩
  have K0 := law_loop h5 (l := l) (Γ := Γ) (Q := QL b Γ) (L := (L, xs)) hst hR hL I iN iS (fun cells slots i T S h1 h2 => g_lawend h1 h2) (L / 6 + 1) 0 (T0 L xs) (S0 L xs) (by show L < _; omega) (by omega) i0
  have K := law_head (l := l) (Γ := Γ) (Q := QL b Γ) (L := L) (xs := xs) hR (g_widen (by show 84 ≤ 100 + 6 * 0 + 91; omega) (by show 24319 ≤ 25000 + 400 * 0 + 172 * 91; omega) K0)
  have e1 : [Value.ref b] = [Value.ref 6].map (rv Γ) := by
    show _ = [Value.ref (ad Γ 6)]
    rw [g2]
  have hl := entL_has Γ [Value.ref 6] (n := 7) (Nat.le_of_ble_eq_true rfl)
  have hl2 : hLs Γ _ 7 [some (.ref 6), none, none, none, none, none, none] := ⟨hl.1, hl.2.1, fun i v hi => hl.2.2 i v (by
    match i, hi with
    | 0, hi => exact hi
    | 1, hi => cases hi
    | 2, hi => cases hi
    | 3, hi => cases hi
    | 4, hi => cases hi
    | 5, hi => cases hi
    | 6, hi => cases hi
    | k + 7, hi => cases hi)⟩
  have K2 := K p e s m #[Value.ref b] below meth c s.heap [] _ ⟨hx, hb, hml, hown, fun w hw => hts w (List.mem_filter.mp hw).1, hr, hlocks, hn, g3, g4, by omega⟩ ⟨g5, fun _ _ => rfl, fun _ h => by cases h⟩ hl2
  have e2 : entryFrame m ([Value.ref b] : List Value).toArray 7 = entryFrame m ([Value.ref 6].map (rv Γ)).toArray 7 := by rw [e1]
  rw [e2, lg_entry_eq]
  intro T hT X
  obtain ⟨t, a1, b1⟩ := K2 T hT X
  exact ⟨t, a1, b1 ⟨rfl, g1.symm⟩⟩
