/-! ===== the start is related ===== -/
theorem s31_0 (L : Nat) (xs : Nat → Int32) {i : Nat} (h : i < 40) : gi (S0 L xs) 31 i = 0 := by
  show (if 31 = 31 then (if i = 40 then 91 else 0) else gI (wFin L xs) 31 i) = 0
  rw [if_pos rfl, if_neg (by omega)]
set_option maxRecDepth 20000 in
theorem rel_0 (L : Nat) (xs : Nat → Int32) : RelP 0 0 0 0 [] [] 0 (T0 L xs) (S0 L xs) := by
  refine ⟨⟨rfl, rfl, rfl, rfl, rfl, rfl, by omega, by omega, by omega, Iff.rfl⟩, ⟨by omega, rfl, rfl, fun r hr => absurd hr (by omega)⟩, ⟨List.nodup_nil, by decide, rfl, fun j hj => absurd hj (Nat.not_lt_zero _), 0, fun _ => 0, by omega, rfl, fun i hi => absurd hi (by omega), rfl⟩, ⟨fun h => absurd h (by omega), 0, 0, 0, fun m hm => ⟨0, by omega, rfl, rfl⟩, by omega, by omega, by omega, ⟨rfl, rfl⟩, ⟨rfl, rfl⟩, rfl, ⟨rfl, rfl⟩, fun r hr => absurd hr (by omega), fun i hi => absurd hi (by omega)⟩, ⟨⟨Nat.le_refl 91, by show 91 < 1000000; omega, fun j hj h => absurd (s31_0 L xs hj) h⟩, fun i j hi _ _ h => absurd (s31_0 L xs hi) h, ?_⟩, ⟨0, 0, by omega, by omega, rfl, rfl, rfl, fun j hj => absurd hj (by omega)⟩, ⟨rfl, Or.inl rfl⟩, ⟨0, by omega, rfl, rfl, fun i hi => absurd hi (by omega)⟩, ⟨0, by omega, rfl, rfl, fun i hi => absurd hi (by omega)⟩, ⟨0, by omega, rfl, rfl⟩, ⟨by decide, rfl, rfl, rfl, Or.inl rfl, fun i l hi => (by cases hi)⟩⟩
  show 91 + 5 * ((List.range 40).filter fun j => gi (S0 L xs) 31 j = 0).length ≤ 91 + 200 + 0
  have := List.length_filter_le (fun j => decide (gi (S0 L xs) 31 j = 0)) (List.range 40)
  rw [List.length_range] at this
  omega
