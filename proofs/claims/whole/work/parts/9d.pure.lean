/-! ===== every step of the law: both sides answer alike ===== -/
section AS
variable {N K F R w : Nat} {U : List Nat} {X : List (List Cl)} {T S : Sm}
def St (w k : Nat) (x : Nat → Int32) (T S : Sm) : Prop := ∃ T' S', LStep k x T S T' S' ∧ Rel (w + 1) T' S'
theorem RelP.rel (h : RelP N K F R U X w T S) : Rel (w + 1) T S := ⟨N, K, F, R, U, X, h.up (by omega)⟩
theorem rel_31 {S1 T1 : Sm} (h : RelP N K F R U X w T1 S1) (e : S1.1 31 = S.1 31) : Rel (w + 1) T1 (f31 (S.1 31) S1) := by
  rw [f31_id e]; exact h.rel
theorem sam31 {S1 : Sm} (h : SamS S S1) : S1.1 31 = S.1 31 := funext fun j => h 31 j (by rfl)
theorem gns31 (S S1 : Sm) : gNs S ≤ gNs (f31 (S.1 31) S1) := Nat.le_refl (gNs S)
theorem st_0 (h : RelP N K F R U X w T S) (hw : w < 1000) (x : Nat → Int32) : St w 0 x T S := by
  obtain ⟨q, p, a, c, d, e, f⟩ := op_feed h (x 1) (x 2) (x 3) (x 4) (x 5)
  exact ⟨p.2, _, ⟨gns31 S q.2, q, p, a, c, d, rfl, rfl⟩, rel_31 f e⟩
theorem st_1 (h : RelP N K F R U X w T S) (hw : w < 1000) (x : Nat → Int32) : St w 1 x T S := by
  obtain ⟨d, e, f⟩ := op_end h (x 1)
  exact ⟨_, _, ⟨gns31 S _, _, _, rfl, rfl, d, rfl, rfl⟩, rel_31 f e⟩
theorem st_2 (h : RelP N K F R U X w T S) (hw : w < 1000) (x : Nat → Int32) : St w 2 x T S := by
  obtain ⟨q, p, a, c, d, e, f⟩ := op_fault h (x 1)
  exact ⟨p.2, _, ⟨gns31 S q.2, q, p, a, c, d, rfl, rfl⟩, rel_31 f e⟩
theorem st_3 (h : RelP N K F R U X w T S) (hw : w < 1000) (x : Nat → Int32) : St w 3 x T S := by
  obtain ⟨q, p, a, c, d, e, N', K', F', R', U', X', f⟩ := op_text h (x 1)
  exact ⟨p.2, _, ⟨gns31 S q.2, q, p, a, c, d, rfl, rfl⟩, rel_31 f e⟩
theorem st_4 (h : RelP N K F R U X w T S) (hw : w < 1000) (x : Nat → Int32) : St w 4 x T S := by
  obtain ⟨q, p, a, c, d, e, f⟩ := op_dark h (x 1) (x 2) (x 3)
  exact ⟨p.2, _, ⟨gns31 S q.2, q, p, a, c, d, rfl, rfl⟩, rel_31 (h.same e f) (sam31 e)⟩
theorem st_5 (h : RelP N K F R U X w T S) (hw : w < 1000) (x : Nat → Int32) : St w 5 x T S := by
  obtain ⟨T', S', a, c, d⟩ := op_train h hw x
  exact ⟨T', S', ⟨c, a⟩, N, K, F, R, U, X, d⟩
theorem st_6 (h : RelP N K F R U X w T S) (hw : w < 1000) (x : Nat → Int32) : St w 6 x T S := by
  obtain ⟨v, a, c⟩ := op_guards h (x 1)
  exact ⟨T, S, ⟨Nat.le_refl _, v, v, a, c, rfl, rfl, rfl⟩, h.rel⟩
theorem st_7 (h : RelP N K F R U X w T S) (hw : w < 1000) (x : Nat → Int32) : St w 7 x T S := by
  obtain ⟨d, e, f⟩ := op_law h (x 1)
  exact ⟨_, _, ⟨gns31 S _, _, _, rfl, rfl, d, rfl, rfl⟩, rel_31 f e⟩
theorem st_8 (h : RelP N K F R U X w T S) (hw : w < 1000) (x : Nat → Int32) : St w 8 x T S := by
  obtain ⟨q, p, a, c, d, e, f⟩ := op_sent h (by omega) (x 1) (x 2) (x 3)
  exact ⟨p.2, q.2, ⟨e, q, p, a, c, d, rfl, rfl⟩, f.rel⟩
theorem st_9 (h : RelP N K F R U X w T S) (hw : w < 1000) (x : Nat → Int32) : St w 9 x T S := by
  obtain ⟨q, p, a, c, d, e, f⟩ := op_lamp h (by omega) (x 1) (x 2)
  exact ⟨p.2, q.2, ⟨e, q, p, a, c, d, rfl, rfl⟩, f.rel⟩
theorem st_10 (h : RelP N K F R U X w T S) (hw : w < 1000) (x : Nat → Int32) : St w 10 x T S := by
  obtain ⟨q, p, a, c, d, e, f⟩ := op_show h (by omega) (x 1) (x 2) (x 3)
  exact ⟨p.2, q.2, ⟨e, q, p, a, c, d, rfl, rfl⟩, f.rel⟩
theorem st_11 (h : RelP N K F R U X w T S) (hw : w < 1000) (x : Nat → Int32) : St w 11 x T S := by
  obtain ⟨q, p, a, c, d, e, f⟩ := op_guard h (by omega) (x 1) (if x 2 = 0 then 0 else 1)
  exact ⟨p.2, q.2, ⟨e, q, p, a, c, d, rfl, rfl⟩, f.rel⟩
theorem st_12 (h : RelP N K F R U X w T S) (hw : w < 1000) (x : Nat → Int32) : St w 12 x T S := by
  obtain ⟨q, p, a, c, d, e, f⟩ := op_go h (by omega) (x 1)
  exact ⟨p.2, q.2, ⟨e, q, p, a, c, d, rfl, rfl⟩, f.rel⟩
theorem st_13 (h : RelP N K F R U X w T S) (hw : w < 1000) (x : Nat → Int32) : St w 13 x T S := by
  obtain ⟨d, e, f⟩ := op_fogs h (x 1)
  exact ⟨_, _, ⟨gns31 S _, _, _, rfl, rfl, d, rfl, rfl⟩, rel_31 f e⟩
theorem st_14 (h : RelP N K F R U X w T S) (hw : w < 1000) (x : Nat → Int32) : St w 14 x T S := by
  obtain ⟨q, p, a, c, d, e, f⟩ := op_years h (by omega) (x 1) ((lShl (Int32.toInt64 (x 2)) 32) ||| ((Int32.toInt64 (x 3)) &&& 4294967295))
  exact ⟨p.2, q.2, ⟨e, q, p, a, c, d, rfl, rfl⟩, f.rel⟩
theorem st_15 (h : RelP N K F R U X w T S) (hw : w < 1000) (x : Nat → Int32) : St w 15 x T S := by
  obtain ⟨q, p, a, c, d, e, f⟩ := op_undo h
  exact ⟨p.2, q.2, ⟨e, q, p, a, c, d, rfl, rfl⟩, f.rel⟩
theorem st_16 (h : RelP N K F R U X w T S) (hw : w < 1000) (x : Nat → Int32) : St w 16 x T S := by
  obtain ⟨v, a, c⟩ := op_log h (x 1) (x 2)
  exact ⟨T, S, ⟨Nat.le_refl _, v, v, a, c, rfl, rfl, rfl⟩, h.rel⟩
theorem st_17 (h : RelP N K F R U X w T S) (hw : w < 1000) (x : Nat → Int32) : St w 17 x T S := by
  obtain ⟨v, a, c⟩ := op_comes h (x 1) (x 2) (x 3)
  exact ⟨T, S, ⟨Nat.le_refl _, v, v, a, c, rfl, rfl, rfl⟩, h.rel⟩
theorem st_18 (h : RelP N K F R U X w T S) (hw : w < 1000) (x : Nat → Int32) : St w 18 x T S := by
  obtain ⟨v, a, c⟩ := op_round h (x 1) (x 2) (x 3)
  exact ⟨T, S, ⟨Nat.le_refl _, v, v, a, c, rfl, rfl, rfl⟩, h.rel⟩
theorem st_19 (h : RelP N K F R U X w T S) (hw : w < 1000) (x : Nat → Int32) : St w 19 x T S := by
  obtain ⟨v, p, a, c, d, f⟩ := op_changes h (x 1) (x 2) (x 3)
  exact ⟨p.2, S, ⟨Nat.le_refl _, v, p, a, c, d, rfl, rfl⟩, (h.same (SamS.rfl S) f).rel⟩
theorem st_20 (h : RelP N K F R U X w T S) (hw : w < 1000) (x : Nat → Int32) : St w 20 x T S := by
  obtain ⟨q, p, a, c, d, e, f⟩ := op_soonest h (x 1) (x 2) (x 3) (x 4)
  exact ⟨p.2, _, ⟨gns31 S q.2, q, p, a, c, d, rfl, rfl⟩, rel_31 (h.same e f) (sam31 e)⟩
theorem st_21 (h : RelP N K F R U X w T S) (hw : w < 1000) (x : Nat → Int32) : St w 21 x T S := by
  obtain ⟨q, p, a, c, d, e, f⟩ := op_cheapest h (x 1) (x 2) (x 3)
  exact ⟨p.2, _, ⟨gns31 S q.2, q, p, a, c, d, rfl, rfl⟩, rel_31 (h.same e f) (sam31 e)⟩
theorem st_22 (h : RelP N K F R U X w T S) (hw : w < 1000) (x : Nat → Int32) : St w 22 x T S := by
  obtain ⟨v, a, c⟩ := op_reached h (x 1) (x 2)
  exact ⟨T, S, ⟨Nat.le_refl _, v, v, a, c, rfl, rfl, rfl⟩, h.rel⟩
theorem st_23 (h : RelP N K F R U X w T S) (hw : w < 1000) (x : Nat → Int32) : St w 23 x T S := by
  obtain ⟨v, a, c⟩ := op_lamps h
  exact ⟨T, S, ⟨Nat.le_refl _, v, v, a, c, rfl, rfl, rfl⟩, h.rel⟩
theorem st_24 (h : RelP N K F R U X w T S) (hw : w < 1000) (x : Nat → Int32) : St w 24 x T S := by
  obtain ⟨q, p, a, c, d, e, f⟩ := op_timetable h (x 1)
  exact ⟨p.2, _, ⟨gns31 S q.2, q, p, a, c, d, rfl, rfl⟩, rel_31 (h.same e f) (sam31 e)⟩
theorem st_25 (h : RelP N K F R U X w T S) (hw : w < 1000) (x : Nat → Int32) : St w 25 x T S := by
  obtain ⟨q, p, a, c, d, e, f⟩ := op_clashes h
  exact ⟨p.2, _, ⟨gns31 S q.2, q, p, a, c, d, rfl, rfl⟩, rel_31 (h.same e f) (sam31 e)⟩
theorem st_26 (h : RelP N K F R U X w T S) (hw : w < 1000) (x : Nat → Int32) : St w 26 x T S := by
  obtain ⟨p, c, d, e, f⟩ := op_lay h (x 1) (x 2) (x 3) (x 4)
  exact ⟨p.2, _, ⟨gns31 S _, _, p, rfl, c, d, rfl, rfl⟩, rel_31 f e⟩
theorem st_27 (h : RelP N K F R U X w T S) (hw : w < 1000) (x : Nat → Int32) : St w 27 x T S := by
  obtain ⟨q, p, a, c, d, e, f⟩ := op_nets h (x 1)
  exact ⟨p.2, _, ⟨gns31 S q.2, q, p, a, c, d, rfl, rfl⟩, rel_31 (h.same e f) (sam31 e)⟩
theorem st_28 (h : RelP N K F R U X w T S) (hw : w < 1000) (x : Nat → Int32) : St w 28 x T S := by
  obtain ⟨q, p, a, c, d, e, f⟩ := op_could h (x 1)
  exact ⟨p.2, _, ⟨gns31 S q.2, q, p, a, c, d, rfl, rfl⟩, rel_31 (h.same e f) (sam31 e)⟩
theorem st_29 (h : RelP N K F R U X w T S) (hw : w < 1000) (x : Nat → Int32) : St w 29 x T S := by
  obtain ⟨q, p, a, c, d, e, f⟩ := op_tells h (x 1)
  exact ⟨p.2, _, ⟨gns31 S q.2, q, p, a, c, d, rfl, rfl⟩, rel_31 (h.same e f) (sam31 e)⟩
theorem st_30 (h : RelP N K F R U X w T S) (hw : w < 1000) (x : Nat → Int32) : St w 30 x T S := by
  obtain ⟨v, a, c⟩ := op_yards h (x 1) (x 2) (x 3)
  exact ⟨T, S, ⟨Nat.le_refl _, v, v, a, c, rfl, rfl, rfl⟩, h.rel⟩
theorem st_31 (h : RelP N K F R U X w T S) (hw : w < 1000) (x : Nat → Int32) : St w 31 x T S := by
  obtain ⟨q, p, a, c, d, e, f⟩ := op_unseen h (x 1) (x 2)
  exact ⟨p.2, _, ⟨gns31 S q.2, q, p, a, c, d, rfl, rfl⟩, rel_31 (h.same e f) (sam31 e)⟩
theorem st_32 (h : RelP N K F R U X w T S) (hw : w < 1000) (x : Nat → Int32) : St w 32 x T S := by
  obtain ⟨q, p, a, c, d, e, f⟩ := op_posts h (x 1) (x 2)
  exact ⟨p.2, _, ⟨gns31 S q.2, q, p, a, c, d, rfl, rfl⟩, rel_31 (h.same e f) (sam31 e)⟩
theorem st_33 (h : RelP N K F R U X w T S) (hw : w < 1000) (x : Nat → Int32) : St w 33 x T S := by
  obtain ⟨v, p, a, c, d, f⟩ := op_halves h (x 1) (x 2) (x 3)
  exact ⟨p.2, S, ⟨Nat.le_refl _, v, p, a, c, d, rfl, rfl⟩, (h.same (SamS.rfl S) f).rel⟩
theorem st_34 (h : RelP N K F R U X w T S) (hw : w < 1000) (x : Nat → Int32) : St w 34 x T S := by
  obtain ⟨v, a, c⟩ := op_smuggles h (x 1) (x 2) (x 3) (x 4)
  exact ⟨T, S, ⟨Nat.le_refl _, v, v, a, c, rfl, rfl, rfl⟩, h.rel⟩
theorem st_35 (h : RelP N K F R U X w T S) (hw : w < 1000) (x : Nat → Int32) : St w 35 x T S := by
  obtain ⟨v, a, c⟩ := op_rests h (x 1) (x 2) (x 3)
  exact ⟨T, S, ⟨Nat.le_refl _, v, v, a, c, rfl, rfl, rfl⟩, h.rel⟩
theorem st_36 (h : RelP N K F R U X w T S) (hw : w < 1000) (x : Nat → Int32) : St w 36 x T S := by
  obtain ⟨v, a, c⟩ := op_astray h
  exact ⟨T, S, ⟨Nat.le_refl _, v, v, a, c, rfl, rfl, rfl⟩, h.rel⟩
theorem st_37 (h : RelP N K F R U X w T S) (hw : w < 1000) (x : Nat → Int32) : St w 37 x T S := by
  obtain ⟨v, a, c⟩ := op_due h (x 1)
  exact ⟨T, S, ⟨Nat.le_refl _, v, v, a, c, rfl, rfl, rfl⟩, h.rel⟩
theorem st_38 (h : RelP N K F R U X w T S) (hw : w < 1000) (x : Nat → Int32) : St w 38 x T S := by
  obtain ⟨v, a, c⟩ := op_loops h (x 1)
  exact ⟨T, S, ⟨Nat.le_refl _, v, v, a, c, rfl, rfl, rfl⟩, h.rel⟩
theorem st_39 (h : RelP N K F R U X w T S) (hw : w < 1000) (x : Nat → Int32) : St w 39 x T S := by
  obtain ⟨v, a, c⟩ := op_safe h
  exact ⟨T, S, ⟨Nat.le_refl _, v, v, a, c, rfl, rfl, rfl⟩, h.rel⟩
theorem st_40 (h : RelP N K F R U X w T S) (hw : w < 1000) (x : Nat → Int32) : St w 40 x T S := by
  obtain ⟨v, a, c⟩ := op_visits h (x 1)
  exact ⟨T, S, ⟨Nat.le_refl _, v, v, a, c, rfl, rfl, rfl⟩, h.rel⟩
theorem st_41 (h : RelP N K F R U X w T S) (hw : w < 1000) (x : Nat → Int32) : St w 41 x T S := by
  obtain ⟨p, c, d, e, f⟩ := op_image h
  exact ⟨p.2, _, ⟨gns31 S _, _, p, rfl, c, d, rfl, rfl⟩, rel_31 f e⟩
theorem st_42 (h : RelP N K F R U X w T S) (hw : w < 1000) (x : Nat → Int32) : St w 42 x T S := by
  obtain ⟨p, c, d, e, f⟩ := op_back h
  exact ⟨p.2, _, ⟨gns31 S _, _, p, rfl, c, d, rfl, rfl⟩, rel_31 f e⟩
theorem st_43 (h : RelP N K F R U X w T S) (hw : w < 1000) (x : Nat → Int32) : St w 43 x T S := by
  obtain ⟨q, p, a, c, d, e⟩ := op_count h (x 1)
  exact ⟨T, _, ⟨gns31 S q.2, q, p, a, c, d, rfl, rfl⟩, rel_31 (h.same e (SamT.rfl T)) (sam31 e)⟩
theorem st_all (h : RelP N K F R U X w T S) (hw : w < 1000) (k : Nat) (x : Nat → Int32) : St w k x T S := by
  match k with
  | 0 => exact st_0 h hw x
  | 1 => exact st_1 h hw x
  | 2 => exact st_2 h hw x
  | 3 => exact st_3 h hw x
  | 4 => exact st_4 h hw x
  | 5 => exact st_5 h hw x
  | 6 => exact st_6 h hw x
  | 7 => exact st_7 h hw x
  | 8 => exact st_8 h hw x
  | 9 => exact st_9 h hw x
  | 10 => exact st_10 h hw x
  | 11 => exact st_11 h hw x
  | 12 => exact st_12 h hw x
  | 13 => exact st_13 h hw x
  | 14 => exact st_14 h hw x
  | 15 => exact st_15 h hw x
  | 16 => exact st_16 h hw x
  | 17 => exact st_17 h hw x
  | 18 => exact st_18 h hw x
  | 19 => exact st_19 h hw x
  | 20 => exact st_20 h hw x
  | 21 => exact st_21 h hw x
  | 22 => exact st_22 h hw x
  | 23 => exact st_23 h hw x
  | 24 => exact st_24 h hw x
  | 25 => exact st_25 h hw x
  | 26 => exact st_26 h hw x
  | 27 => exact st_27 h hw x
  | 28 => exact st_28 h hw x
  | 29 => exact st_29 h hw x
  | 30 => exact st_30 h hw x
  | 31 => exact st_31 h hw x
  | 32 => exact st_32 h hw x
  | 33 => exact st_33 h hw x
  | 34 => exact st_34 h hw x
  | 35 => exact st_35 h hw x
  | 36 => exact st_36 h hw x
  | 37 => exact st_37 h hw x
  | 38 => exact st_38 h hw x
  | 39 => exact st_39 h hw x
  | 40 => exact st_40 h hw x
  | 41 => exact st_41 h hw x
  | 42 => exact st_42 h hw x
  | 43 => exact st_43 h hw x
  | k + 44 =>
    refine ⟨T, S, ⟨Nat.le_refl _, ?_⟩, h.rel⟩
    unfold LSm
    split <;> first | omega | exact ⟨rfl, rfl⟩
end AS
theorem pureOK : PureOK := fun L xs hL => by
  refine ⟨fun n T S => n ≤ 512 ∧ Rel n T S, ⟨by omega, 0, 0, 0, 0, [], [], rel_0 L xs⟩, fun n T S h => ?_, fun n T S k hn h hk hx => ?_⟩
  · obtain ⟨h1, N, K, F, R, U, X, -, -, -, -, ⟨⟨h2, -⟩, -, h3⟩, -⟩ := h
    exact ⟨h2, by omega⟩
  · obtain ⟨h1, N, K, F, R, U, X, h⟩ := h
    obtain ⟨T', S', a, c⟩ := st_all h (by omega) k (fun j => xs (ix (nI (6 * n) + nI j)))
    exact ⟨T', S', a, by omega, c⟩
