/-! ===== what DarkLamps.train throws ===== -/
def nsE : String := "java/util/NoSuchElementException"
def thN : List String := ["java/lang/RuntimeException", "java/lang/Exception"]
def thW : List Cond := Cond.classLink RX11 164 nsE :: Cond.initialized nsE :: vx_at0 RX11 166 nsE thN
theorem th_in : ∀ w ∈ thW, w ∈ lw_tbl := by decide +kernel
theorem th_ot : ∀ w ∈ thW, vx_ot w = true := by decide +kernel
def thD (c : String) : MethodName := ⟨c, "<init>", "()V"⟩
theorem th_bad : ∀ w ∈ thW.filter (fun w => !goodWord w), w ∈ [Cond.declares (thD "java/lang/RuntimeException"), Cond.declares (thD "java/lang/Exception"), Cond.declares (thD "java/lang/Throwable"), Cond.castable nsE nsE] := by decide +kernel
theorem declares_of {args : Array Value} {s : State} {y : MethodName} {b : ByteArray} {n : Nat} {r : Option FieldType} (h1 : (Cond.code y b n r).before args s = true) (h2 : (Cond.instanceMethod y).before args s = true) : (Cond.declares y).before args s = true := by
  unfold Cond.before Cond.holds at h1 h2 ⊢
  simp only [Cond.value] at h1 h2 ⊢
  cases hm : (s.methodNamed? y).bind s.vm.method? with
  | none => rw [hm] at h1; cases h1
  | some meth =>
    rw [hm] at h1 h2
    simp only [Option.map_some, beq_iff_eq, Option.some.injEq, Bool.and_eq_true] at h1 h2 ⊢
    exact ⟨h2.1, h1.2⟩
theorem castable_self {args : Array Value} {s : State} {X : String} {c : ClassId} (h : s.vm.findClass X = some c) : (Cond.castable X X).before args s = true := by
  unfold Cond.before Cond.holds
  simp only [Cond.value, h, Vm.assignable_self]
  rfl
def codW (c : String) (w : Cond) : Bool := match w with | .code y .. => y == thD c | _ => false
theorem th_code {args : Array Value} {s : State} (hts : ∀ w ∈ WS, w.before args s = true) {c : String} (h : (WS.any (codW c)) = true) (hi : Cond.instanceMethod (thD c) ∈ WS) : (Cond.declares (thD c)).before args s = true := by
  obtain ⟨w, hw, hc⟩ := List.any_eq_true.mp h
  unfold codW at hc
  split at hc
  · have e := eq_of_beq hc
    subst e
    exact declares_of (hts _ hw) (hts _ hi)
  · cases hc
theorem th_w1 : WS.any (codW "java/lang/RuntimeException") = true ∧ Cond.instanceMethod (thD "java/lang/RuntimeException") ∈ WS := by decide +kernel
theorem th_w2 : WS.any (codW "java/lang/Exception") = true ∧ Cond.instanceMethod (thD "java/lang/Exception") ∈ WS := by decide +kernel
theorem th_w3 : WS.any (codW "java/lang/Throwable") = true ∧ Cond.instanceMethod (thD "java/lang/Throwable") ∈ WS := by decide +kernel
