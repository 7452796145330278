/-! the start: what the constructors leave -/
def MA : tM := (fX10_init (mA M00 22 0 12)).getD M00
def MB : tM := (fX11_init (mA (mF MA 22 10 0) 23 0 77)).getD M00
def MI0 : tM := mF MB 23 11 0
theorem some_getD {α : Type} {o : Option α} {d : α} (h : o.isSome = true) : o = some (o.getD d) := by
  cases o with
  | none => cases h
  | some a => rfl
def N00 : NG := (0, 0, fun _ => 0, fun _ => 0, fun _ _ => 0, fun _ _ => 0, fun _ => 0, fun _ => 0, fun _ => 0)
set_option maxRecDepth 100000 in
theorem init_a : fX10_init (mA M00 22 0 12) = some MA := some_getD (by decide +kernel)
set_option maxRecDepth 100000 in
theorem init_b : fX11_init (mA (mF MA 22 10 0) 23 0 77) = some MB := some_getD (by decide +kernel)
set_option maxRecDepth 100000 in
theorem init_len : Len MI0 := by
  have h : (lenL.all (fun q => decide (mN MI0 q.1 0 = q.2))) = true := by decide +kernel
  intro q hq
  exact of_decide_eq_true (List.all_eq_true.mp h q hq)
set_option maxRecDepth 100000 in
theorem init_e : Ce MI0 N00 := by
  refine ⟨fun p _ => ⟨rfl, rfl, rfl, rfl⟩, fun l _ => ⟨rfl, rfl, rfl, rfl, rfl, rfl, rfl⟩⟩
set_option maxRecDepth 100000 in
theorem law_init : lawInit Rel := by
  refine ⟨MA, MB, init_a, by decide +kernel, by decide +kernel, by decide +kernel, init_b, by decide +kernel, by decide +kernel, N00, ⟨⟨⟨by decide, by decide⟩, fun p hp => absurd hp (Nat.not_lt_zero _), fun p hp => absurd hp (Nat.not_lt_zero _), fun p i hp => absurd hp (Nat.not_lt_zero _)⟩, init_len, ⟨by decide +kernel, by decide +kernel⟩, fun p hp => absurd hp (Nat.not_lt_zero _), fun p hp => absurd hp (Nat.not_lt_zero _), fun p i hp => absurd hp (Nat.not_lt_zero _)⟩, ?_, fun p hp => absurd hp (Nat.not_lt_zero _), ?_, ?_, ?_, ?_, ?_, ?_, ?_, ?_, ?_⟩
  · exact ⟨⟨by decide +kernel, by decide +kernel⟩, fun p hp => absurd hp (Nat.not_lt_zero _), fun p hp => absurd hp (Nat.not_lt_zero _), init_e⟩
  · exact ⟨0, by decide, by decide +kernel, by decide +kernel, fun p hp => absurd hp (Nat.not_lt_zero _), fun p hp => absurd hp (Nat.not_lt_zero _)⟩
  · exact ⟨by decide +kernel, by decide +kernel, by decide +kernel, by decide +kernel, by decide +kernel⟩
  · exact ⟨0, by decide, by decide +kernel, by decide +kernel, fun j hj => absurd hj (Nat.not_lt_zero _)⟩
  · exact ⟨0, by decide, by decide +kernel, by decide +kernel, fun j hj => absurd hj (Nat.not_lt_zero _)⟩
  · exact Or.inl ⟨by decide +kernel, by decide +kernel⟩
  · exact Or.inl ⟨by decide +kernel, by decide +kernel, by decide +kernel⟩
  · exact Or.inl (by decide +kernel)
  · exact Or.inl ⟨by decide +kernel, by decide +kernel⟩
  · exact Or.inl (by decide +kernel)
