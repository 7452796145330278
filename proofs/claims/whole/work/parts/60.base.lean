/-! LAYER 3, the ground: what a function may write; ends of pure functions -/
/-- since M only the kinds ks (arrays) and the places (k + 1) * 10000 + j (fields of objects) may have changed -/
def Fr (ks : List Nat) (M M' : tM) : Prop := (∀ k i j, ¬ k ∈ ks → (k < 24 → ¬ (k + 1) * 10000 + j ∈ ks) → mI M' k i j = mI M k i j ∧ mL M' k i j = mL M k i j ∧ mR M' k i j = mR M k i j) ∧ (∀ k i, mN M' k i = mN M k i ∧ mE M' k i = mE M k i)
theorem Fr.refl {ks : List Nat} {M : tM} : Fr ks M M := ⟨fun _ _ _ _ _ => ⟨rfl, rfl, rfl⟩, fun _ _ => ⟨rfl, rfl⟩⟩
theorem Fr.trans {ks : List Nat} {a b c : tM} (h1 : Fr ks a b) (h2 : Fr ks b c) : Fr ks a c :=
  ⟨fun k i j h h' => ⟨(h2.1 k i j h h').1.trans (h1.1 k i j h h').1, (h2.1 k i j h h').2.1.trans (h1.1 k i j h h').2.1, (h2.1 k i j h h').2.2.trans (h1.1 k i j h h').2.2⟩, fun k i => ⟨(h2.2 k i).1.trans (h1.2 k i).1, (h2.2 k i).2.trans (h1.2 k i).2⟩⟩
theorem Fr.mono {ks ks2 : List Nat} {a b : tM} (h : Fr ks a b) (hs : ∀ k ∈ ks, k ∈ ks2) : Fr ks2 a b :=
  ⟨fun k i j h1 h2 => h.1 k i j (fun q => h1 (hs _ q)) (fun q q2 => h2 q (hs _ q2)), h.2⟩
theorem Fr.step {ks2 ks : List Nat} {a b c : tM} (h1 : Fr ks2 a b) (h2 : Fr ks b c) (hs : ∀ k ∈ ks, k ∈ ks2) : Fr ks2 a c := h1.trans (h2.mono hs)
theorem Fr.wI {ks : List Nat} {a b : tM} {k i j : Nat} {v : Int32} (h : Fr ks a b) (hk : k ∈ ks) : Fr ks a (sI b k i j v) := by
  refine h.trans ⟨fun k' i' j' h1 _ => ⟨?_, rfl, rfl⟩, fun _ _ => ⟨rfl, rfl⟩⟩
  rw [mI_sI, if_neg]
  rintro ⟨rfl, _⟩
  exact h1 hk
theorem Fr.wL {ks : List Nat} {a b : tM} {k i j : Nat} {v : Int64} (h : Fr ks a b) (hk : k ∈ ks) : Fr ks a (sL b k i j v) := by
  refine h.trans ⟨fun k' i' j' h1 _ => ⟨rfl, ?_, rfl⟩, fun _ _ => ⟨rfl, rfl⟩⟩
  rw [mL_sL, if_neg]
  rintro ⟨rfl, _⟩
  exact h1 hk
theorem Fr.wR {ks : List Nat} {a b : tM} {k i j : Nat} {v : Option Nat} (h : Fr ks a b) (hk : k ∈ ks) : Fr ks a (sR b k i j v) := by
  refine h.trans ⟨fun k' i' j' h1 _ => ⟨rfl, rfl, ?_⟩, fun _ _ => ⟨rfl, rfl⟩⟩
  rw [mR_sR, if_neg]
  rintro ⟨rfl, _⟩
  exact h1 hk
theorem Fr.vI {ks : List Nat} {a b : tM} {k i : Nat} {v : Nat → Int32} (h : Fr ks a b) (hk : k ∈ ks) : Fr ks a (cI b k i v) := by
  refine h.trans ⟨fun k' i' j' h1 _ => ⟨?_, rfl, rfl⟩, fun _ _ => ⟨rfl, rfl⟩⟩
  rw [mI_cI, if_neg]
  rintro ⟨rfl, _⟩
  exact h1 hk
theorem Fr.vL {ks : List Nat} {a b : tM} {k i : Nat} {v : Nat → Int64} (h : Fr ks a b) (hk : k ∈ ks) : Fr ks a (cL b k i v) := by
  refine h.trans ⟨fun k' i' j' h1 _ => ⟨rfl, ?_, rfl⟩, fun _ _ => ⟨rfl, rfl⟩⟩
  rw [mL_cL, if_neg]
  rintro ⟨rfl, _⟩
  exact h1 hk
theorem Fr.wIo {ks : List Nat} {a b : tM} {k i j : Nat} {v : Int32} (h : Fr ks a b) (hk : decide (k < 24) = true ∧ (k + 1) * 10000 + j ∈ ks) : Fr ks a (sI b k i j v) := by
  refine h.trans ⟨fun k' i' j' _ h1 => ⟨?_, rfl, rfl⟩, fun _ _ => ⟨rfl, rfl⟩⟩
  rw [mI_sI, if_neg]
  rintro ⟨rfl, _, rfl⟩
  exact h1 (of_decide_eq_true hk.1) hk.2
theorem Fr.wLo {ks : List Nat} {a b : tM} {k i j : Nat} {v : Int64} (h : Fr ks a b) (hk : decide (k < 24) = true ∧ (k + 1) * 10000 + j ∈ ks) : Fr ks a (sL b k i j v) := by
  refine h.trans ⟨fun k' i' j' _ h1 => ⟨rfl, ?_, rfl⟩, fun _ _ => ⟨rfl, rfl⟩⟩
  rw [mL_sL, if_neg]
  rintro ⟨rfl, _, rfl⟩
  exact h1 (of_decide_eq_true hk.1) hk.2
theorem Fr.wRo {ks : List Nat} {a b : tM} {k i j : Nat} {v : Option Nat} (h : Fr ks a b) (hk : decide (k < 24) = true ∧ (k + 1) * 10000 + j ∈ ks) : Fr ks a (sR b k i j v) := by
  refine h.trans ⟨fun k' i' j' _ h1 => ⟨rfl, rfl, ?_⟩, fun _ _ => ⟨rfl, rfl⟩⟩
  rw [mR_sR, if_neg]
  rintro ⟨rfl, _, rfl⟩
  exact h1 (of_decide_eq_true hk.1) hk.2
/-- arrays, and fields of objects, that stay -/
theorem Fr.aI {ks : List Nat} {M M' : tM} (h : Fr ks M M') {k i j : Nat} (hk : (decide (24 ≤ k) && !ks.contains k) = true) : mI M' k i j = mI M k i j := by
  simp only [Bool.and_eq_true, decide_eq_true_eq, Bool.not_eq_true', List.contains_eq_mem, decide_eq_false_iff_not] at hk
  exact (h.1 k i j hk.2 (fun q => absurd q (by omega))).1
theorem Fr.aL {ks : List Nat} {M M' : tM} (h : Fr ks M M') {k i j : Nat} (hk : (decide (24 ≤ k) && !ks.contains k) = true) : mL M' k i j = mL M k i j := by
  simp only [Bool.and_eq_true, decide_eq_true_eq, Bool.not_eq_true', List.contains_eq_mem, decide_eq_false_iff_not] at hk
  exact (h.1 k i j hk.2 (fun q => absurd q (by omega))).2.1
theorem Fr.aR {ks : List Nat} {M M' : tM} (h : Fr ks M M') {k i j : Nat} (hk : (decide (24 ≤ k) && !ks.contains k) = true) : mR M' k i j = mR M k i j := by
  simp only [Bool.and_eq_true, decide_eq_true_eq, Bool.not_eq_true', List.contains_eq_mem, decide_eq_false_iff_not] at hk
  exact (h.1 k i j hk.2 (fun q => absurd q (by omega))).2.2
theorem Fr.oI {ks : List Nat} {M M' : tM} (h : Fr ks M M') {k i j : Nat} (hk : (!ks.contains k && !ks.contains ((k + 1) * 10000 + j)) = true) : mI M' k i j = mI M k i j := by
  simp only [Bool.and_eq_true, Bool.not_eq_true', List.contains_eq_mem, decide_eq_false_iff_not] at hk
  exact (h.1 k i j hk.1 (fun _ => hk.2)).1
theorem Fr.oL {ks : List Nat} {M M' : tM} (h : Fr ks M M') {k i j : Nat} (hk : (!ks.contains k && !ks.contains ((k + 1) * 10000 + j)) = true) : mL M' k i j = mL M k i j := by
  simp only [Bool.and_eq_true, Bool.not_eq_true', List.contains_eq_mem, decide_eq_false_iff_not] at hk
  exact (h.1 k i j hk.1 (fun _ => hk.2)).2.1
theorem Fr.oR {ks : List Nat} {M M' : tM} (h : Fr ks M M') {k i j : Nat} (hk : (!ks.contains k && !ks.contains ((k + 1) * 10000 + j)) = true) : mR M' k i j = mR M k i j := by
  simp only [Bool.and_eq_true, Bool.not_eq_true', List.contains_eq_mem, decide_eq_false_iff_not] at hk
  exact (h.1 k i j hk.1 (fun _ => hk.2)).2.2
theorem Fr.n {ks : List Nat} {M M' : tM} (h : Fr ks M M') (k i : Nat) : mN M' k i = mN M k i := (h.2 k i).1
theorem Fr.e {ks : List Nat} {M M' : tM} (h : Fr ks M M') (k i : Nat) : mE M' k i = mE M k i := (h.2 k i).2
theorem ite_some {α : Type} {c : Prop} [Decidable c] {a b : Option α} {v : α} (h : (if c then a else b) = some v) : (c ∧ a = some v) ∨ (¬ c ∧ b = some v) := by
  by_cases hc : c
  · rw [if_pos hc] at h; exact Or.inl ⟨hc, h⟩
  · rw [if_neg hc] at h; exact Or.inr ⟨hc, h⟩
