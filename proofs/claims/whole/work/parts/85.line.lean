/-! line: the new LINE -/
theorem nx_snoc {f f' : Nat → Nat} {p L : Nat} (h : ∀ q, q < L → f' q = f q) : ∀ d i, d = L - i → i ≤ L → nx f' p (L + 1) i = (nx f p L i).or (if f' L = p then some L else none) := by
  intro d
  induction d with
  | zero =>
    intro i hd hi
    have : i = L := by omega
    subst this
    rw [nx_eq (by omega), nx_end (L := i) (Nat.le_refl _), nx_end (Nat.le_refl _), Option.none_or]
  | succ d ih =>
    intro i hd hi
    rw [nx_eq (by omega), nx_eq (f := f) (L := L) (by omega), h i (by omega)]
    by_cases e : f i = p
    · rw [if_pos e, if_pos e, Option.some_or]
    · rw [if_neg e, if_neg e]; exact ih (i + 1) (by omega) (by omega)
theorem lst_snoc {f f' : Nat → Nat} {p : Nat} : ∀ {L : Nat}, (∀ q, q < L → f' q = f q) → lst f' p L = lst f p L
  | 0, _ => rfl
  | L + 1, h => by rw [lst, lst, h L (by omega), lst_snoc (fun q hq => h q (by omega))]
theorem lst_some {f : Nat → Nat} {p : Nat} : ∀ {L x : Nat}, lst f p L = some x → x < L ∧ f x = p ∧ ∀ y, x < y → y < L → ¬ f y = p
  | 0, _, h => by cases h
  | L + 1, x, h => by
    rw [lst] at h
    by_cases e : f L = p
    · rw [if_pos e] at h
      cases h
      exact ⟨by omega, e, fun y h1 h2 => by omega⟩
    · rw [if_neg e] at h
      obtain ⟨a, b, c⟩ := lst_some h
      exact ⟨by omega, b, fun y h1 h2 => by
        by_cases q : y = L
        · subst q; exact e
        · exact c y h1 (by omega)⟩
theorem lst_no {f : Nat → Nat} {p : Nat} : ∀ {L : Nat}, lst f p L = none → ∀ y, y < L → ¬ f y = p
  | 0, _, y, hy => by omega
  | L + 1, h, y, hy => by
    rw [lst] at h
    by_cases e : f L = p
    · rw [if_pos e] at h; cases h
    · rw [if_neg e] at h
      by_cases q : y = L
      · subst q; exact e
      · exact lst_no h y (by omega)
theorem nx_from {f : Nat → Nat} {p L i x : Nat} (h : nx f p L i = none) (h1 : i ≤ x) (h2 : x < L) : ¬ f x = p := by
  have key : ∀ d i, d = L - i → nx f p L i = none → ∀ x, i ≤ x → x < L → ¬ f x = p := by
    intro d
    induction d with
    | zero => intro i hd _ x a b; omega
    | succ d ih =>
      intro i hd h x a b
      by_cases e : f i = p
      · rw [nx_hit (by omega) e] at h; cases h
      · rw [nx_miss (by omega) e] at h
        by_cases q : x = i
        · subst q; exact e
        · exact ih (i + 1) (by omega) h x (by omega) b
  exact key _ i rfl h x h1 h2
theorem nx_to {f : Nat → Nat} {p L i : Nat} (h : ∀ x, i ≤ x → x < L → ¬ f x = p) : nx f p L i = none := by
  have key : ∀ d i, d = L - i → (∀ x, i ≤ x → x < L → ¬ f x = p) → nx f p L i = none := by
    intro d
    induction d with
    | zero => intro i hd _; exact nx_end (by omega)
    | succ d ih =>
      intro i hd h
      rw [nx_miss (by omega) (h i (by omega) (by omega))]
      exact ih (i + 1) (by omega) (fun x a b => h x (by omega) b)
  exact key _ i rfl h
/-- a chain with one LINE more, as the class makes it -/
theorem chain_first {f f' : Nat → Nat} {p a L : Nat} (h : ∀ q, q < L → f' q = f q) (ha : f' L = a) : nx f' p (L + 1) 0 = if p = a ∧ lst f a L = none then some L else nx f p L 0 := by
  rw [nx_snoc h _ 0 rfl (by omega), ha]
  by_cases e : p = a
  · subst e
    rw [if_pos rfl]
    cases q : lst f p L with
    | none =>
      rw [if_pos ⟨rfl, rfl⟩, nx_to (fun x _ hx => lst_no q x hx), Option.none_or]
    | some x =>
      rw [if_neg (by simp)]
      obtain ⟨x1, x2, -⟩ := lst_some q
      cases r : nx f p L 0 with
      | none => exact absurd x2 (nx_from r (by omega) x1)
      | some y => rfl
  · rw [if_neg (fun q => e q.symm), if_neg (fun q => e q.1), Option.or_none]
theorem chain_next {f f' : Nat → Nat} {a x L : Nat} (h : ∀ q, q < L → f' q = f q) (ha : f' L = a) (hx : x < L) : nx f' (f' x) (L + 1) (x + 1) = if lst f a L = some x then some L else nx f (f x) L (x + 1) := by
  rw [h x hx, nx_snoc h _ (x + 1) rfl (by omega), ha]
  by_cases e : lst f a L = some x
  · obtain ⟨x1, x2, x3⟩ := lst_some e
    rw [if_pos e, x2, if_pos rfl, nx_to (fun y h1 h2 => x3 y (by omega) h2), Option.none_or]
  · rw [if_neg e]
    by_cases q : a = f x
    · rw [if_pos q]
      cases r : nx f (f x) L (x + 1) with
      | some y => rfl
      | none =>
        exfalso
        cases s : lst f a L with
        | none => exact lst_no s x hx q.symm
        | some y =>
          obtain ⟨y1, y2, y3⟩ := lst_some s
          have hxy : ¬ y = x := fun t => e (by rw [s, t])
          by_cases t : y < x
          · exact y3 x t hx q.symm
          · exact nx_from r (by omega) y1 (y2.trans q)
    · rw [if_neg q, Option.or_none]
theorem chain_end {f' : Nat → Nat} {p L : Nat} : nx f' p (L + 1) (L + 1) = none := nx_end (Nat.le_refl _)
/-- what is new with a LINE -/
def NewL (M M' : tM) (L f t fH tH g k : Nat) : Prop :=
  (∀ a b, ¬ ((a = 4 ∨ a = 16 ∨ a = 503 ∨ a = 504 ∨ a = 505 ∨ a = 507 ∨ a = 510) ∧ b = L) → mN M' a b = mN M a b ∧ mE M' a b = mE M a b ∧ ∀ c, ¬ (a = 201 ∧ b = 0 ∧ c = L) → ¬ (a = 1 ∧ b = 0 ∧ c = 3) → ¬ (a = 7 ∧ 11 ≤ c ∧ c ≤ 14) → ¬ (a = 4 ∧ (c = 12 ∨ c = 13)) → mI M' a b c = mI M a b c ∧ (¬ (a = 503 ∨ a = 504) → mL M' a b c = mL M a b c ∧ mR M' a b c = mR M a b c)) ∧
  (mR M' 201 0 L = some L ∧ mI M' 1 0 3 = nI (L + 1) ∧ mI M' 4 L 0 = nI L ∧ mR M' 4 L 1 = some f ∧ mR M' 4 L 2 = some t ∧ mI M' 4 L 6 = 0) ∧
  (mN M' 503 L = fH ∧ mN M' 504 L = tH ∧ mN M' 505 L = 60 ∧ mN M' 507 L = 400 ∧ mN M' 510 L = 200 ∧ (∀ i, i < fH → mI M' 503 L i = nI g) ∧ ∀ i, i < tH → mI M' 504 L i = nI k) ∧
  ((∀ p, mR M' 7 p 13 = if p = f ∧ mR M 7 f 14 = none then some L else mR M 7 p 13) ∧ (∀ p, mR M' 7 p 14 = if p = f then some L else mR M 7 p 14) ∧ (∀ x, mR M' 4 x 13 = if mR M 7 f 14 = some x then some L else if x = L then none else mR M 4 x 13)) ∧
  ((∀ p, mR M' 7 p 11 = if p = t ∧ mR M 7 t 12 = none then some L else mR M 7 p 11) ∧ (∀ p, mR M' 7 p 12 = if p = t then some L else mR M 7 p 12) ∧ (∀ x, mR M' 4 x 12 = if mR M 7 t 12 = some x then some L else if x = L then none else mR M 4 x 12))
/-- the new object, before it is hung into the chains -/
def MidL (M M' : tM) (L f t fH tH g k : Nat) : Prop :=
  (∀ a b, ¬ ((a = 16 ∨ a = 503 ∨ a = 504 ∨ a = 505 ∨ a = 507 ∨ a = 510) ∧ b = L) → mN M' a b = mN M a b ∧ mE M' a b = mE M a b ∧ ∀ c, mI M' a b c = mI M a b c ∧ (¬ (a = 503 ∨ a = 504) → mL M' a b c = mL M a b c ∧ mR M' a b c = mR M a b c)) ∧
  (mI M' 16 L 0 = nI L ∧ mR M' 16 L 1 = some f ∧ mR M' 16 L 2 = some t ∧ mI M' 16 L 6 = 0 ∧ mR M' 16 L 12 = none ∧ mR M' 16 L 13 = none) ∧ (mR M' 16 L 3 = some L ∧ mR M' 16 L 4 = some L ∧ mR M' 16 L 5 = some L ∧ mR M' 16 L 7 = some L ∧ mR M' 16 L 10 = some L) ∧
  (mN M' 503 L = fH ∧ mN M' 504 L = tH ∧ mN M' 505 L = 60 ∧ mN M' 507 L = 400 ∧ mN M' 510 L = 200 ∧ (∀ i, i < fH → mI M' 503 L i = nI g) ∧ ∀ i, i < tH → mI M' 504 L i = nI k)
theorem s_init4 {M : tM} {L f t fH tH g k : Nat} (e4 : mE M 4 L = false) (e3 : mE M 503 L = false) (e4' : mE M 504 L = false) (e5 : mE M 505 L = false) (e7 : mE M 507 L = false) (e0 : mE M 510 L = false) (hf : mI M 7 f 3 = nI fH) (ht : mI M 7 t 3 = nI tH) (hf4 : fH ≤ 4) (ht4 : tH ≤ 4) :
    Ok (fX4_init L (nI L) (some f) (nI g) (some t) (nI k) (mA M 16 L 14)) (fun M' => MidL M M' L f t fH tH g k) := by
  have e : ∀ c, chk (!false) c = (c : Option tM) := fun c => rfl
  have c1 : ((60 : Int32).toNatClampNeg) = 60 := by decide
  have c2 : ((400 : Int32).toNatClampNeg) = 400 := by decide
  have c3 : ((200 : Int32).toNatClampNeg) = 200 := by decide
  rw [fX4_init]
  simp only [mE_mA, mE_sI, mE_sR, e4, e3, e4', e5, e7, e0, bnd_eq, Nat.reduceEqDiff, false_and, if_false, e, Option.bind_some, mI_sR, mI_sI, mI_mA, hf, ht, c1, c2, c3]
  simp only [chk_tr (show (!decide (nI fH < 0)) = true by rw [decide_eq_false (nI_pos (by omega))]; rfl), chk_tr (show (!decide (nI tH < 0)) = true by rw [decide_eq_false (nI_pos (by omega))]; rfl), nI_clamp (show fH < 2 ^ 31 by omega), nI_clamp (show tH < 2 ^ 31 by omega), chk_tr (show decide (fH ≤ 4) = true from decide_eq_true hf4), chk_tr (show decide (tH ≤ 4) = true from decide_eq_true ht4)]
  generalize hM34 : sR (mA (sR (mA (sR (sR (sI (sR (mA (sR (mA (sR (mA (mA M 16 L 14) 505 L 60) 16 L 5 (some L)) 507 L 400) 16 L 7 (some L)) 510 L 200) 16 L 10 (some L)) 16 L 0 (nI L)) 16 L 1 (some f)) 16 L 2 (some t)) 503 L fH) 16 L 3 (some L)) 504 L tH) 16 L 4 (some L) = M34
  have r3 : mR M34 16 L 3 = some L := by rw [← hM34]; simp [mR_sR, mR_mA, mR_sI]
  have r4 : mR M34 16 L 4 = some L := by rw [← hM34]; simp [mR_sR, mR_mA, mR_sI]
  have n3 : mN M34 503 L = fH := by rw [← hM34]; simp [mN_sR, mN_mA, mN_sI]
  have n4 : mN M34 504 L = tH := by rw [← hM34]; simp [mN_sR, mN_mA, mN_sI]
  have x4 : mE M34 4 L = false := by rw [← hM34]; simp [mE_sR, mE_mA, mE_sI, e4]
  have rest : (mI M34 16 L 0 = nI L ∧ mR M34 16 L 1 = some f ∧ mR M34 16 L 2 = some t ∧ mI M34 16 L 6 = 0 ∧ mR M34 16 L 12 = none ∧ mR M34 16 L 13 = none) ∧ (mR M34 16 L 5 = some L ∧ mR M34 16 L 7 = some L ∧ mR M34 16 L 10 = some L) ∧ (mN M34 505 L = 60 ∧ mN M34 507 L = 400 ∧ mN M34 510 L = 200) := by
    rw [← hM34]; simp [mI_sI, mI_sR, mI_mA, mR_sI, mR_sR, mR_mA, mN_sI, mN_sR, mN_mA]
  have old : ∀ a b, ¬ ((a = 16 ∨ a = 503 ∨ a = 504 ∨ a = 505 ∨ a = 507 ∨ a = 510) ∧ b = L) → mN M34 a b = mN M a b ∧ mE M34 a b = mE M a b ∧ ∀ c, mI M34 a b c = mI M a b c ∧ mL M34 a b c = mL M a b c ∧ mR M34 a b c = mR M a b c := by
    intro a b h
    have f16 : (a = 16 ∧ b = L) = False := eq_false fun q => h ⟨Or.inl q.1, q.2⟩
    have f3 : (a = 503 ∧ b = L) = False := eq_false fun q => h ⟨Or.inr (Or.inl q.1), q.2⟩
    have f4 : (a = 504 ∧ b = L) = False := eq_false fun q => h ⟨Or.inr (Or.inr (Or.inl q.1)), q.2⟩
    have f5 : (a = 505 ∧ b = L) = False := eq_false fun q => h ⟨Or.inr (Or.inr (Or.inr (Or.inl q.1))), q.2⟩
    have f7 : (a = 507 ∧ b = L) = False := eq_false fun q => h ⟨Or.inr (Or.inr (Or.inr (Or.inr (Or.inl q.1)))), q.2⟩
    have f0 : (a = 510 ∧ b = L) = False := eq_false fun q => h ⟨Or.inr (Or.inr (Or.inr (Or.inr (Or.inr q.1)))), q.2⟩
    have g16 : ∀ x : Prop, (a = 16 ∧ b = L ∧ x) = False := fun x => eq_false fun q => h ⟨Or.inl q.1, q.2.1⟩
    rw [← hM34]
    refine ⟨by simp only [mN_sI, mN_sR, mN_mA, f16, f3, f4, f5, f7, f0, if_false], by simp only [mE_sI, mE_sR, mE_mA, f16, f3, f4, f5, f7, f0, if_false], fun c => ⟨?_, ?_, ?_⟩⟩
    · simp only [mI_sI, mI_sR, mI_mA, f16, f3, f4, f5, f7, f0, g16, if_false]
    · simp only [mL_sI, mL_sR, mL_mA, f16, f3, f4, f5, f7, f0, g16, if_false]
    · simp only [mR_sI, mR_sR, mR_mA, f16, f3, f4, f5, f7, f0, g16, if_false]
  rw [r3, Option.bind_some]
  refine ok_call (s_fill (M := M34) (k := 503) (i := L) (n := fH) (v := nI g) rfl rfl rfl n3 (by omega)) ?_
  rintro M39 ⟨F1, v1, o1⟩
  rw [F1.e, x4, F1.oR (by decide), r4, Option.bind_some]
  refine ok_call (s_fill (M := M39) (k := 504) (i := L) (n := tH) (v := nI k) rfl rfl rfl (by rw [F1.n]; exact n4) (by omega)) ?_
  rintro M44 ⟨F2, v2, o2⟩
  have F : Fr [503, 504] M34 M44 := (F1.mono (by decide)).step F2 (by decide)
  refine ok_some ⟨fun a b h => ?_, ?_, ?_, ?_⟩
  · obtain ⟨q1, q2, q3⟩ := old a b h
    refine ⟨by rw [F.n]; exact q1, by rw [F.e]; exact q2, fun c => ?_⟩
    have hF : ¬ (a = 503 ∨ a = 504) → mI M44 a b c = mI M34 a b c ∧ mL M44 a b c = mL M34 a b c ∧ mR M44 a b c = mR M34 a b c := fun q => F.1 a b c (by simpa [not_or] using q) (fun _ => by simp; omega)
    refine ⟨?_, fun q => ?_⟩
    · by_cases a3 : a = 503
      · subst a3
        rw [F2.aI (by decide), o1 b (fun q => h ⟨Or.inr (Or.inl rfl), q⟩) c]
        exact (q3 c).1
      · by_cases a4 : a = 504
        · subst a4
          rw [o2 b (fun q => h ⟨Or.inr (Or.inr (Or.inl rfl)), q⟩) c, F1.aI (by decide)]
          exact (q3 c).1
        · rw [(hF (fun r => r.elim a3 a4)).1]; exact (q3 c).1
    · rw [(hF q).2.1, (hF q).2.2]; exact (q3 c).2
  · rw [F.oI (by decide), F.oR (by decide), F.oR (by decide), F.oI (by decide), F.oR (by decide), F.oR (by decide)]; exact rest.1
  · rw [F.oR (by decide), F.oR (by decide), F.oR (by decide), F.oR (by decide), F.oR (by decide)]; exact ⟨r3, r4, rest.2.1⟩
  · rw [F.n, F.n, F.n, F.n, F.n]
    exact ⟨n3, n4, rest.2.2.1, rest.2.2.2.1, rest.2.2.2.2, fun i hi => by rw [F2.aI (by decide)]; exact v1 i hi, v2⟩
theorem tfix4 {M : tM} {i : Nat} (h : mR M 16 i 3 = some i ∧ mR M 16 i 4 = some i ∧ mR M 16 i 5 = some i ∧ mR M 16 i 7 = some i ∧ mR M 16 i 10 = some i) : tfix M 16 4 i = true := by
  have h0 : ∀ j, j < 100 → (decide (tT 4 j < 2) || decide (tT 4 j % 2 = 0) || decide (j = 3 ∨ j = 4 ∨ j = 5 ∨ j = 7 ∨ j = 10)) = true := by decide +kernel
  unfold tfix
  rw [Bool.and_eq_true]
  refine ⟨by decide, List.all_eq_true.mpr fun j hj => ?_⟩
  have h1 := h0 j (List.mem_range.mp hj)
  simp only [Bool.or_eq_true, decide_eq_true_eq] at h1 ⊢
  refine h1.imp id (fun q => ?_)
  rcases q with rfl | rfl | rfl | rfl | rfl
  · exact h.1
  · exact h.2.1
  · exact h.2.2.1
  · exact h.2.2.2.1
  · exact h.2.2.2.2
