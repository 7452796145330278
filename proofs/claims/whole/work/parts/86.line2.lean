/-! line: hung into the chains -/
theorem s_hang (Mb : tM) (f a7 a4 L : Nat) (r : Option Nat) : ∃ Mc, (if r = none then bnd (sR Mb 7 f a7 (some L)) fun M19 => some M19 else bnd r fun r16 => Option.bind r16 fun i17 => bnd (sR Mb 4 i17 a4 (some L)) fun M18 => some M18) = some Mc ∧ (∀ a b c, ¬ (a = 7 ∧ c = a7) → ¬ (a = 4 ∧ c = a4) → mR Mc a b c = mR Mb a b c) ∧ (∀ p, mR Mc 7 p a7 = if p = f ∧ r = none then some L else mR Mb 7 p a7) ∧ (∀ x, mR Mc 4 x a4 = if r = some x then some L else mR Mb 4 x a4) ∧ (∀ a b c, mI Mc a b c = mI Mb a b c ∧ mL Mc a b c = mL Mb a b c) ∧ ∀ a b, mN Mc a b = mN Mb a b ∧ mE Mc a b = mE Mb a b := by
  cases r with
  | none =>
    refine ⟨sR Mb 7 f a7 (some L), by rw [if_pos rfl, bnd_eq], fun a b c h1 _ => ?_, fun p => ?_, fun x => ?_, fun a b c => ⟨by rw [mI_sR], by rw [mL_sR]⟩, fun a b => ⟨by rw [mN_sR], by rw [mE_sR]⟩⟩
    · rw [mR_sR, if_neg (fun q => h1 ⟨q.1, q.2.2⟩)]
    · rw [mR_sR]; simp
    · rw [mR_sR]; simp
  | some y =>
    refine ⟨sR Mb 4 y a4 (some L), by rw [if_neg (by simp), bnd_eq, Option.bind_some, bnd_eq], fun a b c _ h1 => ?_, fun p => ?_, fun x => ?_, fun a b c => ⟨by rw [mI_sR], by rw [mL_sR]⟩, fun a b => ⟨by rw [mN_sR], by rw [mE_sR]⟩⟩
    · rw [mR_sR, if_neg (fun q => h1 ⟨q.1, q.2.2⟩)]
    · rw [mR_sR]; simp
    · rw [mR_sR]; simp only [true_and, and_true, Option.some.injEq]
      by_cases q : x = y
      · rw [if_pos q, if_pos q.symm]
      · rw [if_neg q, if_neg (fun r => q r.symm)]
theorem s_addLine {M X : tM} {N : NG} (hN : NOK N) (hl : Len M) (hC : Cg M X N) (hL : nL N < 20) {f t g k : Nat} (hf : f < nP N) (ht : t < nP N) :
    ∃ M', fX1_addLine (some f) (nI g) (some t) (nI k) M = some (nI (nL N), M') ∧ NewL M M' (nL N) f t (nH N f) (nH N t) g k := by
  obtain ⟨e4, e16, e3, e4', e5, e7, e0⟩ := hC.2.2.2.2 (nL N) (Nat.le_refl _)
  obtain ⟨M6, h6, o6, a6, b6, c6⟩ := s_init4 (M := M) (L := nL N) (f := f) (t := t) (fH := nH N f) (tH := nH N t) (g := g) (k := k) e4 e3 e4' e5 e7 e0 (hC.2.1 f hf).1.2.2.2.2.1 (hC.2.1 t ht).1.2.2.2.2.1 (hN.2.1 f hf).2.2.1 (hN.2.1 t ht).2.2.1
  rw [fX1_addLine, bnd_eq, hC.1.2, bnd_eq, nI_clamp (by omega), chk_tr (by rw [e16]; rfl), bnd_eq, h6, Option.bind_some, chk_tr (by rw [(o6 4 (nL N) (by simp)).2.1, e4]; rfl), chk_tr (tfix4 b6), bnd_eq]
  have n201 : mN (mF M6 16 4 (nL N)) 201 0 = 20 := by
    rw [mN_mF, if_neg (by simp), (o6 201 0 (by simp)).1]; exact ln201 hl
  have i13 : mI (sR (mF M6 16 4 (nL N)) 201 0 (nL N) (some (nL N))) 1 0 3 = nI (nL N) := by
    rw [mI_sR, mI_mF, if_neg (by simp), ((o6 1 0 (by simp)).2.2 3).1]; exact hC.1.2
  rw [n201, chk_nI hL (by omega), bnd_eq, bnd_eq, i13, nI_1]
  -- the memory with the new object in it
  have base : ∀ a b, ¬ ((a = 4 ∨ a = 16 ∨ a = 503 ∨ a = 504 ∨ a = 505 ∨ a = 507 ∨ a = 510) ∧ b = nL N) → mN (sI (sR (mF M6 16 4 (nL N)) 201 0 (nL N) (some (nL N))) 1 0 3 (nI (nL N + 1))) a b = mN M a b ∧ mE (sI (sR (mF M6 16 4 (nL N)) 201 0 (nL N) (some (nL N))) 1 0 3 (nI (nL N + 1))) a b = mE M a b ∧ ∀ c, ¬ (a = 201 ∧ b = 0 ∧ c = nL N) → ¬ (a = 1 ∧ b = 0 ∧ c = 3) → mI (sI (sR (mF M6 16 4 (nL N)) 201 0 (nL N) (some (nL N))) 1 0 3 (nI (nL N + 1))) a b c = mI M a b c ∧ (¬ (a = 503 ∨ a = 504) → mL (sI (sR (mF M6 16 4 (nL N)) 201 0 (nL N) (some (nL N))) 1 0 3 (nI (nL N + 1))) a b c = mL M a b c ∧ mR (sI (sR (mF M6 16 4 (nL N)) 201 0 (nL N) (some (nL N))) 1 0 3 (nI (nL N + 1))) a b c = mR M a b c) := by
    intro a b h
    have f4 : (a = 4 ∧ b = nL N) = False := eq_false fun q => h ⟨Or.inl q.1, q.2⟩
    obtain ⟨q1, q2, q3⟩ := o6 a b (fun q => h ⟨Or.inr q.1, q.2⟩)
    refine ⟨by simp only [mN_sI, mN_sR, mN_mF, f4, if_false]; exact q1, by simp only [mE_sI, mE_sR, mE_mF, f4, if_false]; exact q2, fun c h2 h3 => ⟨?_, fun h5 => ⟨?_, ?_⟩⟩⟩
    · simp only [mI_sI, mI_sR, mI_mF, f4, if_false, if_neg h3]; exact (q3 c).1
    · simp only [mL_sI, mL_sR, mL_mF, f4, if_false]; exact ((q3 c).2 h5).1
    · simp only [mR_sI, mR_sR, mR_mF, f4, if_false, if_neg h2]; exact ((q3 c).2 h5).2
  have new : (mR (sI (sR (mF M6 16 4 (nL N)) 201 0 (nL N) (some (nL N))) 1 0 3 (nI (nL N + 1))) 201 0 (nL N) = some (nL N) ∧ mI (sI (sR (mF M6 16 4 (nL N)) 201 0 (nL N) (some (nL N))) 1 0 3 (nI (nL N + 1))) 1 0 3 = nI (nL N + 1) ∧ mI (sI (sR (mF M6 16 4 (nL N)) 201 0 (nL N) (some (nL N))) 1 0 3 (nI (nL N + 1))) 4 (nL N) 0 = nI (nL N) ∧ mR (sI (sR (mF M6 16 4 (nL N)) 201 0 (nL N) (some (nL N))) 1 0 3 (nI (nL N + 1))) 4 (nL N) 1 = some f ∧ mR (sI (sR (mF M6 16 4 (nL N)) 201 0 (nL N) (some (nL N))) 1 0 3 (nI (nL N + 1))) 4 (nL N) 2 = some t ∧ mI (sI (sR (mF M6 16 4 (nL N)) 201 0 (nL N) (some (nL N))) 1 0 3 (nI (nL N + 1))) 4 (nL N) 6 = 0) ∧ (mR (sI (sR (mF M6 16 4 (nL N)) 201 0 (nL N) (some (nL N))) 1 0 3 (nI (nL N + 1))) 4 (nL N) 12 = none ∧ mR (sI (sR (mF M6 16 4 (nL N)) 201 0 (nL N) (some (nL N))) 1 0 3 (nI (nL N + 1))) 4 (nL N) 13 = none) := by
    obtain ⟨x1, x2, x3, x4, x5, x6⟩ := a6
    simp [mI_sI, mI_sR, mI_mF, mR_sI, mR_sR, mR_mF, x1, x2, x3, x4, x5, x6]
  have lens : ∀ a, (a = 503 ∨ a = 504 ∨ a = 505 ∨ a = 507 ∨ a = 510) → mN (sI (sR (mF M6 16 4 (nL N)) 201 0 (nL N) (some (nL N))) 1 0 3 (nI (nL N + 1))) a (nL N) = mN M6 a (nL N) ∧ ∀ i, mI (sI (sR (mF M6 16 4 (nL N)) 201 0 (nL N) (some (nL N))) 1 0 3 (nI (nL N + 1))) a (nL N) i = mI M6 a (nL N) i := by
    intro a ha
    have h4 : ¬ a = 4 := by omega
    have h1 : ¬ a = 1 := by omega
    simp [mN_sI, mN_sR, mN_mF, mI_sI, mI_sR, mI_mF, h4, h1]
  generalize sI (sR (mF M6 16 4 (nL N)) 201 0 (nL N) (some (nL N))) 1 0 3 (nI (nL N + 1)) = Mb at base new lens ⊢
  have p7 : ∀ p c, mR Mb 7 p c = mR M 7 p c := fun p c => (((base 7 p (by simp)).2.2 c (by simp) (by simp)).2 (by simp)).2
  have p4 : ∀ x c, ¬ x = nL N → mR Mb 4 x c = mR M 4 x c := fun x c hx => (((base 4 x (by simp [hx])).2.2 c (by simp) (by simp)).2 (by simp)).2
  rw [Option.bind_some, bnd_eq, p7]
  obtain ⟨Mc, ec, c0, c1, c2, c3, c4⟩ := s_hang Mb f 13 13 (nL N) (mR M 7 f 14)
  rw [ec, Option.bind_some, bnd_eq, Option.bind_some, bnd_eq]
  have r12 : mR (sR Mc 7 f 14 (some (nL N))) 7 t 12 = mR M 7 t 12 := by
    rw [mR_sR, if_neg (by simp), c0 7 t 12 (by simp) (by simp), p7]
  rw [r12]
  obtain ⟨Me, ee, d0, d1, d2, d3, d4⟩ := s_hang (sR Mc 7 f 14 (some (nL N))) t 11 12 (nL N) (mR M 7 t 12)
  rw [ee, Option.bind_some, bnd_eq]
  have vI : ∀ a b c, mI (sR Me 7 t 12 (some (nL N))) a b c = mI Mb a b c ∧ mL (sR Me 7 t 12 (some (nL N))) a b c = mL Mb a b c := fun a b c => by
    rw [mI_sR, mL_sR, (d3 a b c).1, (d3 a b c).2, mI_sR, mL_sR]; exact c3 a b c
  have vN : ∀ a b, mN (sR Me 7 t 12 (some (nL N))) a b = mN Mb a b ∧ mE (sR Me 7 t 12 (some (nL N))) a b = mE Mb a b := fun a b => by
    rw [mN_sR, mE_sR, (d4 a b).1, (d4 a b).2, mN_sR, mE_sR]; exact c4 a b
  have vR : ∀ a b c, ¬ (a = 7 ∧ 11 ≤ c ∧ c ≤ 14) → ¬ (a = 4 ∧ (c = 12 ∨ c = 13)) → mR (sR Me 7 t 12 (some (nL N))) a b c = mR Mb a b c := fun a b c h1 h2 => by
    rw [mR_sR, if_neg (fun q => h1 ⟨q.1, by omega, by omega⟩), d0 a b c (fun q => h1 ⟨q.1, by omega, by omega⟩) (fun q => h2 ⟨q.1, Or.inl q.2⟩), mR_sR, if_neg (fun q => h1 ⟨q.1, by omega, by omega⟩), c0 a b c (fun q => h1 ⟨q.1, by omega, by omega⟩) (fun q => h2 ⟨q.1, Or.inr q.2⟩)]
  refine ⟨_, rfl, fun a b h => ?_, ?_, ?_, ⟨fun p => ?_, fun p => ?_, fun x => ?_⟩, fun p => ?_, fun p => ?_, fun x => ?_⟩
  · obtain ⟨q1, q2, q3⟩ := base a b h
    refine ⟨(vN a b).1.trans q1, (vN a b).2.trans q2, fun c h1 h2 h3 h4 => ⟨(vI a b c).1.trans (q3 c h1 h2).1, fun h5 => ⟨(vI a b c).2.trans ((q3 c h1 h2).2 h5).1, (vR a b c h3 h4).trans ((q3 c h1 h2).2 h5).2⟩⟩⟩
  · rw [vR 201 0 _ (by simp) (by simp), (vI 1 0 3).1, (vI 4 _ 0).1, vR 4 _ 1 (by simp) (by simp), vR 4 _ 2 (by simp) (by simp), (vI 4 _ 6).1]
    exact new.1
  · obtain ⟨y1, y2, y3, y4, y5, y6, y7⟩ := c6
    rw [(vN 503 _).1, (vN 504 _).1, (vN 505 _).1, (vN 507 _).1, (vN 510 _).1, (lens 503 (by simp)).1, (lens 504 (by simp)).1, (lens 505 (by simp)).1, (lens 507 (by simp)).1, (lens 510 (by simp)).1]
    refine ⟨y1, y2, y3, y4, y5, fun i hi => ?_, fun i hi => ?_⟩
    · rw [(vI 503 _ i).1, (lens 503 (by simp)).2 i]; exact y6 i hi
    · rw [(vI 504 _ i).1, (lens 504 (by simp)).2 i]; exact y7 i hi
  · rw [mR_sR, if_neg (by simp), d0 7 p 13 (by simp) (by simp), mR_sR, if_neg (by simp), c1, p7]
  · rw [mR_sR, if_neg (by simp), d0 7 p 14 (by simp) (by simp), mR_sR]
    by_cases e : p = f
    · rw [if_pos ⟨rfl, e, rfl⟩, if_pos e]
    · rw [if_neg (fun q => e q.2.1), if_neg e, c0 7 p 14 (by simp) (by simp), p7]
  · rw [mR_sR, if_neg (by simp), d0 4 x 13 (by simp) (by simp), mR_sR, if_neg (by simp), c2]
    by_cases e : mR M 7 f 14 = some x
    · rw [if_pos e, if_pos e]
    · rw [if_neg e, if_neg e]
      by_cases q : x = nL N
      · rw [if_pos q, q]; exact new.2.2
      · rw [if_neg q, p4 x 13 q]
  · rw [mR_sR, if_neg (by simp), d1, mR_sR, if_neg (c := 7 = 7 ∧ p = f ∧ 11 = 14) (by simp), c0 7 p 11 (by simp) (by simp), p7]
  · rw [mR_sR]
    by_cases e : p = t
    · rw [if_pos ⟨rfl, e, rfl⟩, if_pos e]
    · rw [if_neg (fun q => e q.2.1), if_neg e, d0 7 p 12 (by simp) (by simp), mR_sR, if_neg (by simp), c0 7 p 12 (by simp) (by simp), p7]
  · rw [mR_sR, if_neg (by simp), d2, mR_sR, if_neg (c := 4 = 7 ∧ x = f ∧ 12 = 14) (by simp), c0 4 x 12 (by simp) (by simp)]
    by_cases e : mR M 7 t 12 = some x
    · rw [if_pos e, if_pos e]
    · rw [if_neg e, if_neg e]
      by_cases q : x = nL N
      · rw [if_pos q, q]; exact new.2.1
      · rw [if_neg q, p4 x 12 q]
