/-! part -/
def bdP (a1 a3 : Int32) : Prop := a1 < 0 ∨ ¬ a1 ≤ 5 ∨ (a1 = 4 ∧ (a3 < 1 ∨ 4 < a3)) ∨ (a1 = 5 ∧ ¬ a3 ≤ 12)
theorem pc_bad {a1 a3 : Int32} {a2 : Int64} {M : tM} (h : bdP a1 a3) : fX10_part a1 a2 a3 M = some ((-1), M) := by
  unfold bdP at h
  unfold fX10_part
  by_cases h1 : a1 < 0
  · rw [if_pos h1]
  · rw [if_neg h1]
    by_cases h2 : a1 ≤ 5
    · rw [if_pos h2]
      by_cases h3 : a1 = 4
      · rw [if_pos h3]
        by_cases h4 : a3 < 1
        · rw [if_pos h4]
        · rw [if_neg h4]
          by_cases h5 : 4 < a3
          · rw [if_pos h5]
          · exfalso
            rcases h with h | h | h | h
            · exact h1 h
            · exact h h2
            · exact h.2.elim h4 h5
            · have := h3.symm.trans h.1; exact absurd this (by decide)
      · rw [if_neg h3]
        by_cases h6 : a1 = 5
        · rw [if_pos h6]
          by_cases h7 : a3 ≤ 12
          · exfalso
            rcases h with h | h | h | h
            · exact h1 h
            · exact h h2
            · exact h3 h.1
            · exact h.2 h7
          · rw [if_neg h7]
        · exfalso
          rcases h with h | h | h | h
          · exact h1 h
          · exact h h2
          · exact h3 h.1
          · exact h6 h.1
    · rw [if_neg h2]
theorem bdP_not {a1 a3 : Int32} (h : ¬ bdP a1 a3) : ¬ a1 < 0 ∧ a1 ≤ 5 ∧ (a1 = 4 → ¬ a3 < 1 ∧ ¬ 4 < a3) ∧ (a1 = 5 → a3 ≤ 12) := by
  unfold bdP at h
  refine ⟨fun q => h (Or.inl q), ?_, fun q => ⟨fun r => h (Or.inr (Or.inr (Or.inl ⟨q, Or.inl r⟩))), fun r => h (Or.inr (Or.inr (Or.inl ⟨q, Or.inr r⟩)))⟩, fun q => ?_⟩
  · by_cases q : a1 ≤ 5
    · exact q
    · exact absurd (Or.inr (Or.inl q)) h
  · by_cases r : a3 ≤ 12
    · exact r
    · exact absurd (Or.inr (Or.inr (Or.inr ⟨q, r⟩))) h
/-- not BAD: what is left -/
theorem pc_rest {a1 a3 : Int32} {a2 : Int64} {M : tM} (h : ¬ bdP a1 a3) : fX10_part a1 a2 a3 M = (if mI M 1 0 2 < 12 then (if a1 = 5 then (if 0 ≤ a3 then ((fX1_addPart a1 a2 a3 M).bind fun x => (fX10_graphChanged x.2).bind fun M2 => some (x.1, M2)) else (fX10_meets 5 M)) else ((fX1_addPart a1 a2 a3 M).bind fun x => (fX10_graphChanged x.2).bind fun M2 => some (x.1, M2))) else some ((-2), M)) := by
  obtain ⟨h1, h2, h3, h4⟩ := bdP_not h
  have hm : ((fX10_meets 5 M).bind fun (x, M') => some (x, M')) = fX10_meets 5 M := by
    cases fX10_meets 5 M <;> rfl
  unfold fX10_part
  rw [if_neg h1, if_pos h2]
  by_cases q : a1 = 4
  · have q5 : ¬ a1 = 5 := fun e => absurd (q.symm.trans e) (by decide)
    rw [if_pos q, if_neg (h3 q).1, if_neg (h3 q).2, if_neg q5, if_neg q5, if_neg q5]
  · rw [if_neg q]
    by_cases q5 : a1 = 5
    · rw [if_pos q5, if_pos (h4 q5), if_pos q5, if_pos q5, hm]
    · rw [if_neg q5, if_neg q5, if_neg q5]
/-- what is new with a PART -/
def NewP (M M' : tM) (P kd ph : Nat) (k : Int64) : Prop :=
  (∀ a b, ¬ ((a = 7 ∨ a = 19 ∨ a = 809 ∨ a = 810) ∧ b = P) → mN M' a b = mN M a b ∧ mE M' a b = mE M a b ∧ ∀ c, ¬ (a = 200 ∧ b = 0 ∧ c = P) → ¬ (a = 1 ∧ b = 0 ∧ c = 2) → mI M' a b c = mI M a b c ∧ mL M' a b c = mL M a b c ∧ mR M' a b c = mR M a b c) ∧
  mR M' 200 0 P = some P ∧ mI M' 1 0 2 = nI (P + 1) ∧ mI M' 7 P 0 = nI P ∧ mI M' 7 P 1 = nI kd ∧ mL M' 7 P 2 = k ∧ mI M' 7 P 3 = nI ph ∧ mI M' 7 P 4 = 1 ∧ mI M' 7 P 5 = 0 ∧ mR M' 7 P 11 = none ∧ mR M' 7 P 12 = none ∧ mR M' 7 P 13 = none ∧ mR M' 7 P 14 = none
def rowP (M' : tM) (P : Nat) (row : Option Nat) : Prop := match row with
  | none => mR M' 7 P 9 = none ∧ mR M' 7 P 10 = none
  | some n => mR M' 7 P 9 = some P ∧ mR M' 7 P 10 = some P ∧ mN M' 809 P = n ∧ mN M' 810 P = n ∧ ∀ j, mL M' 809 P j = 0
theorem tfix7 (M : tM) (i : Nat) : tfix M 19 7 i = true := by
  have h : ∀ j, j < 100 → (decide (tT 7 j < 2) || decide (tT 7 j % 2 = 0)) = true := by decide +kernel
  unfold tfix
  rw [Bool.and_eq_true]
  refine ⟨by decide, List.all_eq_true.mpr fun j hj => ?_⟩
  rw [h j (List.mem_range.mp hj)]
  rfl
theorem max_l {n m : Nat} {M : tM} (h : m ≤ n) (hn : n < 2 ^ 31) : fJ9_max_7cf53 (nI n) (nI m) M = some (nI n) := by
  rw [fJ9_max_7cf53]
  by_cases q : nI n < nI m
  · exact absurd q (nI_nlt h hn)
  · first | rw [if_neg q] | (split <;> first | rfl | (congr 1; apply Int32.toInt_inj.mp; simp only [Int32.le_iff_toInt_le, Int32.lt_iff_toInt_lt] at *; omega))
section NP
variable {M : tM} {P : Nat}
theorem np_init0 (e7 : mE M 7 P = false) {kd n : Nat} {k : Int64} {a3 : Int32} (h5 : ¬ kd = 5) (h4 : kd = 4 → a3 = nI n ∧ 1 ≤ n ∧ n ≤ 4) (hk : kd ≤ 5) : fX7_init P (nI P) (nI kd) k a3 (mA M 19 P 15) = some (sI (sL (sI (sI (sI (mA M 19 P 15) 19 P 4 1) 19 P 0 (nI P)) 19 P 1 (nI kd)) 19 P 2 k) 19 P 3 (nI (if kd = 4 then n else 1))) := by
  have e : ∀ c, chk (!false) c = (c : Option tM) := fun c => rfl
  have n5 : ¬ nI kd = 5 := fun q => h5 ((nI_eq (b := 5) (by omega) (by decide)).mp q)
  rw [fX7_init]
  simp only [mE_mA, mE_sI, mE_sL, e7, bnd_eq, Nat.reduceEqDiff, false_and, if_false, e, if_neg n5]
  by_cases q : kd = 4
  · obtain ⟨rfl, h1, h2⟩ := h4 q
    subst q
    rw [if_pos (show nI 4 = (4 : Int32) from rfl), show fJ9_max_7cf53 (nI n) 1 _ = _ from max_l (m := 1) h1 (by omega)]
    rfl
  · rw [if_neg (show ¬ nI kd = (4 : Int32) from fun r => q ((nI_eq (b := 4) (by omega) (by decide)).mp r)), if_neg q]
    rfl
theorem np_init5 (e7 : mE M 7 P = false) (e8 : mE M 809 P = false) (e9 : mE M 810 P = false) {n : Nat} {k : Int64} (hn : n ≤ 12) : fX7_init P (nI P) (nI 5) k (nI n) (mA M 19 P 15) = some (sR (mA (sR (mA (sI (sL (sI (sI (sI (mA M 19 P 15) 19 P 4 1) 19 P 0 (nI P)) 19 P 1 (nI 5)) 19 P 2 k) 19 P 3 (nI 1)) 809 P n) 19 P 9 (some P)) 810 P n) 19 P 10 (some P)) := by
  have e : ∀ c, chk (!false) c = (c : Option tM) := fun c => rfl
  rw [fX7_init]
  simp only [mE_mA, mE_sI, mE_sL, mE_sR, e7, e8, e9, bnd_eq, Nat.reduceEqDiff, false_and, if_false, e]
  rw [if_neg (show ¬ nI 5 = (4 : Int32) by decide), Option.bind_some, if_pos (show nI 5 = (5 : Int32) from rfl)]
  simp only [show ∀ M', fJ9_max_7cf53 (nI n) 0 M' = some (nI n) from fun M' => max_l (m := 0) (Nat.zero_le _) (by omega), Option.bind_some, nI_clamp (show n < 2 ^ 31 by omega)]
  simp only [chk_tr (show (!decide (nI n < 0)) = true by rw [decide_eq_false (nI_pos (by omega))]; rfl), chk_tr (show decide (n ≤ 12) = true from decide_eq_true hn)]
  rfl
end NP
def mAddP (a1 : Int32) (a2 : Int64) (a3 : Int32) (M : tM) : Option (Int32 × tM) :=
  chk (inb (mI M 11 0 2) (mN M 1203 0)) <|
  bnd (sI M 1203 0 ((mI M 11 0 2).toNatClampNeg) a1) fun M9 =>
  chk (inb (mI M9 11 0 2) (mN M9 1204 0)) <|
  bnd (sL M9 1204 0 ((mI M9 11 0 2).toNatClampNeg) a2) fun M11 =>
  Option.bind (α := Int32) (
  if a1 = 4 then (
  some a3
  ) else (
  some 1
  )
  ) fun x13 =>
  chk (inb (mI M11 11 0 2) (mN M11 1205 0)) <|
  bnd (sI M11 1205 0 ((mI M11 11 0 2).toNatClampNeg) x13) fun M17 =>
  Option.bind (α := Int32) (
  if a1 = 5 then (
  some a3
  ) else (
  some (-9)
  )
  ) fun x19 =>
  chk (inb (mI M17 11 0 2) (mN M17 1206 0)) <|
  bnd (sI M17 1206 0 ((mI M17 11 0 2).toNatClampNeg) x19) fun M23 =>
  Option.bind (fX11_part_l130 FU 0 M23) fun M30 =>
  chk (inb (mI M30 11 0 2) (mN M30 1210 0)) <|
  bnd (sI M30 1210 0 ((mI M30 11 0 2).toNatClampNeg) 1) fun M32 =>
  chk (inb (mI M32 11 0 2) (mN M32 1211 0)) <|
  bnd (sI M32 1211 0 ((mI M32 11 0 2).toNatClampNeg) 0) fun M34 =>
  bnd (sI M34 11 0 2 ((mI M34 11 0 2) + 1)) fun M35 =>
  (fX11_changes M35).bind fun M37 =>
  some (((mI M37 11 0 2) - 1, M37))
theorem pm_bad {a1 a3 : Int32} {a2 : Int64} {M : tM} (h : bdP a1 a3) : fX11_part a1 a2 a3 M = some ((-1), M) := by
  have l1 : ∀ a b : Int32, ¬ a ≤ b → b < a := fun a b q => by
    rw [Int32.le_iff_toInt_le] at q; rw [Int32.lt_iff_toInt_lt]; omega
  unfold bdP at h
  unfold fX11_part
  by_cases h1 : a1 < 0 ∨ 5 < a1
  · rw [in_out h1]; rfl
  · have h0 : ¬ a1 < 0 := fun q => h1 (Or.inl q)
    have h5 : ¬ 5 < a1 := fun q => h1 (Or.inr q)
    rw [in_in h0 h5, Option.bind_some, if_neg (by decide)]
    rcases h with h | h | h | h
    · exact absurd h h0
    · exact absurd (l1 _ _ h) h5
    · rw [if_pos h.1, in_out h.2]; rfl
    · rw [if_neg (fun q => absurd (q.symm.trans h.1) (by decide)), if_pos h.1, if_neg h.2]
theorem pm_rest {a1 a3 : Int32} {a2 : Int64} {M : tM} (h : ¬ bdP a1 a3) : fX11_part a1 a2 a3 M = (if mI M 11 0 2 = 12 then some ((-2), M) else (if a1 = 5 then (if 0 ≤ a3 then mAddP a1 a2 a3 M else fX11_meets 5 M) else mAddP a1 a2 a3 M)) := by
  obtain ⟨h1, h2, h3, h4⟩ := bdP_not h
  have hm : ((fX11_meets 5 M).bind fun (x, M') => some (x, M')) = fX11_meets 5 M := by
    cases fX11_meets 5 M <;> rfl
  unfold fX11_part mAddP
  rw [in_in h1 (nlt_le h2), Option.bind_some, if_neg (by decide)]
  by_cases q : a1 = 4
  · have q5 : ¬ a1 = 5 := fun e => absurd (q.symm.trans e) (by decide)
    rw [if_pos q, in_in (h3 q).1 (h3 q).2, Option.bind_some, if_neg (by decide)]
    simp only [eq_false q5, eq_true q, if_false, if_true]
  · by_cases q5 : a1 = 5
    · simp only [eq_true q5, eq_false q, if_false, if_true, eq_true (h4 q5), hm]
    · simp only [eq_false q5, eq_false q, if_false, if_true]
theorem addP_of {M Mx : tM} {P : Nat} {a1 a3 : Int32} {k : Int64} (hP : P < 12) (e19 : mE M 19 P = false) (c12 : mI M 1 0 2 = nI P) (hx : fX7_init P (nI P) a1 k a3 (mA M 19 P 15) = some Mx) (ex7 : mE Mx 7 P = false) (nx : mN Mx 200 0 = 12) (cx : mI Mx 1 0 2 = nI P) : fX1_addPart a1 k a3 M = some (nI P, sI (sR (mF Mx 19 7 P) 200 0 P (some P)) 1 0 2 (nI (P + 1))) := by
  rw [fX1_addPart, bnd_eq, c12, bnd_eq, nI_clamp (by omega), chk_tr (by rw [e19]; rfl), bnd_eq, hx, Option.bind_some, chk_tr (by rw [ex7]; rfl), chk_tr (tfix7 _ _), bnd_eq]
  simp only [mN_mF, mI_sR, mI_mF, Nat.reduceEqDiff, false_and, if_false, nx, cx, nI_1, bnd_eq]
  rw [chk_nI (by omega) (by omega)]
