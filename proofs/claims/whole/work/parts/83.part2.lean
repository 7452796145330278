/-! part: the new PART -/
theorem NewP.i {M M' : tM} {P kd ph : Nat} {k : Int64} (h : NewP M M' P kd ph k) {a b c : Nat} (h1 : ¬ ((a = 7 ∨ a = 19 ∨ a = 809 ∨ a = 810) ∧ b = P)) (h2 : ¬ (a = 200 ∧ b = 0 ∧ c = P)) (h3 : ¬ (a = 1 ∧ b = 0 ∧ c = 2)) : mI M' a b c = mI M a b c ∧ mL M' a b c = mL M a b c ∧ mR M' a b c = mR M a b c := (h.1 a b h1).2.2 c h2 h3
section NQ
variable {M : tM} {P kd ph n : Nat} {k : Int64}
theorem newP0 : NewP M (sI (sR (mF (sI (sL (sI (sI (sI (mA M 19 P 15) 19 P 4 1) 19 P 0 (nI P)) 19 P 1 (nI kd)) 19 P 2 k) 19 P 3 (nI ph)) 19 7 P) 200 0 P (some P)) 1 0 2 (nI (P + 1))) P kd ph k ∧ rowP (sI (sR (mF (sI (sL (sI (sI (sI (mA M 19 P 15) 19 P 4 1) 19 P 0 (nI P)) 19 P 1 (nI kd)) 19 P 2 k) 19 P 3 (nI ph)) 19 7 P) 200 0 P (some P)) 1 0 2 (nI (P + 1))) P none := by
  refine ⟨⟨fun a b h => ?_, ?_⟩, ?_⟩
  · have f7 : (a = 7 ∧ b = P) = False := eq_false fun q => h ⟨Or.inl q.1, q.2⟩
    have f19 : (a = 19 ∧ b = P) = False := eq_false fun q => h ⟨Or.inr (Or.inl q.1), q.2⟩
    have g19 : ∀ x : Prop, (a = 19 ∧ b = P ∧ x) = False := fun x => eq_false fun q => h ⟨Or.inr (Or.inl q.1), q.2.1⟩
    refine ⟨by simp only [mN_sI, mN_sR, mN_sL, mN_mF, mN_mA, f7, f19, if_false], by simp only [mE_sI, mE_sR, mE_sL, mE_mF, mE_mA, f7, f19, if_false], fun c h2 h3 => ⟨?_, ?_, ?_⟩⟩
    · simp only [mI_sI, mI_sR, mI_sL, mI_mF, mI_mA, f7, f19, g19, if_false, if_neg h3]
    · simp only [mL_sI, mL_sR, mL_sL, mL_mF, mL_mA, f7, f19, g19, if_false]
    · simp only [mR_sI, mR_sR, mR_sL, mR_mF, mR_mA, f7, f19, g19, if_false, if_neg h2]
  · simp [mI_sI, mI_sR, mI_sL, mI_mF, mI_mA, mL_sI, mL_sR, mL_sL, mL_mF, mL_mA, mR_sI, mR_sR, mR_sL, mR_mF, mR_mA]
  · simp [rowP, mR_sI, mR_sR, mR_sL, mR_mF, mR_mA]
theorem newP5 : NewP M (sI (sR (mF (sR (mA (sR (mA (sI (sL (sI (sI (sI (mA M 19 P 15) 19 P 4 1) 19 P 0 (nI P)) 19 P 1 (nI 5)) 19 P 2 k) 19 P 3 (nI 1)) 809 P n) 19 P 9 (some P)) 810 P n) 19 P 10 (some P)) 19 7 P) 200 0 P (some P)) 1 0 2 (nI (P + 1))) P 5 1 k ∧ rowP (sI (sR (mF (sR (mA (sR (mA (sI (sL (sI (sI (sI (mA M 19 P 15) 19 P 4 1) 19 P 0 (nI P)) 19 P 1 (nI 5)) 19 P 2 k) 19 P 3 (nI 1)) 809 P n) 19 P 9 (some P)) 810 P n) 19 P 10 (some P)) 19 7 P) 200 0 P (some P)) 1 0 2 (nI (P + 1))) P (some n) := by
  refine ⟨⟨fun a b h => ?_, ?_⟩, ?_⟩
  · have f7 : (a = 7 ∧ b = P) = False := eq_false fun q => h ⟨Or.inl q.1, q.2⟩
    have f19 : (a = 19 ∧ b = P) = False := eq_false fun q => h ⟨Or.inr (Or.inl q.1), q.2⟩
    have f8 : (a = 809 ∧ b = P) = False := eq_false fun q => h ⟨Or.inr (Or.inr (Or.inl q.1)), q.2⟩
    have f9 : (a = 810 ∧ b = P) = False := eq_false fun q => h ⟨Or.inr (Or.inr (Or.inr q.1)), q.2⟩
    have g19 : ∀ x : Prop, (a = 19 ∧ b = P ∧ x) = False := fun x => eq_false fun q => h ⟨Or.inr (Or.inl q.1), q.2.1⟩
    refine ⟨by simp only [mN_sI, mN_sR, mN_sL, mN_mF, mN_mA, f7, f19, f8, f9, if_false], by simp only [mE_sI, mE_sR, mE_sL, mE_mF, mE_mA, f7, f19, f8, f9, if_false], fun c h2 h3 => ⟨?_, ?_, ?_⟩⟩
    · simp only [mI_sI, mI_sR, mI_sL, mI_mF, mI_mA, f7, f19, f8, f9, g19, if_false, if_neg h3]
    · simp only [mL_sI, mL_sR, mL_sL, mL_mF, mL_mA, f7, f19, f8, f9, g19, if_false]
    · simp only [mR_sI, mR_sR, mR_sL, mR_mF, mR_mA, f7, f19, f8, f9, g19, if_false, if_neg h2]
  · simp [mI_sI, mI_sR, mI_sL, mI_mF, mI_mA, mL_sI, mL_sR, mL_sL, mL_mF, mL_mA, mR_sI, mR_sR, mR_sL, mR_mF, mR_mA]
  · simp [rowP, mR_sI, mR_sR, mR_sL, mR_mF, mR_mA, mN_sI, mN_sR, mN_sL, mN_mF, mN_mA, mL_sI, mL_sR, mL_sL, mL_mF, mL_mA]
end NQ
/-- the class has a PART more -/
theorem s_addPart {M X : tM} {N : NG} (hl : Len M) (hC : Cg M X N) (hP : nP N < 12) {kd n : Nat} (hk : kd ≤ 5) {k : Int64} {a3 : Int32} (h4 : kd = 4 → a3 = nI n ∧ 1 ≤ n ∧ n ≤ 4) (h5 : kd = 5 → a3 = nI n ∧ n ≤ 12) :
    ∃ M', fX1_addPart (nI kd) k a3 M = some (nI (nP N), M') ∧ NewP M M' (nP N) kd (if kd = 4 then n else 1) k ∧ rowP M' (nP N) (if kd = 5 then some n else none) := by
  obtain ⟨e7, e19, e8, e9⟩ := hC.2.2.2.1 (nP N) (Nat.le_refl _)
  by_cases q : kd = 5
  · subst q
    obtain ⟨rfl, hn⟩ := h5 rfl
    refine ⟨_, addP_of hP e19 hC.1.1 (np_init5 e7 e8 e9 hn) ?_ ?_ ?_, ?_⟩
    · simp [mE_sI, mE_sR, mE_sL, mE_mA, e7]
    · simp [mN_sI, mN_sR, mN_sL, mN_mA, ln200 hl]
    · simp [mI_sI, mI_sR, mI_sL, mI_mA, hC.1.1]
    · rw [if_neg (by decide), if_pos rfl]; exact newP5
  · refine ⟨_, addP_of hP e19 hC.1.1 (np_init0 e7 q h4 hk) ?_ ?_ ?_, ?_⟩
    · simp [mE_sI, mE_sL, mE_mA, e7]
    · simp [mN_sI, mN_sL, mN_mA, ln200 hl]
    · simp [mI_sI, mI_sL, mI_mA, hC.1.1]
    · rw [if_neg q]; exact newP0
def addN (N : NG) (kd ph : Nat) : NG := (nP N + 1, N.2.1, N.2.2.1, N.2.2.2.1, N.2.2.2.2.1, N.2.2.2.2.2.1, (fun q => if q = nP N then ph else nH N q), (fun q => if q = nP N then kd else nD N q), N.2.2.2.2.2.2.2.2)
theorem addN_ok {N : NG} (hN : NOK N) (hP : nP N < 12) {kd ph : Nat} (hk : kd ≤ 5) (h1 : 1 ≤ ph) (h4 : ph ≤ 4) (hp : ¬ kd = 4 → ph = 1) : NOK (addN N kd ph) := by
  refine ⟨⟨hP, hN.1.2⟩, fun p hp' => ?_, fun l hl => ?_, fun l i hl hi => ?_⟩
  · have hp' : p < nP N + 1 := hp'
    show (if p = nP N then kd else nD N p) ≤ 5 ∧ 1 ≤ (if p = nP N then ph else nH N p) ∧ (if p = nP N then ph else nH N p) ≤ 4 ∧ (¬ (if p = nP N then kd else nD N p) = 4 → (if p = nP N then ph else nH N p) = 1)
    by_cases e : p = nP N
    · rw [if_pos e, if_pos e]; exact ⟨hk, h1, h4, hp⟩
    · rw [if_neg e, if_neg e]; exact hN.2.1 p (by omega)
  · obtain ⟨a, b, c⟩ := hN.2.2.1 l hl
    exact ⟨Nat.lt_succ_of_lt a, Nat.lt_succ_of_lt b, c⟩
  · obtain ⟨a, b, -⟩ := hN.2.2.1 l hl
    obtain ⟨g1, g2, g3, g4⟩ := hN.2.2.2 l i hl hi
    refine ⟨g1, g2, fun q => g3 ?_, fun q => g4 ?_⟩
    · have q : ¬ (if nF N l = nP N then kd else nD N (nF N l)) = 4 := q
      rwa [if_neg (by omega)] at q
    · have q : ¬ (if nT N l = nP N then kd else nD N (nT N l)) = 4 := q
      rwa [if_neg (by omega)] at q
theorem nx_none {f : Nat → Nat} {p L : Nat} (h : ∀ l, l < L → ¬ f l = p) : ∀ d i, d = L - i → nx f p L i = none := by
  intro d
  induction d with
  | zero => intro i hd; exact nx_end (by omega)
  | succ d ih => intro i hd; rw [nx_miss (by omega) (h i (by omega))]; exact ih (i + 1) (by omega)
theorem lst_none {f : Nat → Nat} {p : Nat} : ∀ {L : Nat}, (∀ l, l < L → ¬ f l = p) → lst f p L = none
  | 0, _ => rfl
  | L + 1, h => by rw [lst, if_neg (h L (by omega))]; exact lst_none (fun l hl => h l (by omega))
theorem s_l130 {M : tM} {P : Nat} (hl : Len M) (hP : P < 12) (hc : mI M 11 0 2 = nI P) : Ok (fX11_part_l130 FU 0 M) (fun M' => Fr [1207] M M' ∧ (∀ j, j < 12 → mL M' 1207 0 (12 * P + j) = 0) ∧ ∀ j, (j < 12 * P ∨ 12 * P + 12 ≤ j) → mL M' 1207 0 j = mL M 1207 0 j) := by
  refine loop0 (fun n i s => fX11_part_l130 n i s) 12 (fun i s => Fr [1207] M s ∧ (∀ j, j < i → mL s 1207 0 (12 * P + j) = 0) ∧ ∀ j, (j < 12 * P ∨ 12 * P + 12 ≤ j) → mL s 1207 0 j = mL M 1207 0 j) _ (by omega) ?_ ?_ _ ⟨Fr.refl, fun j hj => by omega, fun _ _ => rfl⟩
  · intro n s h
    rw [fX11_part_l130, if_pos (show (12 : Int32) ≤ nI 12 from nI_le (Nat.le_refl 12) (by omega))]
    exact ok_some h
  · intro n i s hi h kk
    rw [fX11_part_l130, if_neg (show ¬ (12 : Int32) ≤ nI i from nI_ge (b := 12) hi (by decide)), h.1.oI (by decide), hc]
    simp (disch := omega) only [L32, nI_add, pk_mul, h.1.n, ln1207 hl, chk_nI, bnd_eq, nI_clamp]
    refine kk _ ⟨h.1.wL (by decide), fun j hj => ?_, fun j hj => ?_⟩
    · rw [mL_sL]
      split
      · rfl
      · exact h.2.1 j (by omega)
    · rw [mL_sL, if_neg (by omega)]
      exact h.2.2 j hj
theorem s_mAddP {M : tM} {N : NG} (hN : NOK N) (hl : Len M) (hG : Gr M N) (hP : nP N < 12) {kd ph : Nat} (hN2 : NOK (addN N kd ph)) {k : Int64} {a3 rv : Int32} (hph : (if nI kd = 4 then some a3 else some (1 : Int32)) = some (nI ph)) (hrv : (if nI kd = 5 then some a3 else some (-9 : Int32)) = some rv) :
    Ok (mAddP (nI kd) k a3 M) (fun w => w.1 = nI (nP N) ∧ Fr [1203, 1204, 1205, 1206, 1207, 1208, 1209, 1210, 1211, 1219, 1220, 1221, 1222, 1223, 1230, 120002, 120025, 120043, 120060] M w.2 ∧ Gr w.2 (addN N kd ph) ∧ TFm w.2 (addN N kd ph) ∧ (∀ t, t < 4 → mI w.2 1230 0 t = 0) ∧ mI w.2 11 0 43 = (-9) ∧ mI w.2 11 0 60 = (-9) ∧ (∀ q, mL w.2 1204 0 q = if q = nP N then k else mL M 1204 0 q) ∧ (∀ q, mI w.2 1206 0 q = if q = nP N then rv else mI M 1206 0 q) ∧ (∀ q, mI w.2 1210 0 q = if q = nP N then 1 else mI M 1210 0 q) ∧ (∀ q, mI w.2 1211 0 q = if q = nP N then 0 else mI M 1211 0 q) ∧ (∀ j, j < 12 → mL w.2 1207 0 (12 * nP N + j) = 0) ∧ ∀ j, j < 12 * nP N → mL w.2 1207 0 j = mL M 1207 0 j) := by
  unfold mAddP
  simp (disch := omega) only [hph, hrv, Option.bind_some, bnd_eq, mN_sI, mN_sL, mI_sI, mI_sL, Nat.reduceEqDiff, false_and, if_false, hG.1.1, ln1203 hl, ln1204 hl, ln1205 hl, ln1206 hl, chk_nI, nI_clamp]
  have F1 : Fr [1203, 1204, 1205, 1206] M (sI (sI (sL (sI M 1203 0 (nP N) (nI kd)) 1204 0 (nP N) k) 1205 0 (nP N) (nI ph)) 1206 0 (nP N) rv) := (((Fr.refl.wI (by decide)).wL (by decide)).wI (by decide)).wI (by decide)
  have v3 : ∀ q, mI (sI (sI (sL (sI M 1203 0 (nP N) (nI kd)) 1204 0 (nP N) k) 1205 0 (nP N) (nI ph)) 1206 0 (nP N) rv) 1203 0 q = if q = nP N then nI kd else mI M 1203 0 q := fun q => by simp [mI_sI, mI_sL]
  have v4 : ∀ q, mL (sI (sI (sL (sI M 1203 0 (nP N) (nI kd)) 1204 0 (nP N) k) 1205 0 (nP N) (nI ph)) 1206 0 (nP N) rv) 1204 0 q = if q = nP N then k else mL M 1204 0 q := fun q => by simp [mL_sI, mL_sL]
  have v5 : ∀ q, mI (sI (sI (sL (sI M 1203 0 (nP N) (nI kd)) 1204 0 (nP N) k) 1205 0 (nP N) (nI ph)) 1206 0 (nP N) rv) 1205 0 q = if q = nP N then nI ph else mI M 1205 0 q := fun q => by simp [mI_sI, mI_sL]
  have v6 : ∀ q, mI (sI (sI (sL (sI M 1203 0 (nP N) (nI kd)) 1204 0 (nP N) k) 1205 0 (nP N) (nI ph)) 1206 0 (nP N) rv) 1206 0 q = if q = nP N then rv else mI M 1206 0 q := fun q => by simp [mI_sI, mI_sL]
  generalize sI (sI (sL (sI M 1203 0 (nP N) (nI kd)) 1204 0 (nP N) k) 1205 0 (nP N) (nI ph)) 1206 0 (nP N) rv = Ma at F1 v3 v4 v5 v6 ⊢
  refine ok_call (s_l130 (hl.fr F1) hP (by rw [F1.oI (by decide)]; exact hG.1.1)) ?_
  rintro Mb ⟨F2, r1, r2⟩
  have F12 : Fr [1203, 1204, 1205, 1206, 1207] M Mb := (F1.mono (by decide)).step F2 (by decide)
  rw [F12.oI (by decide), hG.1.1, F12.n, F12.n, ln1210 hl, ln1211 hl, chk_nI (by omega) (by omega), chk_nI (by omega) (by omega), nI_clamp (by omega), nI_1]
  have F3 : Fr [1210, 1211, 120002] Mb (sI (sI (sI Mb 1210 0 (nP N) 1) 1211 0 (nP N) 0) 11 0 2 (nI (nP N + 1))) := ((Fr.refl.wI (by decide)).wI (by decide)).wIo (by decide)
  have v10 : ∀ q, mI (sI (sI (sI Mb 1210 0 (nP N) 1) 1211 0 (nP N) 0) 11 0 2 (nI (nP N + 1))) 1210 0 q = if q = nP N then 1 else mI Mb 1210 0 q := fun q => by simp [mI_sI]
  have v11 : ∀ q, mI (sI (sI (sI Mb 1210 0 (nP N) 1) 1211 0 (nP N) 0) 11 0 2 (nI (nP N + 1))) 1211 0 q = if q = nP N then 0 else mI Mb 1211 0 q := fun q => by simp [mI_sI]
  have v2 : mI (sI (sI (sI Mb 1210 0 (nP N) 1) 1211 0 (nP N) 0) 11 0 2 (nI (nP N + 1))) 11 0 2 = nI (nP N + 1) := by simp [mI_sI]
  generalize sI (sI (sI Mb 1210 0 (nP N) 1) 1211 0 (nP N) 0) 11 0 2 (nI (nP N + 1)) = Mc at F3 v10 v11 v2 ⊢
  have F13 : Fr [1203, 1204, 1205, 1206, 1207, 1210, 1211, 120002] M Mc := (F12.mono (by decide)).step F3 (by decide)
  have hGc : Gr Mc (addN N kd ph) := by
    refine ⟨⟨v2, by rw [F13.oI (by decide)]; exact hG.1.2⟩, fun q hq => ?_, fun l hl => by rw [F13.aI (by decide), F13.aI (by decide), F13.aI (by decide)]; exact hG.2.2.1 l hl, fun l i hl hi => by rw [F13.aI (by decide), F13.aI (by decide)]; exact hG.2.2.2 l i hl hi⟩
    have hq : q < nP N + 1 := hq
    rw [F3.aI (by decide), F3.aI (by decide), F2.aI (by decide), F2.aI (by decide), v3, v5]
    show _ = nI (if q = nP N then kd else nD N q) ∧ _ = nI (if q = nP N then ph else nH N q)
    by_cases e : q = nP N
    · rw [if_pos e, if_pos e, if_pos e, if_pos e]; exact ⟨rfl, rfl⟩
    · rw [if_neg e, if_neg e, if_neg e, if_neg e]; exact hG.2.1 q (by omega)
  refine ok_call (s_changes hN2 (hl.fr F13) hGc) ?_
  rintro Md ⟨F4, T, z, s1, s2⟩
  refine ok_some ⟨?_, (F13.mono (by decide)).step F4 (by decide), hGc.fr F4 (by decide), T, z, s1, s2, fun q => ?_, fun q => ?_, fun q => ?_, fun q => ?_, fun j hj => ?_, fun j hj => ?_⟩
  · show mI Md 11 0 2 - 1 = nI (nP N)
    rw [F4.oI (by decide), v2, L32 1, pk_sub (by omega)]; rfl
  · rw [F4.aL (by decide), F3.aL (by decide), F2.aL (by decide), v4]
  · rw [F4.aI (by decide), F3.aI (by decide), F2.aI (by decide), v6]
  · rw [F4.aI (by decide), v10, F12.aI (by decide)]
  · rw [F4.aI (by decide), v11, F12.aI (by decide)]
  · rw [F4.aL (by decide), F3.aL (by decide), r1 j hj]
  · rw [F4.aL (by decide), F3.aL (by decide), r2 j (by omega), F1.aL (by decide)]
