/-! line: both together -/
section NL
variable {M M' : tM} {L f t fH tH g k : Nat} {N : NG}
theorem NewL.e (h : NewL M M' L f t fH tH g k) {a b c : Nat} (h1 : ¬ ((a = 4 ∨ a = 16 ∨ a = 503 ∨ a = 504 ∨ a = 505 ∨ a = 507 ∨ a = 510) ∧ b = L)) (h2 : ¬ (a = 201 ∧ b = 0 ∧ c = L)) (h3 : ¬ (a = 1 ∧ b = 0 ∧ c = 3)) (h4 : ¬ (a = 7 ∧ 11 ≤ c ∧ c ≤ 14)) (h5 : ¬ (a = 4 ∧ (c = 12 ∨ c = 13))) : mI M' a b c = mI M a b c := ((h.1 a b h1).2.2 c h2 h3 h4 h5).1
theorem NewL.r (h : NewL M M' L f t fH tH g k) {a b c : Nat} (h1 : ¬ ((a = 4 ∨ a = 16 ∨ a = 503 ∨ a = 504 ∨ a = 505 ∨ a = 507 ∨ a = 510) ∧ b = L)) (h2 : ¬ (a = 201 ∧ b = 0 ∧ c = L)) (h3 : ¬ (a = 1 ∧ b = 0 ∧ c = 3)) (h4 : ¬ (a = 7 ∧ 11 ≤ c ∧ c ≤ 14)) (h5 : ¬ (a = 4 ∧ (c = 12 ∨ c = 13))) (h6 : ¬ (a = 503 ∨ a = 504)) : mL M' a b c = mL M a b c ∧ mR M' a b c = mR M a b c := ((h.1 a b h1).2.2 c h2 h3 h4 h5).2 h6
theorem NewL.len (h : NewL M M' L f t fH tH g k) (hl : Len M) : Len M' := by
  intro q hq
  have hk : ∀ q ∈ lenL, ¬ (q.1 = 4 ∨ q.1 = 16 ∨ q.1 = 503 ∨ q.1 = 504 ∨ q.1 = 505 ∨ q.1 = 507 ∨ q.1 = 510) := by decide
  rw [(h.1 q.1 0 (fun e => hk q hq e.1)).1]
  exact hl q hq
theorem NewL.gr (h : NewL M M' L f t fH tH g k) (hG : Gr M N) : Gr M' N := by
  have e : ∀ a, ¬ (a = 4 ∨ a = 16 ∨ a = 503 ∨ a = 504 ∨ a = 505 ∨ a = 507 ∨ a = 510 ∨ a = 201 ∨ a = 1 ∨ a = 7) → ∀ b c, mI M' a b c = mI M a b c := fun a h1 b c => h.e (fun q => h1 (by omega)) (fun q => h1 (by omega)) (fun q => h1 (by omega)) (fun q => h1 (by omega)) (fun q => h1 (by omega))
  simp only [Gr] at hG ⊢
  simp only [e 11 (by decide), e 1203 (by decide), e 1205 (by decide), e 1213 (by decide), e 1214 (by decide), e 1215 (by decide), e 1216 (by decide), e 1217 (by decide)]
  exact hG
theorem NewL.fs (h : NewL M M' L f t fH tH g k) (hF : Cf M M) (hR : Cr M M) (hD : Cd M M N) : Cf M' M' ∧ Cr M' M' ∧ Cd M' M' N := by
  have e : ∀ a, ¬ (a = 4 ∨ a = 16 ∨ a = 503 ∨ a = 504 ∨ a = 505 ∨ a = 507 ∨ a = 510 ∨ a = 201 ∨ a = 1 ∨ a = 7) → ∀ b c, mI M' a b c = mI M a b c := fun a h1 b c => h.e (fun q => h1 (by omega)) (fun q => h1 (by omega)) (fun q => h1 (by omega)) (fun q => h1 (by omega)) (fun q => h1 (by omega))
  have l : ∀ a, ¬ (a = 4 ∨ a = 16 ∨ a = 503 ∨ a = 504 ∨ a = 505 ∨ a = 507 ∨ a = 510 ∨ a = 201 ∨ a = 1 ∨ a = 7) → ∀ b c, mL M' a b c = mL M a b c := fun a h1 b c => (h.r (fun q => h1 (by omega)) (fun q => h1 (by omega)) (fun q => h1 (by omega)) (fun q => h1 (by omega)) (fun q => h1 (by omega)) (fun q => h1 (by omega))).1
  simp only [Cf, Cr, Cd] at hF hR hD ⊢
  simp only [e 10 (by decide), e 11 (by decide), e 3 (by decide), e 9 (by decide), e 1110 (by decide), e 1201 (by decide), e 1005 (by decide), e 1227 (by decide), e 1264 (by decide), e 1107 (by decide), l 10 (by decide), l 9 (by decide), l 11 (by decide)]
  exact ⟨hF, hR, hD⟩
end NL
def addL (N : NG) (f t g k : Nat) : NG := (nP N, nL N + 1, (fun q => if q = nL N then f else nF N q), (fun q => if q = nL N then t else nT N q), (fun q i => if q = nL N then g else nG N q i), (fun q i => if q = nL N then k else nK N q i), nH N, nD N, (fun q => if q = nL N then 0 else nS N q))
theorem addL_ok {N : NG} (hN : NOK N) (hL : nL N < 20) {f t g k : Nat} (hf : f < nP N) (ht : t < nP N) (hg : 1 ≤ g ∧ g ≤ 50) (hk : 1 ≤ k ∧ k ≤ 50) : NOK (addL N f t g k) := by
  refine ⟨⟨hN.1.1, hL⟩, hN.2.1, fun l hl => ?_, fun l i hl hi => ?_⟩
  · have hl : l < nL N + 1 := hl
    show (if l = nL N then f else nF N l) < nP N ∧ (if l = nL N then t else nT N l) < nP N ∧ (if l = nL N then 0 else nS N l) ≤ 60
    by_cases e : l = nL N
    · rw [if_pos e, if_pos e, if_pos e]; exact ⟨hf, ht, by omega⟩
    · rw [if_neg e, if_neg e, if_neg e]; exact hN.2.2.1 l (by omega)
  · have hl : l < nL N + 1 := hl
    show (if l = nL N then g else nG N l i) ≤ 50 ∧ (if l = nL N then k else nK N l i) ≤ 50 ∧ (¬ nD N (if l = nL N then f else nF N l) = 4 → 1 ≤ (if l = nL N then g else nG N l i)) ∧ (¬ nD N (if l = nL N then t else nT N l) = 4 → 1 ≤ (if l = nL N then k else nK N l i))
    by_cases e : l = nL N
    · simp only [if_pos e]; exact ⟨hg.2, hk.2, fun _ => hg.1, fun _ => hk.1⟩
    · simp only [if_neg e]; exact hN.2.2.2 l i (by omega) hi
def mAddL (a1 a2 a3 a4 : Int32) (M : tM) : Option (Int32 × tM) :=
  chk (inb (mI M 11 0 12) (mN M 1213 0)) <|
  bnd (sI M 1213 0 ((mI M 11 0 12).toNatClampNeg) a1) fun M15 =>
  chk (inb (mI M15 11 0 12) (mN M15 1214 0)) <|
  bnd (sI M15 1214 0 ((mI M15 11 0 12).toNatClampNeg) a3) fun M17 =>
  Option.bind (fX11_line_l74 a2 a4 FU 0 M17) fun M26 =>
  chk (inb (mI M26 11 0 12) (mN M26 1217 0)) <|
  bnd (sI M26 1217 0 ((mI M26 11 0 12).toNatClampNeg) 0) fun M28 =>
  bnd (sI M28 11 0 12 ((mI M28 11 0 12) + 1)) fun M29 =>
  (fX11_changes M29).bind fun M31 =>
  some (((mI M31 11 0 12) - 1, M31))
theorem s_l74 {M : tM} {L : Nat} {g k : Int32} (hl : Len M) (hL : L < 20) (hc : mI M 11 0 12 = nI L) : Ok (fX11_line_l74 g k FU 0 M) (fun M' => Fr [1215, 1216] M M' ∧ (∀ j, j < 4 → mI M' 1215 0 (4 * L + j) = g ∧ mI M' 1216 0 (4 * L + j) = k) ∧ ∀ j, (j < 4 * L ∨ 4 * L + 4 ≤ j) → mI M' 1215 0 j = mI M 1215 0 j ∧ mI M' 1216 0 j = mI M 1216 0 j) := by
  refine loop0 (fun n i s => fX11_line_l74 g k n i s) 4 (fun i s => Fr [1215, 1216] M s ∧ (∀ j, j < i → mI s 1215 0 (4 * L + j) = g ∧ mI s 1216 0 (4 * L + j) = k) ∧ ∀ j, (j < 4 * L ∨ 4 * L + 4 ≤ j) → mI s 1215 0 j = mI M 1215 0 j ∧ mI s 1216 0 j = mI M 1216 0 j) _ (by omega) ?_ ?_ _ ⟨Fr.refl, fun j hj => by omega, fun _ _ => ⟨rfl, rfl⟩⟩
  · intro n s h
    rw [fX11_line_l74, if_pos (show (4 : Int32) ≤ nI 4 from nI_le (Nat.le_refl 4) (by omega))]
    exact ok_some h
  · intro n i s hi h kk
    rw [fX11_line_l74, if_neg (show ¬ (4 : Int32) ≤ nI i from nI_ge (b := 4) hi (by decide))]
    simp (disch := omega) only [h.1.oI (k := 11) (j := 12) (by decide), hc, L32, nI_add, pk_mul, h.1.n, ln1215 hl, ln1216 hl, mI_sI, mN_sI, Nat.reduceEqDiff, false_and, if_false, chk_nI, bnd_eq, nI_clamp]
    refine kk _ ⟨(h.1.wI (by decide)).wI (by decide), fun j hj => ?_, fun j hj => ?_⟩
    · simp only [mI_sI, true_and, Nat.reduceEqDiff, false_and, if_false]
      by_cases e : j = i
      · subst e; simp
      · rw [if_neg (by omega), if_neg (by omega)]; exact h.2.1 j (by omega)
    · simp only [mI_sI, true_and, Nat.reduceEqDiff, false_and, if_false]
      rw [if_neg (by omega), if_neg (by omega)]; exact h.2.2 j hj
theorem s_mAddL {M : tM} {N : NG} (hN : NOK N) (hl : Len M) (hG : Gr M N) (hL : nL N < 20) {f t g k : Nat} (hN2 : NOK (addL N f t g k)) :
    Ok (mAddL (nI f) (nI g) (nI t) (nI k) M) (fun w => w.1 = nI (nL N) ∧ Fr [1208, 1209, 1213, 1214, 1215, 1216, 1217, 1219, 1220, 1221, 1222, 1223, 1230, 120012, 120025, 120043, 120060] M w.2 ∧ Gr w.2 (addL N f t g k) ∧ TFm w.2 (addL N f t g k) ∧ (∀ t, t < 4 → mI w.2 1230 0 t = 0) ∧ mI w.2 11 0 43 = (-9) ∧ mI w.2 11 0 60 = (-9)) := by
  unfold mAddL
  simp (disch := omega) only [bnd_eq, mN_sI, mI_sI, Nat.reduceEqDiff, false_and, if_false, hG.1.2, ln1213 hl, ln1214 hl, chk_nI, nI_clamp]
  have F1 : Fr [1213, 1214] M (sI (sI M 1213 0 (nL N) (nI f)) 1214 0 (nL N) (nI t)) := (Fr.refl.wI (by decide)).wI (by decide)
  have v3 : ∀ q, mI (sI (sI M 1213 0 (nL N) (nI f)) 1214 0 (nL N) (nI t)) 1213 0 q = if q = nL N then nI f else mI M 1213 0 q := fun q => by simp [mI_sI]
  have v4 : ∀ q, mI (sI (sI M 1213 0 (nL N) (nI f)) 1214 0 (nL N) (nI t)) 1214 0 q = if q = nL N then nI t else mI M 1214 0 q := fun q => by simp [mI_sI]
  generalize sI (sI M 1213 0 (nL N) (nI f)) 1214 0 (nL N) (nI t) = Ma at F1 v3 v4 ⊢
  refine ok_call (s_l74 (hl.fr F1) hL (by rw [F1.oI (by decide)]; exact hG.1.2)) ?_
  rintro Mb ⟨F2, r1, r2⟩
  have F12 : Fr [1213, 1214, 1215, 1216] M Mb := (F1.mono (by decide)).step F2 (by decide)
  simp (disch := omega) only [mI_sI, Nat.reduceEqDiff, false_and, if_false, F12.oI (k := 11) (j := 12) (by decide), hG.1.2, F12.n, ln1217 hl, chk_nI, nI_clamp, nI_1]
  have F3 : Fr [1217, 120012] Mb (sI (sI Mb 1217 0 (nL N) 0) 11 0 12 (nI (nL N + 1))) := (Fr.refl.wI (by decide)).wIo (by decide)
  have v7 : ∀ q, mI (sI (sI Mb 1217 0 (nL N) 0) 11 0 12 (nI (nL N + 1))) 1217 0 q = if q = nL N then 0 else mI Mb 1217 0 q := fun q => by simp [mI_sI]
  have v2 : mI (sI (sI Mb 1217 0 (nL N) 0) 11 0 12 (nI (nL N + 1))) 11 0 12 = nI (nL N + 1) := by simp [mI_sI]
  generalize sI (sI Mb 1217 0 (nL N) 0) 11 0 12 (nI (nL N + 1)) = Mc at F3 v7 v2 ⊢
  have F13 : Fr [1213, 1214, 1215, 1216, 1217, 120012] M Mc := (F12.mono (by decide)).step F3 (by decide)
  have hGc : Gr Mc (addL N f t g k) := by
    refine ⟨⟨by rw [F13.oI (by decide)]; exact hG.1.1, v2⟩, fun q hq => by rw [F13.aI (by decide), F13.aI (by decide)]; exact hG.2.1 q hq, fun l hl => ?_, fun l i hl hi => ?_⟩
    · have hl : l < nL N + 1 := hl
      rw [F3.aI (by decide), F3.aI (by decide), F2.aI (by decide), F2.aI (by decide), v3, v4, v7, F12.aI (by decide)]
      show _ = nI (if l = nL N then f else nF N l) ∧ _ = nI (if l = nL N then t else nT N l) ∧ _ = nI (if l = nL N then 0 else nS N l)
      by_cases e : l = nL N
      · simp only [if_pos e]; exact ⟨trivial, trivial, rfl⟩
      · simp only [if_neg e]; exact hG.2.2.1 l (by omega)
    · have hl : l < nL N + 1 := hl
      rw [F3.aI (by decide), F3.aI (by decide)]
      show _ = nI (if l = nL N then g else nG N l i) ∧ _ = nI (if l = nL N then k else nK N l i)
      by_cases e : l = nL N
      · simp only [if_pos e, e]; exact r1 i hi
      · simp only [if_neg e]
        rw [(r2 (4 * l + i) (by omega)).1, (r2 (4 * l + i) (by omega)).2, F1.aI (by decide), F1.aI (by decide)]
        exact hG.2.2.2 l i (by omega) hi
  refine ok_call (s_changes hN2 (hl.fr F13) hGc) ?_
  rintro Md ⟨F4, T, z, s1, s2⟩
  refine ok_some ⟨?_, (F13.mono (by decide)).step F4 (by decide), hGc.fr F4 (by decide), T, z, s1, s2⟩
  show mI Md 11 0 12 - 1 = nI (nL N)
  rw [F4.oI (by decide), v2, L32 1, pk_sub (by omega)]; rfl
