/-! THE FIRST MARKING: toFirstMarking, begins -/
def TFc (M : tM) (N : NG) : Prop := mI M 9 0 1 = 0 ∧ (∀ p, p < nP N → mI M 7 p 7 = 0 ∧ mL M 7 p 8 = 0 ∧ mR M 7 p 10 = mR M 7 p 9 ∧ (mR M 7 p 9 = some p → ∀ j, j < mN M 810 p → mL M 810 p j = mL M 809 p j)) ∧ (∀ l, l < nL N → mI M 4 l 8 = 0 ∧ mI M 4 l 9 = mI M 4 l 6 ∧ mI M 4 l 11 = 0 ∧ ∀ i, i < nS N l → mL M 507 l i = mL M 505 l i)
def TFm (M : tM) (N : NG) : Prop := mI M 11 0 25 = 0 ∧ (∀ p, p < nP N → mI M 1219 0 p = 0 ∧ mL M 1220 0 p = 0 ∧ mI M 1208 0 p = mI M 1206 0 p ∧ ∀ j, j < 12 → mL M 1209 0 (12 * p + j) = mL M 1207 0 (12 * p + j)) ∧ (∀ l, l < nL N → mI M 1221 0 l = mI M 1217 0 l ∧ mI M 1223 0 l = 0 ∧ ∀ i, i < nS N l → mL M 1222 0 (450 * l + i) = mL M 1218 0 (60 * l + i))
def rsTFc : List Nat := [4, 7, 9, 505, 507, 809, 810, 50006, 50008, 50009, 50011, 80007, 80008, 80009, 80010, 100001]
theorem TFc.fr {ks : List Nat} {M M2 : tM} {N : NG} (h : TFc M N) (hF : Fr ks M M2) (hd : disj ks rsTFc = true) : TFc M2 N := by
  simp only [TFc] at h ⊢
  simp only [hF.hI hd 9 1 (by decide), hF.hI hd 7 7 (by decide), hF.hI hd 4 8 (by decide), hF.hI hd 4 9 (by decide), hF.hI hd 4 6 (by decide), hF.hI hd 4 11 (by decide), hF.gL hd 810 (by decide), hF.gL hd 809 (by decide), hF.gL hd 507 (by decide), hF.gL hd 505 (by decide), hF.hL hd 7 8 (by decide), hF.hR hd 7 9 (by decide), hF.hR hd 7 10 (by decide), hF.n, hF.e]
  exact h
def rsTFm : List Nat := [11, 1206, 1207, 1208, 1209, 1217, 1218, 1219, 1220, 1221, 1222, 1223, 120025]
theorem TFm.fr {ks : List Nat} {M M2 : tM} {N : NG} (h : TFm M N) (hF : Fr ks M M2) (hd : disj ks rsTFm = true) : TFm M2 N := by
  simp only [TFm] at h ⊢
  simp only [hF.gI hd 1219 (by decide), hF.gI hd 1208 (by decide), hF.gI hd 1206 (by decide), hF.gI hd 1221 (by decide), hF.gI hd 1217 (by decide), hF.gI hd 1223 (by decide), hF.hI hd 11 25 (by decide), hF.gL hd 1220 (by decide), hF.gL hd 1209 (by decide), hF.gL hd 1207 (by decide), hF.gL hd 1222 (by decide), hF.gL hd 1218 (by decide), hF.n, hF.e]
  exact h
theorem Cv_new {M : tM} {N : NG} (hN : NOK N) (hG : Gr M N) (hC : Cg M M N) (hc : TFc M N) (hm : TFm M N) : Cv M M N := by
  refine ⟨0, by omega, hm.1, hc.1, fun p hp => ?_, fun l hl => ?_⟩
  · obtain ⟨c1, c2, c3, c4⟩ := hc.2.1 p hp
    obtain ⟨m1, m2, m3, m4⟩ := hm.2.1 p hp
    refine ⟨⟨0, (hN.2.1 p hp).2.1, m1⟩, m3, by rw [c1, m1], by rw [c2, m2], c3, fun r e hr j hj => ?_⟩
    rcases (hC.2.1 p hp).2 with ⟨w1, w2⟩ | ⟨r', w1, w2, w3, w4, w5, w6, w7⟩
    · rw [w1] at e
      have := congrArg Int32.toInt e
      rw [nI_toInt (by omega)] at this
      have h9 : (-9 : Int32).toInt = -9 := by decide
      omega
    · have hrr : r' = r := by
        rw [w3] at e
        exact (nI_eq (by omega) (by omega)).mp e
      subst hrr
      rw [c4 w4 j (by omega), w7 j hj, m4 j (by omega)]
  · obtain ⟨c1, c2, c3, c4⟩ := hc.2.2 l hl
    obtain ⟨m1, m2, m3⟩ := hm.2.2 l hl
    have hs := (hG.2.2.1 l hl).2.2
    have h60 := (hN.2.2.1 l hl).2.2
    have hn := (hC.2.2.1 l hl)
    refine ⟨nS N l, 0, 0, by omega, by omega, by omega, by rw [m1, hs], by rw [c2, hn.1.2.2.2.2.1], c1, fun i hi => ?_, m2, c3, fun i hi => by omega⟩
    rw [show (0 + i) % 400 = i by omega, c4 i hi, hn.2.2.2.2.2.2.2.2 i hi, m3 i hi]
theorem cpok_0 {n a b : Nat} (h1 : n ≤ a) (h2 : n ≤ b) (hn : n < 2 ^ 31) : cpok 0 0 (nI n) a b = true := by
  have e : (0 : Int32).toNatClampNeg = 0 := by decide
  have := nI_clamp hn
  have h0 := nI_pos hn
  have z : ¬ (0 : Int32) < 0 := by decide
  simp only [cpok, Bool.and_eq_true, Bool.not_eq_true', decide_eq_false_iff_not, decide_eq_true_eq]
  refine ⟨⟨⟨⟨z, z⟩, h0⟩, ?_⟩, ?_⟩ <;> omega
theorem min_same {n : Nat} {M : tM} : fJ9_min_7cf53 (nI n) (nI n) M = some (nI n) := by
  rw [fJ9_min_7cf53]
  split <;> rfl
theorem cpy0 {α : Type} {f g : Nat → α} {n j : Nat} (h : j < n) : va_cpy f g 0 0 n j = f j := by
  rw [pk_cpy_in (by omega) (by omega)]
  congr 1
  omega
theorem cl0 : (0 : Int32).toNatClampNeg = 0 := by decide
theorem sX7_toFirst {M : tM} {p : Nat} (h9 : mR M 7 p 9 = none ∨ (∃ r, r ≤ 12 ∧ mR M 7 p 9 = some p ∧ mN M 809 p = r ∧ mN M 810 p = r)) (h10 : mR M 7 p 10 = mR M 7 p 9) :
    Ok (fX7_toFirst p M) (fun M' => Fr [810, 80007, 80008] M M' ∧ mI M' 7 p 7 = 0 ∧ mL M' 7 p 8 = 0 ∧ (mR M 7 p 9 = some p → ∀ j, j < mN M 810 p → mL M' 810 p j = mL M 809 p j) ∧ ∀ q, ¬ q = p → mI M' 7 q 7 = mI M 7 q 7 ∧ mL M' 7 q 8 = mL M 7 q 8 ∧ ∀ j, mL M' 810 q j = mL M 810 q j) := by
  rw [fX7_toFirst]
  simp only [bnd_eq, mR_sL, mR_sI, mN_sL, mN_sI, h10]
  rcases h9 with h9 | ⟨r, hr, h9, n1, n2⟩
  · rw [h9, if_pos rfl]
    refine ok_some ⟨(Fr.refl.wIo (by decide)).wLo (by decide), by simp [mI_sL, mI_sI], by simp [mL_sL], fun q => (by cases q), fun q hq => ?_⟩
    simp [mI_sL, mI_sI, mL_sL, mL_sI, hq]
  · rw [h9, if_neg (by simp), if_neg (by simp)]
    simp only [Option.bind_some, n1, n2, min_same]
    rw [chk_tr (cpok_0 (Nat.le_refl r) (Nat.le_refl r) (by omega)), nI_clamp (by omega), cl0]
    refine ok_some ⟨((Fr.refl.wIo (by decide)).wLo (by decide)).vL (by decide), by simp [mI_cL, mI_sL, mI_sI], by simp [mL_cL, mL_sL], fun _ j hj => ?_, fun q hq => ?_⟩
    · rw [mL_cL, if_pos ⟨rfl, rfl⟩, cpy0 hj]
      simp [mL_sL, mL_sI]
    · simp [mI_cL, mI_sL, mI_sI, mL_cL, mL_sL, mL_sI, hq]
theorem sX4_toFirst {M : tM} {l s : Nat} (h6 : mI M 4 l 6 = nI s) (hs : s ≤ 60) (n1 : mN M 505 l = 60) (n2 : mN M 507 l = 400) :
    Ok (fX4_toFirst l M) (fun M' => Fr [507, 50008, 50009, 50011] M M' ∧ mI M' 4 l 8 = 0 ∧ mI M' 4 l 9 = nI s ∧ mI M' 4 l 11 = 0 ∧ (∀ i, i < s → mL M' 507 l i = mL M 505 l i) ∧ ∀ q, ¬ q = l → mI M' 4 q 8 = mI M 4 q 8 ∧ mI M' 4 q 9 = mI M 4 q 9 ∧ mI M' 4 q 11 = mI M 4 q 11 ∧ ∀ j, mL M' 507 q j = mL M 507 q j) := by
  rw [fX4_toFirst]
  simp only [bnd_eq, mI_sI, mN_sI]
  simp [h6, n1, n2]
  rw [chk_tr (cpok_0 (by omega) (by omega) (by omega)), nI_clamp (by omega)]
  refine ok_some ⟨(((Fr.refl.wIo (by decide)).wIo (by decide)).wIo (by decide)).vL (by decide), by simp [mI_cL, mI_sI], by simp [mI_cL, mI_sI], by simp [mI_cL, mI_sI], fun i hi => ?_, fun q hq => ?_⟩
  · rw [mL_cL, if_pos ⟨rfl, rfl⟩]
    show va_cpy _ _ 0 0 s i = _
    rw [cpy0 hi]
    simp [mL_sI]
  · simp [mI_cL, mI_sI, mL_cL, mL_sI, hq]
theorem s_fill {M : tM} {k i n : Nat} {v : Int32} (hk : tO k = none) (hr : tRO k = false) (hi : tIsI k = true) (hn : mN M k i = n) (h2 : n < 1000000000) : Ok (fJ7_fill_53178 k i v M) (fun M' => Fr [k] M M' ∧ (∀ j, j < n → mI M' k i j = v) ∧ ∀ q, ¬ q = i → ∀ j, mI M' k q j = mI M k q j) := by
  rw [fJ7_fill_53178, chk_tr (by rw [hk]; rfl), chk_tr (by rw [hr]; rfl), bnd_eq, hn]
  refine ok_call (loop0 (fun m j s => fJ7_fill_53178_l5 k i v (nI n) m j s) n (fun j s => Fr [k] M s ∧ (∀ j', j' < j → mI s k i j' = v) ∧ ∀ q, ¬ q = i → ∀ j, mI s k q j = mI M k q j) _ h2 ?_ ?_ M ⟨Fr.refl, fun j' h => by omega, fun _ _ _ => rfl⟩) (fun a h => ok_some h)
  · intro m s h
    rw [fJ7_fill_53178_l5, if_pos (nI_le (Nat.le_refl _) (by omega))]
    exact ok_some h
  · intro m j s hj h kk
    rw [fJ7_fill_53178_l5, if_neg (nI_ge hj (by omega)), chk_tr hi, h.1.n, hn, chk_nI hj (by omega), bnd_eq, bnd_eq, nI_clamp (by omega), nI_1]
    refine kk _ ⟨h.1.wI (by simp), fun j' hj' => ?_, fun q hq j' => ?_⟩
    · rw [mI_sI]
      split
      · rfl
      · exact h.2.1 j' (by omega)
    · rw [mI_sI, if_neg (fun e => hq e.2.1)]
      exact h.2.2 q hq j'
/-- what the class needs for it -/
def Cgs (M : tM) (N : NG) : Prop := (mI M 1 0 2 = nI (nP N) ∧ mI M 1 0 3 = nI (nL N)) ∧ (∀ p, p < nP N → mR M 200 0 p = some p ∧ mR M 7 p 10 = mR M 7 p 9 ∧ (mR M 7 p 9 = none ∨ (∃ r, r ≤ 12 ∧ mR M 7 p 9 = some p ∧ mN M 809 p = r ∧ mN M 810 p = r))) ∧ (∀ l, l < nL N → mR M 201 0 l = some l ∧ mI M 4 l 6 = nI (nS N l) ∧ mN M 505 l = 60 ∧ mN M 507 l = 400)
theorem Cgs.of {M X : tM} {N : NG} (h : Cg M X N) (hv : Cv M X N) : Cgs M N := by
  obtain ⟨f, -, -, -, hv, -⟩ := hv
  refine ⟨h.1, fun p hp => ⟨(h.2.1 p hp).1.1, (hv p hp).2.2.2.2.1, ?_⟩, fun l hl => ?_⟩
  · rcases (h.2.1 p hp).2 with ⟨w1, w2⟩ | ⟨r, w1, w2, w3, w4, w5, w6, w7⟩
    · exact Or.inl w2
    · exact Or.inr ⟨r, w2, w4, w5, w6⟩
  · have hc := h.2.2.1 l hl
    exact ⟨hc.1.1, hc.1.2.2.2.2.1, hc.2.2.2.1, hc.2.2.2.2.1⟩
/-- the class comes to THE FIRST MARKING -/
theorem s_toFirst {M : tM} {N : NG} (hN : NOK N) (hl : Len M) (hC : Cgs M N) :
    Ok (fX10_toFirstMarking M) (fun M' => Fr [507, 810, 905, 50008, 50009, 50011, 80007, 80008, 100001] M M' ∧ TFc M' N ∧ ∀ t, t < 4 → mI M' 905 0 t = 0) := by
  have hb := hN.1
  rw [fX10_toFirstMarking, fX9_toFirst, bnd_eq]
  have h1 : Ok (fX9_toFirst_l7 FU 0 (sI M 9 0 1 0)) (fun s => Fr [810, 80007, 80008, 100001] M s ∧ mI s 9 0 1 = 0 ∧ ∀ p, p < nP N → mI s 7 p 7 = 0 ∧ mL s 7 p 8 = 0 ∧ (mR M 7 p 9 = some p → ∀ j, j < mN M 810 p → mL s 810 p j = mL M 809 p j)) := by
    refine loop0 (fun n i s => fX9_toFirst_l7 n i s) (nP N) (fun i s => Fr [810, 80007, 80008, 100001] M s ∧ mI s 9 0 1 = 0 ∧ ∀ p, p < i → mI s 7 p 7 = 0 ∧ mL s 7 p 8 = 0 ∧ (mR M 7 p 9 = some p → ∀ j, j < mN M 810 p → mL s 810 p j = mL M 809 p j)) _ (by omega) ?_ ?_ _ ⟨Fr.refl.wIo (by decide), by simp [mI_sI], fun p hp => by omega⟩
    · intro n s h
      rw [fX9_toFirst_l7, h.1.oI (by decide), hC.1.1, if_pos (nI_le (Nat.le_refl _) (by omega))]
      exact ok_some h
    · intro n i s hi h kk
      obtain ⟨hF, h9, hd⟩ := h
      rw [fX9_toFirst_l7, hF.oI (by decide), hC.1.1, if_neg (nI_ge hi (by omega)), hF.n, ln200 hl, chk_nI (by omega) (by omega), bnd_eq, nI_clamp (by omega), hF.aR (by decide), (hC.2.1 i hi).1, Option.bind_some]
      refine ok_call (sX7_toFirst (M := s) (p := i) ?_ ?_) ?_
      · rw [hF.oR (by decide), hF.n, hF.n]
        exact (hC.2.1 i hi).2.2
      · rw [hF.oR (by decide), hF.oR (by decide)]
        exact (hC.2.1 i hi).2.1
      · rintro M' ⟨k1, k2, k3, k4, k5⟩
        rw [bnd_eq, nI_1]
        refine kk _ ⟨hF.step k1 (by decide), ?_, fun p hp => ?_⟩
        · rw [k1.oI (by decide)]; exact h9
        · by_cases e : p = i
          · subst e
            refine ⟨k2, k3, fun q j hj => ?_⟩
            rw [k4 (by rw [hF.oR (by decide)]; exact q) j (by rw [hF.n]; exact hj), hF.aL (by decide)]
          · obtain ⟨g1, g2, g3⟩ := hd p (by omega)
            obtain ⟨f1, f2, f3⟩ := k5 p e
            exact ⟨by rw [f1]; exact g1, by rw [f2]; exact g2, fun q j hj => by rw [f3]; exact g3 q j hj⟩
  have h2 : ∀ s1, Fr [810, 80007, 80008, 100001] M s1 → Ok (fX9_toFirst_l38 FU 0 s1) (fun s => Fr [507, 50008, 50009, 50011] s1 s ∧ ∀ l, l < nL N → mI s 4 l 8 = 0 ∧ mI s 4 l 9 = mI M 4 l 6 ∧ mI s 4 l 11 = 0 ∧ ∀ i, i < nS N l → mL s 507 l i = mL M 505 l i) := by
    intro s1 F1
    refine loop0 (fun n i s => fX9_toFirst_l38 n i s) (nL N) (fun i s => Fr [507, 50008, 50009, 50011] s1 s ∧ ∀ l, l < i → mI s 4 l 8 = 0 ∧ mI s 4 l 9 = mI M 4 l 6 ∧ mI s 4 l 11 = 0 ∧ ∀ i, i < nS N l → mL s 507 l i = mL M 505 l i) _ (by omega) ?_ ?_ _ ⟨Fr.refl, fun p hp => by omega⟩
    · intro n s h
      rw [fX9_toFirst_l38, h.1.oI (by decide), F1.oI (by decide), hC.1.2, if_pos (nI_le (Nat.le_refl _) (by omega))]
      exact ok_some h
    · intro n i s hi h kk
      obtain ⟨hF, hd⟩ := h
      have hc := hC.2.2 i hi
      have h60 := (hN.2.2.1 i hi).2.2
      rw [fX9_toFirst_l38, hF.oI (by decide), F1.oI (by decide), hC.1.2, if_neg (nI_ge hi (by omega)), hF.n, F1.n, ln201 hl, chk_nI (by omega) (by omega), bnd_eq, nI_clamp (by omega), hF.aR (by decide), F1.aR (by decide), hc.1, Option.bind_some]
      refine ok_call (sX4_toFirst (M := s) (l := i) (s := nS N i) (by rw [hF.oI (by decide), F1.oI (by decide)]; exact hc.2.1) h60 (by rw [hF.n, F1.n]; exact hc.2.2.1) (by rw [hF.n, F1.n]; exact hc.2.2.2)) ?_
      rintro M' ⟨k1, k2, k3, k4, k5, k6⟩
      rw [bnd_eq, nI_1]
      refine kk _ ⟨hF.step k1 (by decide), fun p hp => ?_⟩
      by_cases e : p = i
      · subst e
        refine ⟨k2, by rw [k3, hc.2.1], k4, fun j hj => ?_⟩
        rw [k5 j hj, hF.aL (by decide), F1.aL (by decide)]
      · obtain ⟨g1, g2, g3, g4⟩ := hd p (by omega)
        obtain ⟨f1, f2, f3, f4⟩ := k6 p e
        exact ⟨by rw [f1]; exact g1, by rw [f2]; exact g2, by rw [f3]; exact g3, fun j hj => by rw [f4]; exact g4 j hj⟩
  refine ok_call (P := fun s => Fr [507, 810, 50008, 50009, 50011, 80007, 80008, 100001] M s ∧ TFc s N) (ok_call h1 ?_) ?_
  · rintro s1 ⟨F1, a1, b1⟩
    refine ok_call (h2 s1 F1) ?_
    rintro s2 ⟨F2, b2⟩
    refine ok_some ⟨(F1.mono (by decide)).step F2 (by decide), by rw [F2.oI (by decide)]; exact a1, fun p hp => ?_, fun l hl => ?_⟩
    · obtain ⟨c1, c2, c3⟩ := b1 p hp
      rw [F2.oI (by decide), F2.oL (by decide), F2.oR (by decide), F2.oR (by decide), F1.oR (by decide), F1.oR (by decide), F2.n, F1.n]
      refine ⟨c1, c2, (hC.2.1 p hp).2.1, fun q j hj => ?_⟩
      rw [F2.aL (by decide), F2.aL (by decide), F1.aL (k := 809) (by decide)]
      exact c3 q j hj
    · obtain ⟨c1, c2, c3, c4⟩ := b2 l hl
      refine ⟨c1, ?_, c3, fun i hi => ?_⟩
      · rw [c2, F2.oI (by decide), F1.oI (by decide)]
      · rw [c4 i hi, F2.aL (by decide), F1.aL (by decide)]
  · rintro s ⟨F, T⟩
    rw [fX8_beginThreads]
    refine ok_call (ok_call (s_fill (M := s) (k := 905) (i := 0) (n := 4) (v := 0) rfl rfl rfl (by rw [F.n]; exact ln905 hl) (by decide)) (fun a h => ok_some h)) ?_
    rintro s3 ⟨F3, d1, -⟩
    exact ok_some ⟨(F.mono (by decide)).step F3 (by decide), T.fr F3 (by decide), d1⟩
theorem s_b38 {M : tM} {p : Nat} (hl : Len M) (hp : p < 12) : Ok (fX11_begins_l38 (nI p) FU 0 M) (fun M' => Fr [1209] M M' ∧ (∀ j, j < 12 → mL M' 1209 0 (12 * p + j) = mL M 1207 0 (12 * p + j)) ∧ ∀ j, (j < 12 * p ∨ 12 * p + 12 ≤ j) → mL M' 1209 0 j = mL M 1209 0 j) := by
  refine loop0 (fun n i s => fX11_begins_l38 (nI p) n i s) 12 (fun i s => Fr [1209] M s ∧ (∀ j, j < i → mL s 1209 0 (12 * p + j) = mL M 1207 0 (12 * p + j)) ∧ ∀ j, (j < 12 * p ∨ 12 * p + 12 ≤ j) → mL s 1209 0 j = mL M 1209 0 j) _ (by omega) ?_ ?_ _ ⟨Fr.refl, fun j hj => by omega, fun _ _ => rfl⟩
  · intro n s h
    rw [fX11_begins_l38, if_pos (show (12 : Int32) ≤ nI 12 from nI_le (Nat.le_refl 12) (by omega))]
    exact ok_some h
  · intro n i s hi h kk
    rw [fX11_begins_l38, if_neg (show ¬ (12 : Int32) ≤ nI i from nI_ge (b := 12) hi (by decide))]
    simp (disch := omega) only [L32, nI_add, pk_mul, h.1.n, ln1207 hl, ln1209 hl, chk_nI, bnd_eq, nI_clamp]
    refine kk _ ⟨h.1.wL (by decide), fun j hj => ?_, fun j hj => ?_⟩
    · rw [mL_sL, h.1.aL (by decide)]
      split
      · rename_i e; rw [show j = i by omega]
      · exact h.2.1 j (by omega)
    · rw [mL_sL, if_neg (by omega)]
      exact h.2.2 j hj
theorem s_b109 {M : tM} {N : NG} {l : Nat} (hN : NOK N) (hl : Len M) (hG : Gr M N) (hp : l < nL N) : Ok (fX11_begins_l109 (nI l) FU 0 M) (fun M' => Fr [1222] M M' ∧ (∀ j, j < nS N l → mL M' 1222 0 (450 * l + j) = mL M 1218 0 (60 * l + j)) ∧ ∀ j, (j < 450 * l ∨ 450 * l + 450 ≤ j) → mL M' 1222 0 j = mL M 1222 0 j) := by
  have hb := hN.1
  have h60 := (hN.2.2.1 l hp).2.2
  have hs := (hG.2.2.1 l hp).2.2
  refine loop0 (fun n i s => fX11_begins_l109 (nI l) n i s) (nS N l) (fun i s => Fr [1222] M s ∧ (∀ j, j < i → mL s 1222 0 (450 * l + j) = mL M 1218 0 (60 * l + j)) ∧ ∀ j, (j < 450 * l ∨ 450 * l + 450 ≤ j) → mL s 1222 0 j = mL M 1222 0 j) _ (by omega) ?_ ?_ _ ⟨Fr.refl, fun j hj => by omega, fun _ _ => rfl⟩
  · intro n s h
    rw [fX11_begins_l109, h.1.n, ln1217 hl, chk_nI (by omega) (by omega), nI_clamp (by omega), h.1.aI (by decide), hs, if_pos (nI_le (Nat.le_refl _) (by omega))]
    exact ok_some h
  · intro n i s hi h kk
    rw [fX11_begins_l109, h.1.n, ln1217 hl, chk_nI (by omega) (by omega), nI_clamp (by omega), h.1.aI (by decide), hs, if_neg (nI_ge hi (by omega))]
    simp (disch := omega) only [L32, nI_add, pk_mul, h.1.n, ln1218 hl, ln1222 hl, chk_nI, bnd_eq, nI_clamp]
    refine kk _ ⟨h.1.wL (by decide), fun j hj => ?_, fun j hj => ?_⟩
    · rw [mL_sL, h.1.aL (by decide)]
      split
      · rename_i e; rw [show j = i by omega]
      · exact h.2.1 j (by omega)
    · rw [mL_sL, if_neg (by omega)]
      exact h.2.2 j hj
/-- the reference comes to THE FIRST MARKING -/
theorem s_begins {M : tM} {N : NG} (hN : NOK N) (hl : Len M) (hG : Gr M N) :
    Ok (fX11_begins M) (fun M' => Fr [1208, 1209, 1219, 1220, 1221, 1222, 1223, 1230, 120025] M M' ∧ TFm M' N ∧ ∀ t, t < 4 → mI M' 1230 0 t = 0) := by
  have hb := hN.1
  have h1 : Ok (fX11_begins_l2 FU 0 M) (fun s => Fr [1208, 1209, 1219, 1220] M s ∧ ∀ p, p < nP N → mI s 1219 0 p = 0 ∧ mL s 1220 0 p = 0 ∧ mI s 1208 0 p = mI M 1206 0 p ∧ ∀ j, j < 12 → mL s 1209 0 (12 * p + j) = mL M 1207 0 (12 * p + j)) := by
    refine loop0 (fun n i s => fX11_begins_l2 n i s) (nP N) (fun i s => Fr [1208, 1209, 1219, 1220] M s ∧ ∀ p, p < i → mI s 1219 0 p = 0 ∧ mL s 1220 0 p = 0 ∧ mI s 1208 0 p = mI M 1206 0 p ∧ ∀ j, j < 12 → mL s 1209 0 (12 * p + j) = mL M 1207 0 (12 * p + j)) _ (by omega) ?_ ?_ _ ⟨Fr.refl, fun j hj => by omega⟩
    · intro n s h
      rw [fX11_begins_l2, h.1.oI (by decide), hG.1.1, if_pos (nI_le (Nat.le_refl _) (by omega))]
      exact ok_some h
    · intro n i s hi h kk
      obtain ⟨hF, hd⟩ := h
      rw [fX11_begins_l2, hF.oI (by decide), hG.1.1, if_neg (nI_ge hi (by omega))]
      simp (disch := omega) only [mN_sI, mN_sL, hF.n, ln1219 hl, ln1220 hl, ln1206 hl, ln1208 hl, chk_nI, bnd_eq, nI_clamp, mI_sL, mI_sI]
      simp only [Nat.reduceEqDiff, false_and, if_false]
      have F2 : Fr [1208, 1209, 1219, 1220] M (sI (sL (sI s 1219 0 i 0) 1220 0 i 0) 1208 0 i (mI s 1206 0 i)) := ((hF.wI (by decide)).wL (by decide)).wI (by decide)
      generalize hs2 : sI (sL (sI s 1219 0 i 0) 1220 0 i 0) 1208 0 i (mI s 1206 0 i) = s2 at F2 ⊢
      refine ok_call (s_b38 (M := s2) (p := i) (hl.fr F2) (by omega)) ?_
      rintro s3 ⟨F3, e1, e2⟩
      rw [nI_1]
      refine kk _ ⟨F2.step F3 (by decide), fun p hp => ?_⟩
      rw [F3.aI (by decide), F3.aL (k := 1220) (by decide), F3.aI (by decide)]
      by_cases e : p = i
      · subst e
        refine ⟨by rw [← hs2]; simp [mI_sI, mI_sL], by rw [← hs2]; simp [mL_sI, mL_sL], by rw [← hs2]; simp [mI_sI, mI_sL, hF.aI], fun j hj => ?_⟩
        rw [e1 j hj, F2.aL (by decide)]
      · obtain ⟨g1, g2, g3, g4⟩ := hd p (by omega)
        refine ⟨by rw [← hs2]; simp [mI_sI, mI_sL, e, g1], by rw [← hs2]; simp [mL_sI, mL_sL, e, g2], by rw [← hs2]; simp [mI_sI, mI_sL, e, g3], fun j hj => ?_⟩
        rw [e2 _ (by omega), ← hs2]
        simp [mL_sI, mL_sL, g4 j hj]
  have h2 : ∀ s1, Fr [1208, 1209, 1219, 1220] M s1 → Ok (fX11_begins_l80 FU 0 s1) (fun s => Fr [1221, 1222, 1223] s1 s ∧ ∀ l, l < nL N → mI s 1221 0 l = mI M 1217 0 l ∧ mI s 1223 0 l = 0 ∧ ∀ i, i < nS N l → mL s 1222 0 (450 * l + i) = mL M 1218 0 (60 * l + i)) := by
    intro s1 F1
    refine loop0 (fun n i s => fX11_begins_l80 n i s) (nL N) (fun i s => Fr [1221, 1222, 1223] s1 s ∧ ∀ l, l < i → mI s 1221 0 l = mI M 1217 0 l ∧ mI s 1223 0 l = 0 ∧ ∀ i, i < nS N l → mL s 1222 0 (450 * l + i) = mL M 1218 0 (60 * l + i)) _ (by omega) ?_ ?_ _ ⟨Fr.refl, fun j hj => by omega⟩
    · intro n s h
      rw [fX11_begins_l80, h.1.oI (by decide), F1.oI (by decide), hG.1.2, if_pos (nI_le (Nat.le_refl _) (by omega))]
      exact ok_some h
    · intro n i s hi h kk
      obtain ⟨hF, hd⟩ := h
      have h60 := (hN.2.2.1 i hi).2.2
      rw [fX11_begins_l80, hF.oI (by decide), F1.oI (by decide), hG.1.2, if_neg (nI_ge hi (by omega))]
      simp (disch := omega) only [mN_sI, hF.n, F1.n, ln1217 hl, ln1221 hl, ln1223 hl, chk_nI, bnd_eq, nI_clamp]
      have F2 : Fr [1221, 1222, 1223] s1 (sI (sI s 1221 0 i (mI s 1217 0 i)) 1223 0 i 0) := (hF.wI (by decide)).wI (by decide)
      generalize hs2 : sI (sI s 1221 0 i (mI s 1217 0 i)) 1223 0 i 0 = s2 at F2 ⊢
      have F12 : Fr [1208, 1209, 1219, 1220, 1221, 1222, 1223] M s2 := (F1.mono (by decide)).step F2 (by decide)
      refine ok_call (s_b109 (M := s2) (l := i) hN (hl.fr F12) (hG.fr F12 (by decide)) hi) ?_
      rintro s3 ⟨F3, e1, e2⟩
      rw [nI_1]
      refine kk _ ⟨F2.step F3 (by decide), fun p hp => ?_⟩
      rw [F3.aI (by decide), F3.aI (by decide)]
      by_cases e : p = i
      · subst e
        refine ⟨by rw [← hs2]; simp [mI_sI, hF.aI, F1.aI], by rw [← hs2]; simp [mI_sI], fun j hj => ?_⟩
        rw [e1 j hj, F12.aL (by decide)]
      · obtain ⟨g1, g2, g4⟩ := hd p (by omega)
        have h60' := (hN.2.2.1 p (by omega)).2.2
        refine ⟨by rw [← hs2]; simp [mI_sI, e, g1], by rw [← hs2]; simp [mI_sI, e, g2], fun j hj => ?_⟩
        rw [e2 _ (by omega), ← hs2]
        simp [mL_sI, g4 j hj]
  rw [fX11_begins]
  refine ok_call h1 ?_
  rintro s1 ⟨F1, b1⟩
  refine ok_call (h2 s1 F1) ?_
  rintro s2 ⟨F2, b2⟩
  rw [bnd_eq]
  have F12 : Fr [1208, 1209, 1219, 1220, 1221, 1222, 1223, 120025] M (sI s2 11 0 25 0) := ((F1.mono (by decide)).step F2 (by decide)).wIo (by decide)
  refine ok_call (sX11_threadsBegin (hl.fr F12)) ?_
  rintro s3 ⟨d1, F3⟩
  refine ok_some ⟨(F12.mono (by decide)).step F3 (by decide), TFm.fr (M := sI s2 11 0 25 0) ⟨by simp [mI_sI], fun p hp => ?_, fun l hl => ?_⟩ F3 (by decide), d1⟩
  · obtain ⟨c1, c2, c3, c4⟩ := b1 p hp
    simp only [mI_sI, mL_sI, Nat.reduceEqDiff, false_and, if_false]
    rw [F2.aI (by decide), F2.aL (k := 1220) (by decide), F2.aI (by decide), F2.aI (by decide), F1.aI (k := 1206) (by decide)]
    refine ⟨c1, c2, c3, fun j hj => ?_⟩
    rw [F2.aL (by decide), F2.aL (by decide), F1.aL (k := 1207) (by decide)]
    exact c4 j hj
  · obtain ⟨c1, c2, c3⟩ := b2 l hl
    simp only [mI_sI, mL_sI, Nat.reduceEqDiff, false_and, if_false]
    rw [F2.aI (k := 1217) (by decide), F1.aI (k := 1217) (by decide)]
    refine ⟨c1, c2, fun j hj => ?_⟩
    rw [F2.aL (k := 1218) (by decide), F1.aL (k := 1218) (by decide)]
    exact c3 j hj
