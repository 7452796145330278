/-! fire: the work -/
def rsCvX : List Nat := [11, 1206, 1208, 1209, 1219, 1220, 1221, 1222, 1223, 1224, 120025]
theorem Cv.frX {ks : List Nat} {M X X2 : tM} {N : NG} (h : Cv M X N) (hF : Fr ks X X2) (hd : disj ks rsCvX = true) : Cv M X2 N := by
  simp only [Cv, Cvp, Cvl] at h ⊢
  simp only [hF.gI hd 1219 (by decide), hF.gI hd 1208 (by decide), hF.gI hd 1206 (by decide), hF.gI hd 1221 (by decide), hF.gI hd 1223 (by decide), hF.hI hd 11 25 (by decide), hF.gL hd 1220 (by decide), hF.gL hd 1209 (by decide), hF.gL hd 1222 (by decide), hF.gL hd 1224 (by decide)]
  exact h
def TrC (M : tM) (ts : List Int32) : Prop := mI M 9 0 6 = nI ts.length ∧ ∀ j, j < ts.length → mI M 1005 0 j = ts.getD j 0
def TrX (X : tM) (ts : List Int32) : Prop := mI X 11 0 28 = nI ts.length ∧ ∀ j, j < ts.length → mI X 1227 0 j = ts.getD j 0
theorem getD_snoc {ts : List Int32} {v : Int32} {j : Nat} (h : j < ts.length + 1) : (ts ++ [v]).getD j 0 = if j = ts.length then v else ts.getD j 0 := by
  by_cases e : j = ts.length
  · subst e; simp [List.getD]
  · rw [if_neg e]
    have : j < ts.length := by omega
    simp [List.getD, List.getElem?_append_left this]
theorem s_wt {M : tM} {ts : List Int32} {v : Int32} (hl : Len M) (h : TrC M ts) (h3 : ts.length < 3) : Ok (fX9_writeTrace v M) (fun M' => Fr [1005, 100006] M M' ∧ TrC M' (ts ++ [v])) := by
  rw [fX9_writeTrace, h.1, if_neg (show ¬ (3 : Int32) ≤ nI ts.length from nI_ge (b := 3) h3 (by decide)), ln1005 hl, chk_nI (by omega) (by omega), bnd_eq, bnd_eq, nI_clamp (by omega), mI_sI, if_neg (by simp), h.1, nI_1]
  refine ok_some ⟨(Fr.refl.wI (by decide)).wIo (by decide), ?_, fun j hj => ?_⟩
  · rw [mI_sI, if_pos ⟨rfl, rfl, rfl⟩, List.length_append]; rfl
  · rw [List.length_append] at hj
    rw [mI_sI, if_neg (by simp), mI_sI, getD_snoc hj]
    by_cases e : j = ts.length
    · rw [if_pos ⟨rfl, rfl, e⟩, if_pos e]
    · rw [if_neg (fun q => e q.2.2), if_neg e]
      exact h.2 j (by have : j < ts.length + 1 := hj; omega)
theorem s_bd {M : tM} {ts : List Int32} {v : Int32} (hl : Len M) (h : TrX M ts) (h3 : ts.length < 3) : Ok (fX11_body v M) (fun M' => Fr [1227, 120028] M M' ∧ TrX M' (ts ++ [v])) := by
  rw [fX11_body, h.1, ln1227 hl, chk_nI (by omega) (by omega), bnd_eq, bnd_eq, nI_clamp (by omega), mI_sI, if_neg (by simp), h.1, nI_1]
  refine ok_some ⟨(Fr.refl.wI (by decide)).wIo (by decide), ?_, fun j hj => ?_⟩
  · rw [mI_sI, if_pos ⟨rfl, rfl, rfl⟩, List.length_append]; rfl
  · rw [List.length_append] at hj
    rw [mI_sI, if_neg (by simp), mI_sI, getD_snoc hj]
    by_cases e : j = ts.length
    · rw [if_pos ⟨rfl, rfl, e⟩, if_pos e]
    · rw [if_neg (fun q => e q.2.2), if_neg e]
      exact h.2 j (by have : j < ts.length + 1 := hj; omega)
theorem TrC.fr {ks : List Nat} {M M2 : tM} {ts : List Int32} (h : TrC M ts) (hF : Fr ks M M2) (hd : disj ks [9, 1005, 100006] = true) : TrC M2 ts := by
  simp only [TrC] at h ⊢
  simp only [hF.hI hd 9 6 (by decide), hF.gI hd 1005 (by decide)]
  exact h
theorem TrX.fr {ks : List Nat} {M M2 : tM} {ts : List Int32} (h : TrX M ts) (hF : Fr ks M M2) (hd : disj ks [11, 1227, 120028] = true) : TrX M2 ts := by
  simp only [TrX] at h ⊢
  simp only [hF.hI hd 11 28 (by decide), hF.gI hd 1227 (by decide)]
  exact h
theorem c_fixed {M : tM} {p : Nat} {ts : List Int32} (hl : Len M) (h : TrC M ts) (h3 : ts.length < 3) : Ok (fX9_fixedBody (some p) M) (fun w => w.1 = mL M 9 0 4 + mL M 7 p 2 ∧ Fr [1005, 100006] M w.2 ∧ TrC w.2 (ts ++ [1])) := by
  rw [fX9_fixedBody]
  refine ok_call (s_wt hl h h3) ?_
  rintro M2 ⟨F, T⟩
  rw [Option.bind_some, F.oL (by decide), F.oL (by decide)]
  exact ok_some ⟨rfl, F, T⟩
theorem c_scaled {M : tM} {p : Nat} {ts : List Int32} (hl : Len M) (h : TrC M ts) (h3 : ts.length < 2) : Ok (fX9_scaledBody (some p) M) (fun w => w.1 = mL M 7 p 2 * (mL M 9 0 4 + mL M 7 p 2) ∧ Fr [1005, 100006] M w.2 ∧ TrC w.2 (ts ++ [2] ++ [1])) := by
  rw [fX9_scaledBody]
  refine ok_call (s_wt hl h (by omega)) ?_
  rintro M2 ⟨F, T⟩
  rw [Option.bind_some]
  refine ok_call (c_fixed (p := p) (hl.fr F) T (by rw [List.length_append]; show ts.length + 1 < 3; omega)) ?_
  rintro ⟨v, M3⟩ ⟨e, F2, T2⟩
  have e : v = mL M2 9 0 4 + mL M2 7 p 2 := e
  subst e
  refine ok_some ⟨?_, F.step F2 (by decide), T2⟩
  show mL M2 7 p 2 * (mL M2 9 0 4 + mL M2 7 p 2) = _
  rw [F.oL (by decide), F.oL (by decide)]
def wS (X : tM) (N : NG) (p : Nat) : Int64 := totS (nT N) p (fun l => nK N l (mI X 1219 0 p).toNatClampNeg) (fun l i => mL X 1222 0 (450 * l + i)) (nL N) + mL X 1204 0 p
theorem m_fixed {M X : tM} {N : NG} (hN : NOK N) (hG : Gr X N) (hV : Cv M X N) {p : Nat} (hp : p < nP N) {ts : List Int32} (hl : Len X) (h : TrX X ts) (h3 : ts.length < 3) : Ok (fX11_fixed (nI p) X) (fun w => w.1 = wS X N p ∧ Fr [1227, 120028] X w.2 ∧ TrX w.2 (ts ++ [1])) := by
  rw [fX11_fixed]
  refine ok_call (s_bd hl h h3) ?_
  rintro M2 ⟨F, T⟩
  rw [mSum hN (hl.fr F) (hG.fr F (by decide)) (hV.frX F (by decide)) hp, Option.bind_some]
  refine ok_some ⟨?_, F, T⟩
  simp only [F.aL (k := 1204) (by decide), F.aL (k := 1222) (by decide), F.aI (k := 1219) (by decide), wS]
  exact Int64.add_comm _ _
theorem m_scaled {M X : tM} {N : NG} (hN : NOK N) (hG : Gr X N) (hV : Cv M X N) {p : Nat} (hp : p < nP N) {ts : List Int32} (hl : Len X) (h : TrX X ts) (h3 : ts.length < 2) : Ok (fX11_scaled (nI p) X) (fun w => w.1 = mL X 1204 0 p * wS X N p ∧ Fr [1227, 120028] X w.2 ∧ TrX w.2 (ts ++ [2] ++ [1])) := by
  have hb := hN.1
  rw [fX11_scaled]
  refine ok_call (s_bd hl h (by omega)) ?_
  rintro M2 ⟨F, T⟩
  rw [F.n, ln1204 hl, chk_nI (by omega) (by omega)]
  refine ok_call (m_fixed hN (hG.fr F (by decide)) (hV.frX F (by decide)) hp (hl.fr F) T (by rw [List.length_append]; show ts.length + 1 < 3; omega)) ?_
  rintro ⟨v, M3⟩ ⟨e, F2, T2⟩
  have e : v = wS M2 N p := e
  subst e
  refine ok_some ⟨?_, F.step F2 (by decide), T2⟩
  show mL M2 1204 0 (nI p).toNatClampNeg * wS M2 N p = _
  simp only [nI_clamp (show p < 2 ^ 31 by omega), wS, F.aL (k := 1204) (by decide), F.aL (k := 1222) (by decide), F.aI (k := 1219) (by decide)]
