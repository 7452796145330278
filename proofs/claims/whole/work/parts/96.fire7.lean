/-! fire: the attempt, both sides -/
theorem c_move {M : tM} {N : NG} {p a : Nat} {o g : Nat → Nat} {v w : Nat → Nat → Int64} (z : Int64) (hN : NOK N) (hC : Cg M M N) (hp : p < nP N) (ha : a < nH N p) (ha4 : a < 4) (h7 : mI M 7 p 7 = nI a) (hL : ∀ l, l < nL N → LC M l (o l) (v l) ∧ GC M l (g l) (w l)) (hk : ∀ l, l < nL N → nT N l = p → nK N l a ≤ o l) (hr : ∀ l, l < nL N → nF N l = p → xO N p (fun l => nK N l a) o l + nG N l a ≤ 400) :
    Ok (fX9_move (some p) z M) (fun M' => Fr [507, 510, 50008, 50009, 50011, 80007] M M' ∧ (∀ l, l < nL N → LC M' l (yO N p (fun l => nG N l a) (xO N p (fun l => nK N l a) o) l) (yV N p z (xO N p (fun l => nK N l a) o) (xV N p (fun l => nK N l a) v) l) ∧ GC M' l (yO N p (fun l => nG N l a) g l) (yV N p z g w l)) ∧ mI M' 7 p 7 = nI ((a + 1) % nH N p) ∧ ∀ q, ¬ q = p → mI M' 7 q 7 = mI M 7 q 7) := by
  rw [fX9_move, Option.bind_some, bnd_eq, (hC.2.1 p hp).1.2.2.2.2.2.1]
  refine ok_call (c_in z hN hC ha h7 (fun l hl => (hL l hl).1) hk) ?_
  rintro s ⟨F, L1⟩
  have hCs := hC.fr F (by decide)
  rw [bnd_eq, (hCs.2.1 p hp).1.2.2.2.2.2.2.2.1]
  refine ok_call (c_out z hN hCs ha ha4 ((F.oI (by decide)).trans h7) (fun l hl => ⟨L1 l hl, (hL l hl).2.same (F.oI (by decide)) (fun j => F.aL (by decide))⟩) hr) ?_
  rintro s2 ⟨F2, L2⟩
  have F3 : Fr [507, 510, 50008, 50009, 50011] M s2 := (F.mono (by decide)).step F2 (by decide)
  have e7 : mI s2 7 p 7 = nI a := (F3.oI (by decide)).trans h7
  have e3 : mI s2 7 p 3 = nI (nH N p) := (F3.oI (by decide)).trans (hC.2.1 p hp).1.2.2.2.2.1
  have hh := (hN.2.1 p hp).2.2.1
  have eph : fX7_phaseBehind p (nI a) s2 = some (nI ((a + 1) % nH N p)) := by
    rw [fX7_phaseBehind, e3, nI_1]
    by_cases c : nH N p ≤ a + 1
    · rw [if_pos (nI_le c (by omega)), show a + 1 = nH N p by omega, Nat.mod_self]; rfl
    · rw [if_neg (nI_ge (by omega) (by omega)), Nat.mod_eq_of_lt (by omega)]
  rw [e7, eph, Option.bind_some, bnd_eq]
  have F4 : Fr [80007] s2 (sI s2 7 p 7 (nI ((a + 1) % nH N p))) := Fr.refl.wIo (by decide)
  refine ok_some ⟨(F3.mono (by decide)).step F4 (by decide), fun l hl => ⟨(L2 l hl).1.same (F4.oI (by decide)) (F4.oI (by decide)) (fun j => F4.aL (by decide)), (L2 l hl).2.same (F4.oI (by decide)) (fun j => F4.aL (by decide))⟩, by rw [mI_sI, if_pos ⟨rfl, rfl, rfl⟩], fun q hq => ?_⟩
  rw [mI_sI, if_neg (fun y => hq y.2.1), F3.oI (by decide)]
theorem m_moves {X : tM} {N : NG} {p a f : Nat} {o g : Nat → Nat} {v w : Nat → Nat → Int64} (z : Int64) (hN : NOK N) (hl : Len X) (hG : Gr X N) (hp : p < nP N) (ha : a < nH N p) (ha4 : a < 4) (a1 : mI X 1219 0 p = nI a) (hL : ∀ l, l < nL N → LX X l (o l) (v l) ∧ GX X l (g l) (w l)) (ho : ∀ l, l < nL N → o l ≤ 400 ∧ g l < 1000000) (hk : ∀ l, l < nL N → nT N l = p → nK N l a ≤ o l) (hr : ∀ l, l < nL N → nF N l = p → xO N p (fun l => nK N l a) o l + nG N l a ≤ 400) (hf : mI X 11 0 25 = nI f) :
    Ok (fX11_moves (nI p) z X) (fun X' => Fr [1219, 1221, 1222, 1223, 1224, 120025] X X' ∧ (∀ l, l < nL N → LX X' l (yO N p (fun l => nG N l a) (xO N p (fun l => nK N l a) o) l) (yV N p z (xO N p (fun l => nK N l a) o) (xV N p (fun l => nK N l a) v) l) ∧ GX X' l (yO N p (fun l => nG N l a) g l) (yV N p z g w l)) ∧ mI X' 1219 0 p = nI ((a + 1) % nH N p) ∧ (∀ q, ¬ q = p → mI X' 1219 0 q = mI X 1219 0 q) ∧ mI X' 11 0 25 = nI (f + 1)) := by
  have hb := hN.1
  rw [fX11_moves]
  refine ok_call (m_in z hN hl hG hp ha4 a1 (fun l hl => (hL l hl).1) (fun l hl => (ho l hl).1) hk) ?_
  rintro s ⟨F, L1⟩
  refine ok_call (m_out (g := g) (w := w) z hN (hl.fr F) (hG.fr F (by decide)) hp ha4 ((F.aI (by decide)).trans a1) (fun l hl => ⟨L1 l hl, (F.aI (by decide)).trans (hL l hl).2.1, fun j hj => (F.aL (by decide)).trans ((hL l hl).2.2 j hj)⟩) (fun l hl => ⟨?_, (ho l hl).2⟩) hr) ?_
  · have := (ho l hl).1
    rw [xO]; split <;> omega
  rintro s2 ⟨F2, L2⟩
  have F3 : Fr [1221, 1222, 1223, 1224] X s2 := (F.mono (by decide)).step F2 (by decide)
  have hh := (hN.2.1 p hp).2
  have e5 : mI s2 1205 0 p = nI (nH N p) := (F3.aI (by decide)).trans (hG.2.1 p hp).2
  have e9 : mI s2 1219 0 p = nI a := (F3.aI (by decide)).trans a1
  have nz : nz4 (nI (nH N p)) = true := decide_eq_true (fun q => by have := (nI_eq (b := 0) (by omega) (by decide)).mp q; omega)
  have er : nI (a + 1) - nI (a + 1) / nI (nH N p) * nI (nH N p) = nI ((a + 1) % nH N p) := pk_rem (by omega) (by omega) (by omega)
  rw [F3.n, ln1219 hl, chk_nI (by omega) (by omega), F3.n, ln1205 hl, chk_nI (by omega) (by omega), nI_clamp (by omega), e5, chk_tr nz, chk_nI (by omega) (by omega), e9, nI_1, er, bnd_eq, bnd_eq, mI_sI, if_neg (by simp), F3.oI (by decide), hf, nI_1]
  have F4 : Fr [1219, 120025] s2 (sI (sI s2 1219 0 p (nI ((a + 1) % nH N p))) 11 0 25 (nI (f + 1))) := (Fr.refl.wI (by decide)).wIo (by decide)
  refine ok_some ⟨(F3.mono (by decide)).step F4 (by decide), fun l hl => ⟨⟨(F4.aI (by decide)).trans (L2 l hl).1.1, fun j hj => (F4.aL (by decide)).trans ((L2 l hl).1.2 j hj)⟩, ⟨(F4.aI (by decide)).trans (L2 l hl).2.1, fun j hj => (F4.aL (by decide)).trans ((L2 l hl).2.2 j hj)⟩⟩, ?_, fun q hq => ?_, ?_⟩
  · rw [mI_sI, if_neg (by simp), mI_sI, if_pos ⟨rfl, rfl, rfl⟩]
  · rw [mI_sI, if_neg (by simp), mI_sI, if_neg (fun y => hq y.2.2), F3.aI (by decide)]
  · rw [mI_sI, if_pos ⟨rfl, rfl, rfl⟩]
def oF (M : tM) (l : Nat) : Nat := (mI M 1221 0 l).toNatClampNeg
def gF (M : tM) (l : Nat) : Nat := (mI M 1223 0 l).toNatClampNeg
def vF (M : tM) (l i : Nat) : Int64 := mL M 1222 0 (450 * l + i)
def wF (M : tM) (l i : Nat) : Int64 := mL M 1224 0 (200 * l + i)
theorem Cv.lc {M X : tM} {N : NG} (h : Cv M X N) {f : Nat} (h25 : mI X 11 0 25 = nI f) (hf5 : f ≤ 5000) {l : Nat} (hl : l < nL N) : (LC M l (oF X l) (vF X l) ∧ GC M l (gF X l) (wF X l)) ∧ (LX X l (oF X l) (vF X l) ∧ GX X l (gF X l) (wF X l)) ∧ oF X l ≤ 400 ∧ gF X l ≤ 50 * f := by
  obtain ⟨f', hf', e25, -, -, h⟩ := h
  have ef : f' = f := (nI_eq (by omega) (by omega)).mp (e25.symm.trans h25)
  subst ef
  obtain ⟨o, h, g, ho, hh, hg, e1, e2, e3, e4, e5, e6, e7⟩ := h l hl
  have eo : oF X l = o := by rw [oF, e1, nI_clamp (by omega)]
  have eg : gF X l = g := by rw [gF, e5, nI_clamp (by omega)]
  rw [eo, eg]
  exact ⟨⟨⟨h, hh, ho, e2, e3, e4⟩, ⟨e6, e7⟩⟩, ⟨⟨e1, fun _ _ => rfl⟩, ⟨e5, fun _ _ => rfl⟩⟩, ho, hg⟩
def WS (M M2 X : tM) (p : Nat) (u : tU) : Prop := mL M2 7 p 8 = u.2.2.2.1 ∧ (∀ q, ¬ q = p → mL M2 7 q 8 = mL M 7 q 8) ∧ (∀ r, mI X 1206 0 p = nI r → r ≤ 12 → ∀ j, j < r → mL M2 810 p j = u.2.2.2.2 j) ∧ ∀ q, ¬ q = p → ∀ j, mL M2 810 q j = mL M 810 q j
def XS (X X2 : tM) (p : Nat) (u : tU) : Prop := mL X2 1220 0 p = u.2.2.2.1 ∧ (∀ q, ¬ q = p → mL X2 1220 0 q = mL X 1220 0 q) ∧ (∀ r, mI X 1206 0 p = nI r → r ≤ 12 → ∀ j, j < r → mL X2 1209 0 (12 * p + j) = u.2.2.2.2 j) ∧ ∀ j, (j < 12 * p ∨ 12 * p + 12 ≤ j) → mL X2 1209 0 j = mL X 1209 0 j
theorem WS.fr {ks : List Nat} {M M2 M3 X : tM} {p : Nat} {u : tU} (h : WS M M2 X p u) (hF : Fr ks M2 M3) (hd : disj ks [7, 810, 80008] = true) : WS M M3 X p u := by
  simp only [WS] at h ⊢
  simp only [hF.hL hd 7 8 (by decide), hF.gL hd 810 (by decide)]
  exact h
theorem XS.fr {ks : List Nat} {M M2 M3 : tM} {p : Nat} {u : tU} (h : XS M M2 p u) (hF : Fr ks M2 M3) (hd : disj ks [1209, 1220] = true) : XS M M3 p u := by
  simp only [XS] at h ⊢
  simp only [hF.gL hd 1209 (by decide), hF.gL hd 1220 (by decide)]
  exact h
theorem WS.frB {ks : List Nat} {M M0 M2 X X0 : tM} {p : Nat} {u : tU} (h : WS M M2 X p u) (hF : Fr ks M0 M) (hX : Fr ks X0 X) (hd : disj ks [7, 810, 1206, 80008] = true) : WS M0 M2 X0 p u := by
  simp only [WS] at h ⊢
  simp only [hF.hL hd 7 8 (by decide), hF.gL hd 810 (by decide), hX.gI hd 1206 (by decide)] at h
  exact h
theorem XS.frB {ks : List Nat} {M M0 M2 : tM} {p : Nat} {u : tU} (h : XS M M2 p u) (hF : Fr ks M0 M) (hd : disj ks [1206, 1209, 1220] = true) : XS M0 M2 p u := by
  simp only [XS] at h ⊢
  simp only [hF.gL hd 1209 (by decide), hF.gL hd 1220 (by decide), hF.gI hd 1206 (by decide)] at h
  exact h
def frF : List Nat := [507, 510, 810, 905, 1005, 1110, 1201, 1209, 1219, 1220, 1221, 1222, 1223, 1224, 1227, 50008, 50009, 50011, 80007, 80008, 100001, 100002, 100003, 100004, 100006, 110009, 120000, 120025, 120026, 120028, 120076]
theorem Cv_step {M M2 : tM} {N : NG} {p f' : Nat} {u : tU} (hV : Cv M M N) (hf' : f' ≤ 5000) (h25 : mI M2 11 0 25 = nI f') (h91 : mI M2 9 0 1 = nI f') (FF : Fr frF M M2) (cs : WS M M2 M p u) (xs : XS M M2 p u)
    (ph : ∀ q, q < nP N → ∃ h, h < nH N q ∧ mI M2 1219 0 q = nI h ∧ mI M2 7 q 7 = nI h)
    (ls : ∀ l, l < nL N → ∃ o v g w, o ≤ 400 ∧ g ≤ 50 * f' ∧ (LC M2 l o v ∧ GC M2 l g w) ∧ (LX M2 l o v ∧ GX M2 l g w)) : Cv M2 M2 N := by
  obtain ⟨f, -, -, -, hp, -⟩ := hV
  refine ⟨f', hf', h25, h91, fun q hq => ?_, fun l hl => ?_⟩
  · obtain ⟨h, hh, e1, e2⟩ := ph q hq
    obtain ⟨-, p2, -, p4, p5, p6⟩ := hp q hq
    refine ⟨⟨h, hh, e1⟩, by rw [FF.aI (by decide), FF.aI (by decide)]; exact p2, by rw [e2, e1], ?_, by rw [FF.oR (by decide), FF.oR (by decide)]; exact p5, fun r hr h12 j hj => ?_⟩
    · by_cases c : q = p
      · subst c; rw [cs.1, xs.1]
      · rw [cs.2.1 q c, xs.2.1 q c]; exact p4
    · rw [FF.aI (by decide)] at hr
      by_cases c : q = p
      · subst c; rw [cs.2.2.1 r hr h12 j hj, xs.2.2.1 r hr h12 j hj]
      · rw [cs.2.2.2 q c, xs.2.2.2 _ (by omega)]; exact p6 r hr h12 j hj
  · obtain ⟨o, v, g, w, ho, hg, ⟨⟨h, hh, -, c1, c2, c3⟩, c4, c5⟩, ⟨x1, x2⟩, x3, x4⟩ := ls l hl
    exact ⟨o, h, g, ho, hh, hg, x1, c1, c2, fun i hi => (c3 i hi).trans (x2 i hi).symm, x3, c4, fun i hi => (c5 i hi).trans (x4 i hi).symm⟩
theorem Cr_tr {M : tM} {ts : List Int32} (h3 : ts.length ≤ 3) (c : TrC M ts) (x : TrX M ts) : Cr M M :=
  ⟨ts.length, h3, x.1, c.1, fun j hj => (c.2 j hj).trans (x.2 j hj).symm⟩
theorem wk_cases {X : tM} {N : NG} {p : Nat} : ∃ f v ts s r, wk X N p = (f, v, ts, s, r) ∧ (f = 0 ∨ ∃ c, (c = 1 ∨ c = 4) ∧ f = nI c) ∧ ts.length ≤ 3 := by
  by_cases d0 : nD N p = 0
  · exact ⟨_, _, _, _, _, wk0 d0, Or.inl rfl, by decide⟩
  by_cases d1 : nD N p = 1
  · exact ⟨_, _, _, _, _, wk1 d1, Or.inl rfl, by decide⟩
  by_cases d2 : nD N p = 2
  · exact ⟨_, _, _, _, _, wk2 d2, Or.inl rfl, by decide⟩
  by_cases d3 : nD N p = 3
  · by_cases z : lg_cmp (wD X N p) 0 = 0
    · exact ⟨_, _, _, _, _, wk3z d3 z, Or.inr ⟨4, Or.inr rfl, rfl⟩, by decide⟩
    · exact ⟨_, _, _, _, _, wk3 d3 z, Or.inl rfl, by decide⟩
  by_cases d4 : nD N p = 4
  · exact ⟨_, _, _, _, _, wk4 d4, Or.inl rfl, by decide⟩
  by_cases r : mI X 1206 0 p = (-9)
  · exact ⟨_, _, _, _, _, (if_neg d0).trans ((if_neg d1).trans ((if_neg d2).trans ((if_neg d3).trans ((if_neg d4).trans (if_pos r))))), Or.inr ⟨1, Or.inl rfl, rfl⟩, by decide⟩
  by_cases r0 : mI X 1206 0 p = 0
  · exact ⟨_, _, _, _, _, (if_neg d0).trans ((if_neg d1).trans ((if_neg d2).trans ((if_neg d3).trans ((if_neg d4).trans ((if_neg r).trans (if_pos r0)))))), Or.inl rfl, by decide⟩
  · exact ⟨_, _, _, _, _, (if_neg d0).trans ((if_neg d1).trans ((if_neg d2).trans ((if_neg d3).trans ((if_neg d4).trans ((if_neg r).trans (if_neg r0)))))), Or.inl rfl, by decide⟩
theorem wk_len {X : tM} {N : NG} {p : Nat} : (wk X N p).2.2.1.length ≤ 3 := by
  obtain ⟨f, v, ts, s, r, e, -, h⟩ := wk_cases (X := X) (N := N) (p := p)
  rw [e]; exact h
theorem wk_code {X : tM} {N : NG} {p : Nat} : (wk X N p).1 = 0 ∨ ∃ c, (c = 1 ∨ c = 4) ∧ (wk X N p).1 = nI c := by
  obtain ⟨f, v, ts, s, r, e, h, -⟩ := wk_cases (X := X) (N := N) (p := p)
  rw [e]; exact h
def rsWk : List Nat := [1204, 1206, 1209, 1219, 1220, 1221, 1222]
theorem wk_fr {ks : List Nat} {X X2 : tM} {N : NG} {p : Nat} (hF : Fr ks X X2) (hd : disj ks rsWk = true) : wk X2 N p = wk X N p := by
  have hD : ∀ o, wDf X2 o = wDf X o := fun o => by
    cases o with
    | none => rfl
    | some l => exact hF.gL hd 1222 (by decide) _ _
  simp only [wk, wS, wD, hD, hF.gL hd 1204 (by decide), hF.gI hd 1206 (by decide), hF.gL hd 1209 (by decide), hF.gI hd 1219 (by decide), hF.gL hd 1220 (by decide), hF.gL hd 1222 (by decide)]
  rfl
theorem rdy_fr {ks : List Nat} {X X2 : tM} {N : NG} {p : Nat} (hF : Fr ks X X2) (hd : disj ks rsWk = true) : rdy X2 N p ↔ rdy X N p := by
  simp only [rdy, hF.gI hd 1219 (by decide), hF.gI hd 1221 (by decide)]
theorem rm_fr {ks : List Nat} {X X2 : tM} {N : NG} {p : Nat} (hF : Fr ks X X2) (hd : disj ks rsWk = true) : rm X2 N p ↔ rm X N p := by
  simp only [rm, hF.gI hd 1219 (by decide), hF.gI hd 1221 (by decide)]
theorem rm_x {X : tM} {N : NG} {p a : Nat} (h : rm X N p) (a3 : (mI X 1219 0 p).toNatClampNeg = a) : ∀ l, l < nL N → nF N l = p → xO N p (fun l => nK N l a) (oF X) l + nG N l a ≤ 400 := by
  intro l hl he
  have := h l hl he
  rw [a3] at this
  rw [xO, oF]
  split
  · rw [if_pos (by assumption)] at this; exact this
  · rw [if_neg (by assumption)] at this; exact this
theorem rdy_x {X : tM} {N : NG} {p a : Nat} (h : rdy X N p) (a3 : (mI X 1219 0 p).toNatClampNeg = a) : ∀ l, l < nL N → nT N l = p → nK N l a ≤ oF X l := by
  intro l hl he
  have := h l hl he
  rw [a3] at this
  exact this
def kC0 : List Nat := [810, 1005, 80008, 100003, 100004, 100006]
def kC1 : List Nat := [507, 510, 810, 1005, 50008, 50009, 50011, 80007, 80008, 100001, 100002, 100003, 100004, 100006]
def LG (N : NG) (p a : Nat) (z : Int64) (X : tM) (P : Nat → Nat → (Nat → Int64) → Prop) (Q : Nat → Nat → (Nat → Int64) → Prop) : Prop := ∀ l, l < nL N → P l (yO N p (fun l => nG N l a) (xO N p (fun l => nK N l a) (oF X)) l) (yV N p z (xO N p (fun l => nK N l a) (oF X)) (xV N p (fun l => nK N l a) (vF X)) l) ∧ Q l (yO N p (fun l => nG N l a) (gF X) l) (yV N p z (gF X) (wF X) l)
theorem cAtt {M : tM} {N : NG} {p f : Nat} (hN : NOK N) (hl : Len M) (hC : Cg M M N) (hV : Cv M M N) (hp : p < nP N) (hf : mI M 9 0 1 = nI f) (h25 : mI M 11 0 25 = nI f) (hf5 : f ≤ 5000) :
    Ok (fX9_attempt (some p) M) (fun w => (w = ((-4), M) ∧ (f = 5000 ∨ (f < 5000 ∧ rdy M N p ∧ ¬ rm M N p))) ∨ (w = (0, M) ∧ f < 5000 ∧ ¬ rdy M N p) ∨
      (w.1 = (-3) ∧ f < 5000 ∧ rdy M N p ∧ rm M N p ∧ ¬ (wk M N p).1 = 0 ∧ Fr kC0 M w.2 ∧ mI w.2 9 0 3 = (wk M N p).1 ∧ TrC w.2 (wk M N p).2.2.1 ∧ WS M w.2 M p (wk M N p)) ∨
      (w.1 = 1 ∧ f < 5000 ∧ rdy M N p ∧ rm M N p ∧ (wk M N p).1 = 0 ∧ Fr kC1 M w.2 ∧ TrC w.2 (wk M N p).2.2.1 ∧ WS M w.2 M p (wk M N p) ∧ mI w.2 9 0 1 = nI (f + 1) ∧ mL w.2 9 0 2 = (wk M N p).2.1 ∧ LG N p (mI M 1219 0 p).toNatClampNeg (wk M N p).2.1 M (LC w.2) (GC w.2) ∧ mI w.2 7 p 7 = nI (((mI M 1219 0 p).toNatClampNeg + 1) % nH N p) ∧ ∀ q, ¬ q = p → mI w.2 7 q 7 = mI M 7 q 7)) := by
  have hb := hN.1
  by_cases q5 : f = 5000
  · subst q5
    rw [fX9_attempt, hf, if_neg (show ¬ nI 5000 < (5000 : Int32) from by decide)]
    exact ok_some (Or.inl ⟨rfl, Or.inl rfl⟩)
  have f5 : f < 5000 := by omega
  have e0 : mI M 9 0 1 < 5000 := by rw [hf]; exact nI_lt (b := 5000) f5 (by decide)
  rcases cReady hN hC hV hp with ⟨e1, r1⟩ | ⟨e1, r1⟩
  · rcases cRoom hN hC hV hp r1 with ⟨e2, r2⟩ | ⟨e2, r2⟩
    · rw [fX9_attempt, if_pos e0, e1, Option.bind_some, if_neg (by decide), e2, Option.bind_some, if_pos rfl, bnd_eq, bnd_eq]
      generalize hM9 : sI (sI M 9 0 6 0) 9 0 3 0 = M9
      have F9 : Fr [100003, 100004, 100006] M M9 := by rw [← hM9]; exact (Fr.refl.wIo (by decide)).wIo (by decide)
      have t9 : TrC M9 [] := by rw [← hM9]; exact ⟨by simp [mI_sI]; rfl, fun j hj => absurd hj (by simp)⟩
      have z9 : mI M9 9 0 3 = 0 := by rw [← hM9]; simp [mI_sI]
      rw [cSum hN (hC.fr F9 (by decide)) (hV.fr F9 (by decide)) hp ((rdy_fr F9 (by decide)).mpr r1), Option.bind_some, bnd_eq]
      generalize hS : totS (nT N) p (fun l => nK N l (mI M9 1219 0 p).toNatClampNeg) (fun l i => mL M9 1222 0 (450 * l + i)) (nL N) = S
      generalize hM12 : sL M9 9 0 4 S = M12
      have G12 : Fr [100004] M9 M12 := by rw [← hM12]; exact Fr.refl.wLo (by decide)
      have F12 : Fr [100003, 100004, 100006] M M12 := F9.step G12 (by decide)
      have h4 : mL M12 9 0 4 = totS (nT N) p (fun l => nK N l (mI M12 1219 0 p).toNatClampNeg) (fun l i => mL M12 1222 0 (450 * l + i)) (nL N) := by
        simp only [G12.aI (k := 1219) (by decide), G12.aL (k := 1222) (by decide)]
        rw [hS, ← hM12, mL_sL, if_pos ⟨rfl, rfl, rfl⟩]
      have ew : wk M12 N p = wk M N p := wk_fr F12 (by decide)
      have hV12 := hV.fr F12 (by decide)
      have hC12 := hC.fr F12 (by decide)
      refine ok_call (s_workC hN (hl.fr F12) hC12 hV12 hp ((rdy_fr F12 (by decide)).mpr r1) (t9.fr G12 (by decide)) ((G12.oI (by decide)).trans z9) h4) ?_
      rintro ⟨x, M15⟩ ⟨k1, k2, k3, k4, k5⟩
      have k1 : x = (wk M12 N p).2.1 := k1
      rw [ew] at k1 k2 k3 k5
      have k5 : WS M12 M15 M12 p (wk M N p) := k5
      have ws : WS M M15 M p (wk M N p) := k5.frB F12 F12 (by decide)
      have F15 : Fr kC0 M M15 := (F12.mono (by decide)).step k4 (by decide)
      show Ok (if mI M15 9 0 3 = 0 then _ else _) _
      by_cases z : (wk M N p).1 = 0
      · rw [if_pos (k2.trans z)]
        obtain ⟨a, ha, ha4, a1, a2, a3⟩ := hV.ph hN hp
        have hL : ∀ l, l < nL N → LC M15 l (oF M l) (vF M l) ∧ GC M15 l (gF M l) (wF M l) := fun l hl' => by
          have := (hV.lc h25 hf5 hl').1
          exact ⟨this.1.same (F15.oI (by decide)) (F15.oI (by decide)) (fun j => F15.aL (by decide)), this.2.same (F15.oI (by decide)) (fun j => F15.aL (by decide))⟩
        refine ok_call (c_move x hN (hC.fr F15 (by decide)) hp ha ha4 ((F15.oI (by decide)).trans a2) hL (rdy_x r1 a3) (rm_x r2 a3)) ?_
        rintro M18 ⟨F18, L18, p1, p2⟩
        rw [bnd_eq, bnd_eq]
        have e91 : mI M18 9 0 1 = nI f := (F18.oI (by decide)).trans ((F15.oI (by decide)).trans hf)
        rw [e91, nI_1]
        have F20 : Fr [100001, 100002] M18 (sL (sI M18 9 0 1 (nI (f + 1))) 9 0 2 x) := (Fr.refl.wIo (by decide)).wLo (by decide)
        have T18 := (k3.fr F18 (by decide)).fr F20 (by decide)
        have W18 := (ws.fr F18 (by decide)).fr F20 (by decide)
        refine ok_some (Or.inr (Or.inr (Or.inr ⟨rfl, f5, r1, r2, z, ?_, T18, W18, ?_, ?_, fun l hl' => ?_, ?_, fun q hq => ?_⟩)))
        · exact ((F15.mono (by decide)).step F18 (by decide)).step F20 (by decide)
        · show mI (sL (sI M18 9 0 1 (nI (f + 1))) 9 0 2 x) 9 0 1 = _
          rw [mI_sL, mI_sI, if_pos ⟨rfl, rfl, rfl⟩]
        · show mL (sL (sI M18 9 0 1 (nI (f + 1))) 9 0 2 x) 9 0 2 = _
          rw [mL_sL, if_pos ⟨rfl, rfl, rfl⟩]; exact k1
        · rw [a3, ← k1]
          exact ⟨(L18 l hl').1.same (F20.oI (by decide)) (F20.oI (by decide)) (fun j => F20.aL (by decide)), (L18 l hl').2.same (F20.oI (by decide)) (fun j => F20.aL (by decide))⟩
        · rw [a3]; exact (F20.oI (by decide)).trans p1
        · exact (F20.oI (by decide)).trans ((p2 q hq).trans (F15.oI (by decide)))
      · rw [if_neg (by rw [k2]; exact z)]
        exact ok_some (Or.inr (Or.inr (Or.inl ⟨rfl, f5, r1, r2, z, F15, k2, k3, ws⟩)))
    · rw [fX9_attempt, if_pos e0, e1, Option.bind_some, if_neg (by decide), e2, Option.bind_some, if_neg (by decide)]
      exact ok_some (Or.inl ⟨rfl, Or.inr ⟨f5, r1, r2⟩⟩)
  · rw [fX9_attempt, if_pos e0, e1, Option.bind_some, if_pos rfl]
    exact ok_some (Or.inr (Or.inl ⟨rfl, f5, r1⟩))
def kY0 : List Nat := [1209, 1220, 1227, 120028, 120076]
def kY1 : List Nat := [1209, 1219, 1220, 1221, 1222, 1223, 1224, 1227, 120025, 120026, 120028, 120076]
theorem mFires {M X : tM} {N : NG} {p f : Nat} (hN : NOK N) (hl : Len X) (hG : Gr X N) (hV : Cv M X N) (hp : p < nP N) (hr : rdy X N p) (hw : mI X 1206 0 p = (-9) ∨ ∃ r, r ≤ 12 ∧ mI X 1206 0 p = nI r) (h25 : mI X 11 0 25 = nI f) (hf5 : f < 5000) :
    (fX11_fires (nI p) X = some ((-4), X) ∧ ¬ rm X N p) ∨
    (rm X N p ∧ ¬ (wk X N p).1 = 0 ∧ ∃ X1, Fr kY0 X X1 ∧ TrX X1 (wk X N p).2.2.1 ∧ XS X X1 p (wk X N p) ∧ fX11_fires (nI p) X = fX11_meets (wk X N p).1 X1) ∨
    (rm X N p ∧ (wk X N p).1 = 0 ∧ ∃ X1, fX11_fires (nI p) X = some (1, X1) ∧ Fr kY1 X X1 ∧ TrX X1 (wk X N p).2.2.1 ∧ XS X X1 p (wk X N p) ∧ mI X1 11 0 25 = nI (f + 1) ∧ mL X1 11 0 26 = (wk X N p).2.1 ∧ LG N p (mI X 1219 0 p).toNatClampNeg (wk X N p).2.1 X (LX X1) (GX X1) ∧ mI X1 1219 0 p = nI (((mI X 1219 0 p).toNatClampNeg + 1) % nH N p) ∧ ∀ q, ¬ q = p → mI X1 1219 0 q = mI X 1219 0 q) := by
  have hb := hN.1
  rcases mRoom hN hl hG hV hp hr with ⟨e2, r2⟩ | ⟨e2, r2⟩
  · refine Or.inr ?_
    generalize hM9 : sI (sI X 11 0 28 0) 11 0 76 0 = M9
    have F9 : Fr [120028, 120076] X M9 := by rw [← hM9]; exact (Fr.refl.wIo (by decide)).wIo (by decide)
    have t9 : TrX M9 [] := by rw [← hM9]; exact ⟨by simp [mI_sI]; rfl, fun j hj => absurd hj (by simp)⟩
    have z9 : mI M9 11 0 76 = 0 := by rw [← hM9]; simp [mI_sI]
    have ew : wk M9 N p = wk X N p := wk_fr F9 (by decide)
    obtain ⟨⟨x, M8⟩, e8, k1, k2, k3, k4, k5⟩ := s_workM hN (hl.fr F9) (hG.fr F9 (by decide)) (hV.frX F9 (by decide)) hp t9 z9 (by rw [F9.aI (by decide)]; exact hw)
    have k1 : x = (wk M9 N p).2.1 := k1
    have k2 : mI M8 11 0 76 = (wk M9 N p).1 := k2
    have k3 : TrX M8 (wk M9 N p).2.2.1 := k3
    have k4 : Fr kY0 M9 M8 := k4
    have k5 : XS M9 M8 p (wk M9 N p) := k5
    rw [ew] at k1 k2 k3 k5
    have xs : XS X M8 p (wk X N p) := k5.frB F9 (by decide)
    have F8 : Fr kY0 X M8 := (F9.mono (by decide)).step k4 (by decide)
    have eq : fX11_fires (nI p) X = if mI M8 11 0 76 ≤ 0 then (bnd (sL M8 11 0 26 x) fun M10 => (fX11_moves (nI p) x M10).bind fun M12 => some ((1, M12))) else (fX11_meets (mI M8 11 0 76) M8).bind fun (x13, M15) => some ((x13, M15)) := by
      rw [fX11_fires, e2, Option.bind_some, if_neg (by decide), bnd_eq, bnd_eq, hM9, e8, Option.bind_some]
    by_cases z : (wk X N p).1 = 0
    · refine Or.inr ⟨r2, z, ?_⟩
      rw [k2, z, if_pos (by decide), bnd_eq] at eq
      have F10 : Fr [120026] M8 (sL M8 11 0 26 x) := Fr.refl.wLo (by decide)
      have G10 : Fr [1209, 1220, 1227, 120026, 120028, 120076] X (sL M8 11 0 26 x) := (F8.mono (by decide)).step F10 (by decide)
      obtain ⟨a, ha, ha4, a1, a2, a3⟩ := hV.ph hN hp
      have hL : ∀ l, l < nL N → LX (sL M8 11 0 26 x) l (oF X l) (vF X l) ∧ GX (sL M8 11 0 26 x) l (gF X l) (wF X l) := fun l hl' => by
        have := (hV.lc h25 (by omega) hl').2.1
        exact ⟨⟨(G10.aI (by decide)).trans this.1.1, fun j hj => (G10.aL (by decide)).trans (this.1.2 j hj)⟩, ⟨(G10.aI (by decide)).trans this.2.1, fun j hj => (G10.aL (by decide)).trans (this.2.2 j hj)⟩⟩
      obtain ⟨X1, e11, F11, L11, p1, p2, p3⟩ := m_moves x hN (hl.fr G10) (hG.fr G10 (by decide)) hp ha ha4 ((G10.aI (by decide)).trans a1) hL (fun l hl' => ⟨(hV.lc h25 (by omega) hl').2.2.1, by have := (hV.lc h25 (by omega) hl').2.2.2; omega⟩) (rdy_x hr a3) (rm_x r2 a3) ((G10.oI (by decide)).trans h25)
      rw [e11, Option.bind_some] at eq
      refine ⟨X1, eq, (G10.mono (by decide)).step F11 (by decide), (k3.fr F10 (by decide)).fr F11 (by decide), (xs.fr F10 (by decide)).fr F11 (by decide), p3, ?_, ?_, ?_, fun q hq => ?_⟩
      · rw [F11.oL (by decide), mL_sL, if_pos ⟨rfl, rfl, rfl⟩]; exact k1
      · rw [a3, ← k1]; exact L11
      · rw [a3]; exact p1
      · rw [p2 q hq, G10.aI (by decide)]
    · refine Or.inl ⟨r2, z, M8, F8, k3, xs, ?_⟩
      rw [eq, k2]
      rcases wk_code (X := X) (N := N) (p := p) with c | ⟨c, hc, e⟩
      · exact absurd c z
      · rw [e, if_neg]
        · generalize fX11_meets (nI c) M8 = w
          cases w <;> rfl
        · exact nI_ge (a := 0) (b := c) (by omega) (by omega)
  · refine Or.inl ⟨?_, r2⟩
    rw [fX11_fires, e2, Option.bind_some, if_pos rfl]
