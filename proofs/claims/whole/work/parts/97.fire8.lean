/-! fire: both together -/
def kC2 : List Nat := [507, 510, 810, 1005, 1110, 50008, 50009, 50011, 80007, 80008, 100001, 100002, 100003, 100004, 100006, 110009]
def kS : List Nat := [810, 905, 1005, 1110, 1201, 1209, 1220, 1227, 80008, 100003, 100004, 100006, 110009, 120000, 120028, 120076]
def kY2 : List Nat := [1201, 1209, 1219, 1220, 1221, 1222, 1223, 1224, 1227, 120000, 120025, 120026, 120028, 120076]
/-- all but the SCHEDULE -/
def AlS (M : tM) (N : NG) : Prop := (NOK N ∧ Len M ∧ Gr M N) ∧ Cg M M N ∧ Ct M M N ∧ Cv M M N ∧ Cf M M ∧ Cr M M ∧ Cd M M N ∧ Co M M ∧ Cc1 M N ∧ Cc2 M N ∧ Cc3 M N
theorem AlS.al {M : tM} {N : NG} (h : AlS M N) (hS : Cs M M N) : Al M N := by
  obtain ⟨h1, hC, hT, hV, hF, hR, hD, hO, hk⟩ := h
  exact ⟨h1, hC, hT, hV, hF, hR, hD, hO, hS, hk⟩
theorem Al.s {M : tM} {N : NG} (h : Al M N) : AlS M N := by
  obtain ⟨h1, hC, hT, hV, hF, hR, hD, hO, hS, hk⟩ := h
  exact ⟨h1, hC, hT, hV, hF, hR, hD, hO, hk⟩
def rsAlS : List Nat := rsGr ++ rsCg ++ rsCt ++ rsCv ++ rsCf ++ rsCr ++ rsCd ++ rsCo ++ rsCc1 ++ rsCc2 ++ rsCc3
theorem disj_sub {ks rs rs2 : List Nat} (h : disj ks rs = true) (hs : ∀ r ∈ rs2, r ∈ rs) : disj ks rs2 = true := by
  unfold disj at h ⊢
  rw [List.all_eq_true] at h ⊢
  exact fun r hr => h r (hs r hr)
theorem AlS.fr {ks : List Nat} {M M2 : tM} {N : NG} (h : AlS M N) (F : Fr ks M M2) (hd : disj ks rsAlS = true) : AlS M2 N := by
  obtain ⟨⟨hN, hl, hG⟩, hC, hT, hV, hF, hR, hD, hO, k1, k2, k3⟩ := h
  exact ⟨⟨hN, hl.fr F, hG.fr F (disj_sub hd (by decide))⟩, hC.fr F (disj_sub hd (by decide)), hT.fr F (disj_sub hd (by decide)), hV.fr F (disj_sub hd (by decide)), hF.fr F (disj_sub hd (by decide)), hR.fr F (disj_sub hd (by decide)), hD.fr F (disj_sub hd (by decide)), hO.fr F (disj_sub hd (by decide)), k1.fr F (disj_sub hd (by decide)), k2.fr F (disj_sub hd (by decide)), k3.fr F (disj_sub hd (by decide))⟩
theorem Al_fired {M M2 : tM} {N : NG} (hA : Al M N) (FF : Fr frF M M2) (hV : Cv M2 M2 N) (hF : Cf M2 M2) (hR : Cr M2 M2) : AlS M2 N := by
  obtain ⟨⟨hN, hl, hG⟩, hC, hT, -, -, -, hD, hO, hS, hk1, hk2, hk3⟩ := hA
  exact ⟨⟨hN, hl.fr FF, hG.fr FF (by decide)⟩, hC.fr FF (by decide), hT.fr FF (by decide), hV, hF, hR, hD.fr FF (by decide), hO.fr FF (by decide), hk1.fr FF (by decide), hk2.fr FF (by decide), hk3.fr FF (by decide)⟩
theorem row_ok {M X : tM} {N : NG} {p : Nat} (hC : Cg M X N) (hp : p < nP N) : mI X 1206 0 p = (-9) ∨ ∃ r, r ≤ 12 ∧ mI X 1206 0 p = nI r := by
  rcases (hC.2.1 p hp).2 with ⟨w1, -⟩ | ⟨r, -, w2, w3, -⟩
  · exact Or.inl w1
  · exact Or.inr ⟨r, w2, w3⟩
set_option maxHeartbeats 1000000 in
theorem att_ok {M : tM} {N : NG} {p : Nat} (hA : Al M N) (hp : p < nP N) :
    ∃ f x y M0 M1, f ≤ 5000 ∧ mI M 11 0 25 = nI f ∧ fX9_attempt (some p) M = some (x, M0) ∧ fX10_withFinding x M0 = some (y, M1) ∧ Fr kC2 M M1 ∧
      ((y = (-4) ∧ M1 = M ∧ f = 5000) ∨ (y = 0 ∧ M1 = M ∧ f < 5000 ∧ fX11_mayFire (nI p) M1 = some 0) ∨
       (f < 5000 ∧ (y = 1 ∨ y = (-3) ∨ y = (-4)) ∧ ∀ Mx, Fr [905] M1 Mx → fX11_mayFire (nI p) Mx = some 1 ∧ ∃ M2, fX11_fires (nI p) Mx = some (y, M2) ∧ Fr kY2 Mx M2 ∧ AlS M2 N)) := by
  obtain ⟨⟨hN, hl, hG⟩, hC, hT, hV, hF, hR, hD, hO, hS, hk1, hk2, hk3⟩ := id hA
  obtain ⟨f, hf5, h25, hf, -, -⟩ := id hV
  have hb := hN.1
  obtain ⟨⟨x, M0⟩, eA, k⟩ := cAtt hN hl hC hV hp hf h25 hf5
  rcases k with ⟨kw, k⟩ | ⟨kw, f5, k⟩ | ⟨kx, f5, r1, r2, z, F, k3, T, W⟩ | ⟨kx, f5, r1, r2, z, F, T, W, h91, h92, L, p1, p2⟩
  · obtain ⟨e1, e2⟩ := Prod.mk.inj kw
    rw [e1, e2] at eA
    rcases k with k | ⟨f5, r1, r2⟩
    · exact ⟨f, -4, -4, M, M, hf5, h25, eA, by rw [fX10_withFinding, if_neg (by decide)], Fr.refl, Or.inl ⟨rfl, rfl, k⟩⟩
    · refine ⟨f, -4, -4, M, M, hf5, h25, eA, by rw [fX10_withFinding, if_neg (by decide)], Fr.refl, Or.inr (Or.inr ⟨f5, Or.inr (Or.inr rfl), fun Mx FM => ⟨?_, Mx, ?_, Fr.refl, hA.s.fr FM (by decide)⟩⟩)⟩
      · rcases mReady hN (hl.fr FM) (hG.fr FM (by decide)) (hV.frX FM (by decide)) hp with ⟨e, -⟩ | ⟨-, r⟩
        · exact e
        · exact absurd ((rdy_fr FM (by decide)).mpr r1) r
      · rcases mFires hN (hl.fr FM) (hG.fr FM (by decide)) (hV.frX FM (by decide)) hp ((rdy_fr FM (by decide)).mpr r1) (row_ok (hC.fr FM (by decide)) hp) ((FM.oI (by decide)).trans h25) f5 with ⟨e, -⟩ | ⟨r, -⟩ | ⟨r, -⟩
        · exact e
        · exact absurd ((rm_fr FM (by decide)).mp r) r2
        · exact absurd ((rm_fr FM (by decide)).mp r) r2
  · obtain ⟨e1, e2⟩ := Prod.mk.inj kw
    rw [e1, e2] at eA
    refine ⟨f, 0, 0, M, M, hf5, h25, eA, by rw [fX10_withFinding, if_neg (by decide)], Fr.refl, Or.inr (Or.inl ⟨rfl, rfl, f5, ?_⟩)⟩
    rcases mReady hN hl hG hV hp with ⟨-, r⟩ | ⟨e, -⟩
    · exact absurd r k
    · exact e
  · have kx : x = (-3) := kx
    subst kx
    have F : Fr kC0 M M0 := F
    have k3 : mI M0 9 0 3 = (wk M N p).1 := k3
    have T : TrC M0 (wk M N p).2.2.1 := T
    have W : WS M M0 M p (wk M N p) := W
    rcases wk_code (X := M) (N := N) (p := p) with c0 | ⟨c, hc, ec⟩
    · exact absurd c0 z
    have eM := cMeets (hl.fr F) (f := c) (by omega)
    generalize hM1 : sI (sI M0 10 0 9 (nI c)) 1110 0 c (mI M0 1110 0 c + 1) = M1 at eM
    have F1 : Fr [1110, 110009] M0 M1 := by rw [← hM1]; exact (Fr.refl.wIo (by decide)).wI (by decide)
    have FM0 : Fr [810, 1005, 1110, 80008, 100003, 100004, 100006, 110009] M M1 := (F.mono (by decide)).step F1 (by decide)
    refine ⟨f, -3, -3, M0, M1, hf5, h25, eA, by rw [fX10_withFinding, if_pos rfl, k3, ec, eM]; rfl, FM0.mono (by decide), Or.inr (Or.inr ⟨f5, Or.inr (Or.inl rfl), fun Mx Fx => ?_⟩)⟩
    have FM : Fr [810, 905, 1005, 1110, 80008, 100003, 100004, 100006, 110009] M Mx := (FM0.mono (by decide)).step Fx (by decide)
    have r1' := (rdy_fr (N := N) (p := p) FM (by decide)).mpr r1
    have r2' := (rm_fr (N := N) (p := p) FM (by decide)).mpr r2
    have ew : wk Mx N p = wk M N p := wk_fr FM (by decide)
    have hV1 : Cv M Mx N := hV.frX FM (by decide)
    have mr : fX11_mayFire (nI p) Mx = some 1 := by
      rcases mReady hN (hl.fr FM) (hG.fr FM (by decide)) hV1 hp with ⟨e, -⟩ | ⟨-, r⟩
      · exact e
      · exact absurd r1' r
    rcases mFires hN (hl.fr FM) (hG.fr FM (by decide)) hV1 hp r1' (row_ok (hC.fr FM (by decide)) hp) ((FM.oI (by decide)).trans h25) f5 with ⟨-, r⟩ | ⟨-, -, X1, G1, T1, S1, e1⟩ | ⟨-, z', -⟩
    · exact absurd r2' r
    · rw [ew] at T1 S1 e1
      rw [ec] at e1
      have FX : Fr [810, 905, 1005, 1110, 1209, 1220, 1227, 80008, 100003, 100004, 100006, 110009, 120028, 120076] M X1 := (FM.mono (by decide)).step G1 (by decide)
      rw [mMeets (hl.fr FX) (f := c) (by omega)] at e1
      generalize hM2 : sI (sI X1 11 0 0 (nI c)) 1201 0 c (mI X1 1201 0 c + 1) = M2 at e1
      have F2 : Fr [1201, 120000] X1 M2 := by rw [← hM2]; exact (Fr.refl.wIo (by decide)).wI (by decide)
      have FS : Fr kS M M2 := (FX.mono (by decide)).step F2 (by decide)
      refine ⟨mr, M2, e1, (G1.mono (by decide)).step F2 (by decide), ?_⟩
      · refine Al_fired hA (FS.mono (by decide)) (Cv_step (p := p) (u := wk M N p) hV hf5 ((FS.oI (by decide)).trans h25) ((FS.oI (by decide)).trans hf) (FS.mono (by decide)) ((((W.fr F1 (by decide)).fr Fx (by decide)).fr G1 (by decide)).fr F2 (by decide)) ((S1.frB FM (by decide)).fr F2 (by decide)) (fun q hq => ?_) (fun l hl' => ?_)) ?_ (Cr_tr wk_len ((((T.fr F1 (by decide)).fr Fx (by decide)).fr G1 (by decide)).fr F2 (by decide)) (T1.fr F2 (by decide)))
        · obtain ⟨a, ha, -, a1, a2, -⟩ := hV.ph hN hq
          exact ⟨a, ha, (FS.aI (by decide)).trans a1, (FS.oI (by decide)).trans a2⟩
        · obtain ⟨⟨c1, c2⟩, ⟨x1, x2⟩, b1, b2⟩ := hV.lc h25 hf5 hl'
          exact ⟨_, _, _, _, b1, b2, ⟨c1.same (FS.oI (by decide)) (FS.oI (by decide)) (fun j => FS.aL (by decide)), c2.same (FS.oI (by decide)) (fun j => FS.aL (by decide))⟩, ⟨(FS.aI (by decide)).trans x1.1, fun j hj => (FS.aL (by decide)).trans (x1.2 j hj)⟩, ⟨(FS.aI (by decide)).trans x2.1, fun j hj => (FS.aL (by decide)).trans (x2.2 j hj)⟩⟩
        · obtain ⟨h1, h2, h3, h4, h5⟩ := hF
          refine ⟨?_, fun j hj => ?_, ?_, ?_, ?_⟩
          · rw [F2.oI (k := 10) (by decide), G1.oI (k := 10) (by decide), Fx.oI (k := 10) (by decide), ← hM2, mI_sI, if_neg (by simp), mI_sI, if_pos ⟨rfl, rfl, rfl⟩, ← hM1, mI_sI, if_neg (by simp), mI_sI, if_pos ⟨rfl, rfl, rfl⟩]
          · have ea : mI M2 1110 0 j = if j = c then mI M 1110 0 j + 1 else mI M 1110 0 j := by
              rw [F2.aI (by decide), G1.aI (by decide), Fx.aI (by decide), ← hM1, mI_sI]
              by_cases e : j = c
              · rw [if_pos ⟨rfl, rfl, e⟩, if_pos e, F.aI (by decide), e]
              · rw [if_neg (fun y => e y.2.2), if_neg e, mI_sI, if_neg (by simp), F.aI (by decide)]
            have eb : mI M2 1201 0 j = if j = c then mI M 1201 0 j + 1 else mI M 1201 0 j := by
              rw [← hM2, mI_sI]
              by_cases e : j = c
              · rw [if_pos ⟨rfl, rfl, e⟩, if_pos e, FX.aI (by decide), e]
              · rw [if_neg (fun y => e y.2.2), if_neg e, mI_sI, if_neg (by simp), FX.aI (by decide)]
            rw [ea, eb, h2 j hj]
          · rw [FS.oL (by decide), FS.oL (by decide)]; exact h3
          · rw [FS.oL (by decide), FS.oL (by decide)]; exact h4
          · rw [FS.oI (by decide), FS.oI (by decide)]; exact h5
    · rw [ew] at z'; exact absurd z' z
  · have kx : x = 1 := kx
    subst kx
    have F : Fr kC1 M M0 := F
    have T : TrC M0 (wk M N p).2.2.1 := T
    have W : WS M M0 M p (wk M N p) := W
    have h91 : mI M0 9 0 1 = nI (f + 1) := h91
    have h92 : mL M0 9 0 2 = (wk M N p).2.1 := h92
    have p1 : mI M0 7 p 7 = nI (((mI M 1219 0 p).toNatClampNeg + 1) % nH N p) := p1
    have p2 : ∀ q, ¬ q = p → mI M0 7 q 7 = mI M 7 q 7 := p2
    have L : LG N p (mI M 1219 0 p).toNatClampNeg (wk M N p).2.1 M (LC M0) (GC M0) := L
    refine ⟨f, 1, 1, M0, M0, hf5, h25, eA, by rw [fX10_withFinding, if_neg (by decide)], F.mono (by decide), Or.inr (Or.inr ⟨f5, Or.inl rfl, fun Mx Fx => ?_⟩)⟩
    have FM : Fr [507, 510, 810, 905, 1005, 50008, 50009, 50011, 80007, 80008, 100001, 100002, 100003, 100004, 100006] M Mx := (F.mono (by decide)).step Fx (by decide)
    have r1' := (rdy_fr (N := N) (p := p) FM (by decide)).mpr r1
    have r2' := (rm_fr (N := N) (p := p) FM (by decide)).mpr r2
    have ew : wk Mx N p = wk M N p := wk_fr FM (by decide)
    have hV1 : Cv M Mx N := hV.frX FM (by decide)
    have mr : fX11_mayFire (nI p) Mx = some 1 := by
      rcases mReady hN (hl.fr FM) (hG.fr FM (by decide)) hV1 hp with ⟨e, -⟩ | ⟨-, r⟩
      · exact e
      · exact absurd r1' r
    rcases mFires hN (hl.fr FM) (hG.fr FM (by decide)) hV1 hp r1' (row_ok (hC.fr FM (by decide)) hp) ((FM.oI (by decide)).trans h25) f5 with ⟨-, r⟩ | ⟨-, z', -⟩ | ⟨-, -, X1, e1, G1, T1, S1, q25, q26, LL, q1, q2⟩
    · exact absurd r2' r
    · rw [ew] at z'; exact absurd z z'
    · have eo : oF Mx = oF M := funext fun l => by rw [oF, oF, FM.aI (by decide)]
      have eg : gF Mx = gF M := funext fun l => by rw [gF, gF, FM.aI (by decide)]
      have ev : vF Mx = vF M := funext fun l => funext fun i => by rw [vF, vF, FM.aL (by decide)]
      have ewf : wF Mx = wF M := funext fun l => funext fun i => by rw [wF, wF, FM.aL (by decide)]
      rw [ew] at T1 S1 q26
      rw [FM.aI (by decide)] at q1
      have LL : LG N p (mI M 1219 0 p).toNatClampNeg (wk M N p).2.1 M (LX X1) (GX X1) := by
        rw [ew, FM.aI (by decide)] at LL
        unfold LG at LL ⊢
        rw [eo, eg, ev, ewf] at LL
        exact LL
      obtain ⟨a, ha, ha4, a1, a2, a3⟩ := hV.ph hN hp
      rw [a3] at LL L p1 q1
      have FF : Fr frF M X1 := (FM.mono (by decide)).step G1 (by decide)
      refine ⟨mr, X1, e1, G1.mono (by decide), ?_⟩
      refine Al_fired hA FF (Cv_step (p := p) (u := wk M N p) (f' := f + 1) hV (by omega) q25 ((G1.oI (by decide)).trans ((Fx.oI (by decide)).trans h91)) FF ((W.fr Fx (by decide)).fr G1 (by decide)) (S1.frB FM (by decide)) (fun q hq => ?_) (fun l hl' => ?_)) ?_ (Cr_tr wk_len ((T.fr Fx (by decide)).fr G1 (by decide)) T1)
      · by_cases e : q = p
        · subst e
          exact ⟨(a + 1) % nH N q, Nat.mod_lt _ (by omega), q1, (G1.oI (by decide)).trans ((Fx.oI (by decide)).trans p1)⟩
        · obtain ⟨b, hb', -, b1, b2, -⟩ := hV.ph hN hq
          exact ⟨b, hb', (q2 q e).trans ((FM.aI (by decide)).trans b1), (G1.oI (by decide)).trans ((Fx.oI (by decide)).trans ((p2 q e).trans b2))⟩
      · have c1 := L l hl'
        have x1 := LL l hl'
        have b2 := (hV.lc h25 hf5 hl').2.2.2
        have h50 := (hN.2.2.2 l a hl' ha4).1
        refine ⟨_, _, _, _, c1.1.elim (fun _ h => h.2.1), ?_, ⟨(c1.1.same (Fx.oI (by decide)) (Fx.oI (by decide)) (fun j => Fx.aL (by decide))).same (G1.oI (by decide)) (G1.oI (by decide)) (fun j => G1.aL (by decide)), (c1.2.same (Fx.oI (by decide)) (fun j => Fx.aL (by decide))).same (G1.oI (by decide)) (fun j => G1.aL (by decide))⟩, x1⟩
        rw [yO]; split <;> omega
      · obtain ⟨h1, h2, h3, h4, h5⟩ := hF
        refine ⟨?_, fun j hj => ?_, ?_, ?_, ?_⟩
        · rw [G1.oI (k := 10) (by decide), FM.oI (k := 10) (by decide), G1.oI (k := 11) (j := 0) (by decide), FM.oI (k := 11) (j := 0) (by decide)]; exact h1
        · rw [G1.aI (k := 1110) (by decide), FM.aI (k := 1110) (by decide), G1.aI (k := 1201) (by decide), FM.aI (k := 1201) (by decide)]; exact h2 j hj
        · rw [FF.oL (by decide), FF.oL (by decide)]; exact h3
        · rw [G1.oL (k := 9) (by decide), Fx.oL (k := 9) (by decide), h92, q26]
        · rw [FF.oI (by decide), FF.oI (by decide)]; exact h5
theorem nI_ne {a b : Nat} (ha : a < 2 ^ 31) (hb : b < 2 ^ 31) (h : ¬ a = b) : ¬ nI a = nI b := fun q => h ((nI_eq ha hb).mp q)
theorem c29 : call29 Rel := by
  rintro a1 M ⟨N, hA⟩
  obtain ⟨⟨hN, hl, hG⟩, hC, hT, hV, -⟩ := id hA
  have hb := hN.1
  rcases ix_cases a1 (n := nP N) (by omega) with ⟨p, hp, rfl⟩ | ha
  · obtain ⟨f, x, y, M0, M1, hf5, h25, eA, eW, F, k⟩ := att_ok hA hp
    have e10 : fX10_fire (nI p) M = some (y, M1) := by
      rw [fX10_fire, cPart_in hN hl hC hp, Option.bind_some, if_neg (by simp), eA, Option.bind_some]
      show Option.bind (fX10_withFinding x M0) _ = _
      rw [eW]; rfl
    have hP : fX11_isPart (nI p) M1 = some 1 := mPart_in hN (hG.fr F (by decide)) hp
    have h25' : mI M1 11 0 25 = nI f := (F.oI (by decide)).trans h25
    rcases k with ⟨rfl, rfl, rfl⟩ | ⟨rfl, rfl, f5, k⟩ | ⟨f5, -, k⟩
    · refine ⟨_, _, _, e10, ?_, N, hA⟩
      rw [fX11_fire, hP, Option.bind_some, if_neg (by decide), h25, if_pos (by decide)]
    · refine ⟨_, _, _, e10, ?_, N, hA⟩
      rw [fX11_fire, hP, Option.bind_some, if_neg (by decide), h25, if_neg (show ¬ nI f = (5000 : Int32) from nI_ne (b := 5000) (by omega) (by omega) (by omega)), k, Option.bind_some, if_pos rfl]
    · obtain ⟨k, M2, e, G, hA2⟩ := k M1 Fr.refl
      obtain ⟨-, -, -, -, -, -, -, -, hS, -⟩ := hA
      refine ⟨_, _, _, e10, ?_, N, hA2.al ((hS.fr F (by decide)).fr G (by decide))⟩
      rw [fX11_fire, hP, Option.bind_some, if_neg (by decide), h25', if_neg (show ¬ nI f = (5000 : Int32) from nI_ne (b := 5000) (by omega) (by omega) (by omega)), k, Option.bind_some, if_neg (by decide), e]
      rfl
  · rw [fX10_fire, cPart_out hC ha]
    refine ⟨-1, M, M, rfl, ?_, N, hA⟩
    rw [fX11_fire, mPart_out hN hG ha]; rfl
