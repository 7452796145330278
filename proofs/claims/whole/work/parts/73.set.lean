/-! what several calls share -/
theorem cMeets {M : tM} (hl : Len M) {f : Nat} (hf : f ≤ 5) : fX10_meets (nI f) M = some ((-3), sI (sI M 10 0 9 (nI f)) 1110 0 f (mI M 1110 0 f + 1)) := by
  rw [fX10_meets, bnd_eq]
  simp (disch := omega) only [mN_sI, ln1110 hl, chk_nI, bnd_eq, nI_clamp]
  simp [mI_sI]
theorem mMeets {M : tM} (hl : Len M) {f : Nat} (hf : f ≤ 5) : fX11_meets (nI f) M = some ((-3), sI (sI M 11 0 0 (nI f)) 1201 0 f (mI M 1201 0 f + 1)) := by
  rw [fX11_meets, bnd_eq]
  simp (disch := omega) only [mN_sI, ln1201 hl, chk_nI, bnd_eq, nI_clamp]
  simp [mI_sI]
theorem Cf_meets {M : tM} {f : Nat} (h : Cf M M) : Cf (sI (sI (sI (sI M 10 0 9 (nI f)) 1110 0 f (mI M 1110 0 f + 1)) 11 0 0 (nI f)) 1201 0 f (mI M 1201 0 f + 1)) (sI (sI (sI (sI M 10 0 9 (nI f)) 1110 0 f (mI M 1110 0 f + 1)) 11 0 0 (nI f)) 1201 0 f (mI M 1201 0 f + 1)) := by
  obtain ⟨h1, h2, h3, h4, h5⟩ := h
  refine ⟨by simp [mI_sI], fun j hj => ?_, by simp [mL_sI, h3], by simp [mL_sI, h4], by simp [mI_sI, h5]⟩
  by_cases e : j = f
  · subst e; simp [mI_sI, h2 j hj]
  · simp [mI_sI, e, h2 j hj]
/-- both meet a FINDING -/
theorem meets_ok {M : tM} {N : NG} (hA : Al M N) {f : Nat} (hf : f ≤ 5) : ∃ M1 M2, fX10_meets (nI f) M = some ((-3), M1) ∧ Fr [1110, 110009] M M1 ∧ fX11_meets (nI f) M1 = some ((-3), M2) ∧ Al M2 N := by
  obtain ⟨⟨hN, hl, hG⟩, hC, hT, hV, hF, hR, hD, hO, hS, hk1, hk2, hk3⟩ := id hA
  have F1 : Fr [1110, 110009] M (sI (sI M 10 0 9 (nI f)) 1110 0 f (mI M 1110 0 f + 1)) := (Fr.refl.wIo (by decide)).wI (by decide)
  refine ⟨_, _, cMeets hl hf, F1, mMeets (hl.fr F1) hf, ?_⟩
  rw [F1.aI (k := 1201) (by decide)]
  have FF : Fr [1110, 1201, 110009, 120000] M (sI (sI (sI (sI M 10 0 9 (nI f)) 1110 0 f (mI M 1110 0 f + 1)) 11 0 0 (nI f)) 1201 0 f (mI M 1201 0 f + 1)) := ((F1.mono (by decide)).wIo (by decide)).wI (by decide)
  exact ⟨⟨hN, hl.fr FF, hG.fr FF (by decide)⟩, hC.fr FF (by decide), hT.fr FF (by decide), hV.fr FF (by decide), Cf_meets hF, hR.fr FF (by decide), hD.fr FF (by decide), hO.fr FF (by decide), hS.fr FF (by decide), hk1.fr FF (by decide), hk2.fr FF (by decide), hk3.fr FF (by decide)⟩
theorem Cs_thr {ks : List Nat} {M M2 : tM} {N : NG} (h : Cs M M N) (hF : Fr ks M M2) (hd : disj ks [8, 11, 902, 904, 1242, 1244, 90003, 120043] = true) (z1 : ∀ t, t < 4 → mI M2 905 0 t = 0) (z2 : ∀ t, t < 4 → mI M2 1230 0 t = 0) : Cs M2 M2 N := by
  rcases h with ⟨o1, o2, -⟩ | ⟨z, hz1, hz2, o1, o2, o3, o4, o5, -⟩
  · refine Or.inl ⟨by rw [hF.hI hd 11 43 (by decide)]; exact o1, by rw [hF.hI hd 8 3 (by decide)]; exact o2, fun t ht => ⟨z2 t ht, z1 t ht⟩⟩
  · refine Or.inr ⟨z, hz1, hz2, by rw [hF.hI hd 11 43 (by decide)]; exact o1, by rw [hF.hI hd 8 3 (by decide)]; exact o2, fun i hi => ?_, fun p hp => ?_, fun l hl => ?_, fun t ht => ⟨0, Nat.zero_le _, z1 t ht, ?_⟩⟩
    · rw [hF.gI hd 1242 (by decide), hF.gI hd 902 (by decide)]; exact o3 i hi
    · simp only [hF.gI hd 1242 (by decide)]; exact o4 p hp
    · rw [hF.gI hd 904 (by decide), hF.gI hd 1244 (by decide)]; exact o5 l hl
    · rw [z2 t ht, Nat.zero_mod]; rfl
/-- the graph has changed: all begins anew -/
theorem Al_reset {M : tM} {N : NG} (hN : NOK N) (hl : Len M) (hG : Gr M N) (hC : Cg M M N) (hT : Ct M M N) (tc : TFc M N) (tm : TFm M N) (z1 : ∀ t, t < 4 → mI M 905 0 t = 0) (z2 : ∀ t, t < 4 → mI M 1230 0 t = 0)
    (g : mI M 1 0 6 = 0 ∧ mI M 2 0 3 = 0 ∧ mI M 2 0 5 = 0 ∧ mI M 0 0 3 = 0 ∧ mI M 6 0 7 = 0 ∧ mI M 8 0 3 = 0) (gm : mI M 11 0 43 = (-9) ∧ mI M 11 0 60 = (-9)) (hF : Cf M M) (hR : Cr M M) (hD : Cd M M N) : Al M N :=
  ⟨⟨hN, hl, hG⟩, hC, hT, Cv_new hN hG hC tc tm, hF, hR, hD, Or.inl ⟨gm.2, g.2.2.2.2.1⟩, Or.inl ⟨gm.1, g.2.2.2.2.2, fun t ht => ⟨z2 t ht, z1 t ht⟩⟩, Or.inl g.1, Or.inl ⟨g.2.1, g.2.2.1⟩, Or.inl g.2.2.2.1⟩
theorem s_gChanged {M : tM} {N : NG} (hN : NOK N) (hl : Len M) (hC : Cgs M N) :
    Ok (fX10_graphChanged M) (fun M' => Fr [507, 810, 905, 10003, 20006, 30003, 30005, 50008, 50009, 50011, 70007, 80007, 80008, 90003, 100001] M M' ∧ TFc M' N ∧ (∀ t, t < 4 → mI M' 905 0 t = 0) ∧ mI M' 1 0 6 = 0 ∧ mI M' 2 0 3 = 0 ∧ mI M' 2 0 5 = 0 ∧ mI M' 0 0 3 = 0 ∧ mI M' 6 0 7 = 0 ∧ mI M' 8 0 3 = 0) := by
  simp only [fX10_graphChanged, fX1_forgetRound, fX2_forget, fX0_forget, fX6_drop, fX8_drop, bnd_eq, Option.bind_some]
  have F1 : Fr [10003, 20006, 30003, 30005, 70007, 90003] M (sI (sI (sI (sI (sI (sI M 1 0 6 0) 2 0 3 0) 2 0 5 0) 0 0 3 0) 6 0 7 0) 8 0 3 0) := (((((Fr.refl.wIo (by decide)).wIo (by decide)).wIo (by decide)).wIo (by decide)).wIo (by decide)).wIo (by decide)
  generalize hs : sI (sI (sI (sI (sI (sI M 1 0 6 0) 2 0 3 0) 2 0 5 0) 0 0 3 0) 6 0 7 0) 8 0 3 0 = s at F1 ⊢
  refine ok_call (s_toFirst hN (hl.fr F1) (N := N) ?_) ?_
  · refine ⟨by rw [F1.oI (by decide), F1.oI (by decide)]; exact hC.1, fun p hp => ?_, fun l hl => ?_⟩
    · rw [F1.aR (by decide), F1.oR (by decide), F1.oR (by decide), F1.n, F1.n]; exact hC.2.1 p hp
    · rw [F1.aR (by decide), F1.oI (by decide), F1.n, F1.n]; exact hC.2.2 l hl
  · rintro M' ⟨F2, T, z⟩
    refine ok_some ⟨(F1.mono (by decide)).step F2 (by decide), T, z, ?_⟩
    rw [F2.oI (by decide), F2.oI (by decide), F2.oI (by decide), F2.oI (by decide), F2.oI (by decide), F2.oI (by decide), ← hs]
    simp [mI_sI]
theorem s_changes {M : tM} {N : NG} (hN : NOK N) (hl : Len M) (hG : Gr M N) :
    Ok (fX11_changes M) (fun M' => Fr [1208, 1209, 1219, 1220, 1221, 1222, 1223, 1230, 120025, 120043, 120060] M M' ∧ TFm M' N ∧ (∀ t, t < 4 → mI M' 1230 0 t = 0) ∧ mI M' 11 0 43 = (-9) ∧ mI M' 11 0 60 = (-9)) := by
  rw [fX11_changes]
  simp only [bnd_eq]
  have F1 : Fr [120043, 120060] M (sI (sI M 11 0 43 (-9)) 11 0 60 (-9)) := (Fr.refl.wIo (by decide)).wIo (by decide)
  generalize hs : sI (sI M 11 0 43 (-9)) 11 0 60 (-9) = s at F1 ⊢
  refine ok_call (s_begins hN (hl.fr F1) (hG.fr F1 (by decide))) ?_
  rintro M' ⟨F2, T, z⟩
  refine ok_some ⟨(F1.mono (by decide)).step F2 (by decide), T, z, ?_⟩
  rw [F2.oI (by decide), F2.oI (by decide), ← hs]
  simp [mI_sI]
theorem c34 : call34 Rel := by
  rintro M ⟨N, hA⟩
  obtain ⟨⟨hN, hl, hG⟩, hC, hT, hV, hF, hR, hD, hO, hS, hk1, hk2, hk3⟩ := id hA
  obtain ⟨f, hf, f1, f2, -⟩ := id hV
  obtain ⟨M1, e1, F1, T1, z1⟩ := s_toFirst hN hl (Cgs.of hC hV)
  obtain ⟨M2, e2, F2, T2, z2⟩ := s_begins hN (hl.fr F1) (hG.fr F1 (by decide))
  have FF : Fr [507, 810, 905, 1208, 1209, 1219, 1220, 1221, 1222, 1223, 1230, 50008, 50009, 50011, 80007, 80008, 100001, 120025] M M2 := (F1.mono (by decide)).step F2 (by decide)
  have hC2 := hC.fr FF (by decide)
  have hG2 := hG.fr FF (by decide)
  refine ⟨nI f, M1, M2, ?_, ?_, N, ⟨⟨hN, hl.fr FF, hG.fr FF (by decide)⟩, hC.fr FF (by decide), hT.fr FF (by decide), Cv_new hN hG2 hC2 (T1.fr F2 (by decide)) T2, hF.fr FF (by decide), hR.fr FF (by decide), hD.fr FF (by decide), hO.fr FF (by decide), Cs_thr hS FF (by decide) (fun t ht => by rw [F2.aI (by decide)]; exact z1 t ht) z2, hk1.fr FF (by decide), hk2.fr FF (by decide), hk3.fr FF (by decide)⟩⟩
  · rw [fX10_reset, bnd_eq, e1, f2]; rfl
  · rw [fX11_reset, bnd_eq, F1.oI (by decide), e2, f1]; rfl
theorem c24 : call24 Rel := by
  rintro a1 M ⟨N, hA⟩
  obtain ⟨⟨hN, hl, hG⟩, hC, hT, hV, hF, hR, hD, hO, hS, hk1, hk2, hk3⟩ := id hA
  have hb := hN.1
  obtain ⟨d, hd, d1, d2, d3⟩ := id hD
  rw [fX10_draft, d2]
  rcases ix_cases a1 (n := nP N) (by omega) with ⟨p, hp, rfl⟩ | ha
  · rw [cPart_in hN hl hC hp, Option.bind_some, if_neg (by simp)]
    by_cases h2 : d = 200
    · subst h2
      rw [if_neg (show ¬ nI 200 < (200 : Int32) from nI_nlt (Nat.le_refl 200) (by decide))]
      refine ⟨-2, M, M, rfl, ?_, N, hA⟩
      rw [fX11_draft, mPart_in hN hG hp, d1]; rfl
    · rw [if_pos (show nI d < (200 : Int32) from nI_lt (b := 200) (by omega) (by decide)), ln1107 hl, chk_nI (by omega) (by omega), bnd_eq, bnd_eq, nI_clamp (by omega)]
      have F1 : Fr [1107, 110008] M (sI (sI M 1107 0 d (nI p)) 10 0 8 (nI (d + 1))) := (Fr.refl.wI (by decide)).wIo (by decide)
      have FF : Fr [1107, 1264, 110008, 120065] M (sI (sI (sI (sI M 1107 0 d (nI p)) 10 0 8 (nI (d + 1))) 1264 0 d (nI p)) 11 0 65 (nI (d + 1))) := ((F1.mono (by decide)).wI (by decide)).wIo (by decide)
      refine ⟨nI (d + 1), sI (sI M 1107 0 d (nI p)) 10 0 8 (nI (d + 1)), _, ?_, ?_, N, ⟨⟨hN, hl.fr FF, hG.fr FF (by decide)⟩, hC.fr FF (by decide), hT.fr FF (by decide), hV.fr FF (by decide), hF.fr FF (by decide), hR.fr FF (by decide), ?_, hO.fr FF (by decide), hS.fr FF (by decide), hk1.fr FF (by decide), hk2.fr FF (by decide), hk3.fr FF (by decide)⟩⟩
      · simp [mI_sI, d2, nI_1]
      · rw [fX11_draft, mPart_in hN (hG.fr F1 (by decide)) hp, F1.oI (by decide), d1, Option.bind_some, if_neg (by decide), if_neg (show ¬ nI d = (200 : Int32) from fun q => h2 ((nI_eq (b := 200) (by omega) (by decide)).mp q)), ln1264 (hl.fr F1), chk_nI (by omega) (by omega), bnd_eq, bnd_eq, nI_clamp (by omega)]
        simp [mI_sI, d1, nI_1]
      · refine ⟨d + 1, by omega, by simp [mI_sI], by simp [mI_sI], fun j hj => ?_⟩
        by_cases e : j = d
        · subst e; exact ⟨p, hp, by simp [mI_sI], by simp [mI_sI]⟩
        · obtain ⟨q, q1, q2, q3⟩ := d3 j (by omega)
          exact ⟨q, q1, by simp [mI_sI, e, q2], by simp [mI_sI, e, q3]⟩
  · rw [cPart_out hC ha]
    refine ⟨-1, M, M, rfl, ?_, N, hA⟩
    rw [fX11_draft, mPart_out hN hG ha]; rfl
theorem in_nI {M : tM} {j n : Nat} {b : Int32} (hb : b = nI n) (h : j ≤ n) (hn : n < 2 ^ 31) : fX11_in (nI j) 0 b M = some 1 ∧ ¬ nI j < 0 ∧ nI j ≤ b := by
  subst hb
  exact ⟨in_in (nI_pos (by omega)) (nI_nlt h hn), nI_pos (by omega), nI_le h hn⟩
theorem out_nI {M : tM} {a b : Int32} {n : Nat} (hb : b = nI n) (hn : n < 2 ^ 30) (h : a < 0 ∨ nI (n + 1) ≤ a) : fX11_in a 0 b M = some 0 ∧ (a < 0 ∨ ¬ a ≤ b) := by
  subst hb
  have q : a < 0 ∨ nI n < a := h.imp id (fun q => by
    rw [Int32.le_iff_toInt_le, nI_toInt (by omega)] at q
    rw [Int32.lt_iff_toInt_lt, nI_toInt (by omega)]; omega)
  exact ⟨in_out q, q.imp id nle_lt⟩
theorem c26 : call26 Rel := by
  rintro a1 a2 M ⟨N, hA⟩
  obtain ⟨⟨hN, hl, hG⟩, hC, hT, hV, hF, hR, hD, hO, hS, hk1, hk2, hk3⟩ := id hA
  have hb := hN.1
  rw [fX10_time]
  rcases ix_cases a1 (n := nP N) (by omega) with ⟨p, hp, rfl⟩ | ha
  · rw [cPart_in hN hl hC hp, Option.bind_some, if_neg (by simp)]
    rcases ix_cases a2 (n := 1000 + 1) (by decide) with ⟨t, ht, rfl⟩ | h2
    · obtain ⟨i1, i2, i3⟩ := in_nI (M := M) (b := 1000) (n := 1000) rfl (show t ≤ 1000 by omega) (by decide)
      rw [if_neg i2, if_pos i3, Option.bind_some, bnd_eq, bnd_eq, fX0_forget, bnd_eq, Option.bind_some]
      have F1 : Fr [10003, 80004] M (sI (sI M 7 p 4 (nI t)) 0 0 3 0) := (Fr.refl.wIo (by decide)).wIo (by decide)
      have FF : Fr [1210, 10003, 80004] M (sI (sI (sI M 7 p 4 (nI t)) 0 0 3 0) 1210 0 p (nI t)) := (F1.mono (by decide)).wI (by decide)
      obtain ⟨t1, t2, t3⟩ := hT p hp
      refine ⟨mI M 1210 0 p, _, _, by rw [t1.1], ?_, N, ⟨⟨hN, hl.fr FF, hG.fr FF (by decide)⟩, hC.fr FF (by decide), ?_, hV.fr FF (by decide), hF.fr FF (by decide), hR.fr FF (by decide), hD.fr FF (by decide), hO.fr FF (by decide), hS.fr FF (by decide), hk1.fr FF (by decide), hk2.fr FF (by decide), ?_⟩⟩
      · rw [fX11_time, mPart_in hN (hG.fr F1 (by decide)) hp, Option.bind_some, if_neg (by decide), (in_nI (b := 1000) (n := 1000) rfl (show t ≤ 1000 by omega) (by decide)).1, Option.bind_some, if_neg (by decide), ln1210 (hl.fr F1), chk_nI (by omega) (by omega), bnd_eq, nI_clamp (by omega), F1.aI (by decide), chk_nI (by omega) (by omega), bnd_eq]
      · intro q hq
        obtain ⟨q1, q2, q3⟩ := hT q hq
        by_cases e : q = p
        · subst e
          exact ⟨⟨by simp [mI_sI], by simp [mI_sI, q1.2]⟩, ⟨t, by omega, by simp [mI_sI]⟩, by simpa [mI_sI] using q3⟩
        · exact ⟨⟨by simp [mI_sI, e, q1.1], by simp [mI_sI, q1.2]⟩, by simpa [mI_sI, e] using q2, by simpa [mI_sI] using q3⟩
      · exact Or.inl (by simp [mI_sI])
    · obtain ⟨i1, i2⟩ := out_nI (M := M) (b := 1000) (n := 1000) rfl (by decide) h2
      refine ⟨-1, M, M, ?_, ?_, N, hA⟩
      · by_cases q : a2 < 0
        · rw [if_pos q]
        · rw [if_neg q, if_neg (i2.resolve_left q)]
      · rw [fX11_time, mPart_in hN hG hp, Option.bind_some, if_neg (by decide), i1]; rfl
  · rw [cPart_out hC ha]
    refine ⟨-1, M, M, rfl, ?_, N, hA⟩
    rw [fX11_time, mPart_out hN hG ha]; rfl
theorem c32 : call32 Rel := by
  rintro a1 a2 M ⟨N, hA⟩
  obtain ⟨⟨hN, hl, hG⟩, hC, hT, hV, hF, hR, hD, hO, hS, hk1, hk2, hk3⟩ := id hA
  have hb := hN.1
  rw [fX10_deal]
  rcases ix_cases a1 (n := nP N) (by omega) with ⟨p, hp, rfl⟩ | ha
  · rw [cPart_in hN hl hC hp, Option.bind_some, if_neg (by simp)]
    rcases ix_cases a2 (n := 3 + 1) (by decide) with ⟨t, ht, rfl⟩ | h2
    · rw [if_neg (nI_pos (by omega)), if_pos (show nI t < (4 : Int32) from nI_lt (b := 4) ht (by decide)), Option.bind_some, bnd_eq, bnd_eq, fX8_beginThreads]
      have F0 : Fr [80005] M (sI M 7 p 5 (nI t)) := Fr.refl.wIo (by decide)
      obtain ⟨M1, e1, F1, z1, -⟩ := s_fill (M := sI M 7 p 5 (nI t)) (k := 905) (i := 0) (n := 4) (v := 0) rfl rfl rfl (by rw [F0.n]; exact ln905 hl) (by decide)
      have F01 : Fr [905, 80005] M M1 := (F0.mono (by decide)).step F1 (by decide)
      have F2 : Fr [905, 1211, 80005] M (sI M1 1211 0 p (nI t)) := (F01.mono (by decide)).wI (by decide)
      obtain ⟨M2, e2, z2, F3⟩ := sX11_threadsBegin (M := sI M1 1211 0 p (nI t)) (hl.fr F2)
      have FF : Fr [905, 1211, 1230, 80005] M M2 := (F2.mono (by decide)).step F3 (by decide)
      obtain ⟨t1, t2, t3⟩ := hT p hp
      refine ⟨mI M 1211 0 p, M1, M2, by rw [e1, t1.2]; rfl, ?_, N, ⟨⟨hN, hl.fr FF, hG.fr FF (by decide)⟩, hC.fr FF (by decide), ?_, hV.fr FF (by decide), hF.fr FF (by decide), hR.fr FF (by decide), hD.fr FF (by decide), hO.fr FF (by decide), Cs_thr hS FF (by decide) (fun t ht => by rw [F3.aI (by decide)]; simp only [mI_sI, Nat.reduceEqDiff, false_and, if_false]; exact z1 t ht) z2, hk1.fr FF (by decide), hk2.fr FF (by decide), hk3.fr FF (by decide)⟩⟩
      · rw [fX11_deal, mPart_in hN (hG.fr F01 (by decide)) hp, Option.bind_some, if_neg (by decide), (in_nI (b := 3) (n := 3) rfl (show t ≤ 3 by omega) (by decide)).1, Option.bind_some, if_neg (by decide), ln1211 (hl.fr F01), chk_nI (by omega) (by omega), bnd_eq, nI_clamp (by omega), F01.aI (by decide), chk_nI (by omega) (by omega), bnd_eq, e2]; rfl
      · intro q hq
        obtain ⟨q1, q2, q3⟩ := hT q hq
        have g4 : mI M2 7 q 4 = mI M 7 q 4 := FF.oI (by decide)
        have g0 : mI M2 1210 0 q = mI M 1210 0 q := FF.aI (by decide)
        have g5 : mI M2 7 q 5 = if q = p then nI t else mI M 7 q 5 := by
          rw [F3.oI (by decide)]
          simp only [mI_sI, Nat.reduceEqDiff, false_and, if_false]
          rw [F1.oI (by decide)]
          simp [mI_sI]
        have g1 : mI M2 1211 0 q = if q = p then nI t else mI M 1211 0 q := by
          rw [F3.aI (by decide)]
          simp only [mI_sI, true_and]
          rw [F01.aI (by decide)]
        rw [g4, g0, g5, g1]
        by_cases e : q = p
        · rw [if_pos e, if_pos e]
          exact ⟨⟨q1.1, rfl⟩, q2, t, by omega, rfl⟩
        · rw [if_neg e, if_neg e]
          exact ⟨q1, q2, q3⟩
    · obtain ⟨i1, i2⟩ := out_nI (M := M) (b := 3) (n := 3) rfl (by decide) h2
      refine ⟨-1, M, M, ?_, ?_, N, hA⟩
      · by_cases q : a2 < 0
        · rw [if_pos q]
        · rw [if_neg q, if_neg (show ¬ a2 < (4 : Int32) from nlt_le (h2.resolve_left q))]
      · rw [fX11_deal, mPart_in hN hG hp, Option.bind_some, if_neg (by decide), i1]; rfl
  · rw [cPart_out hC ha]
    refine ⟨-1, M, M, rfl, ?_, N, hA⟩
    rw [fX11_deal, mPart_out hN hG ha]; rfl
