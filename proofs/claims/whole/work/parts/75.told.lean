/-! calls that tell of PARTS and LINES anew: frames of the parts of what the class holds -/
def rsCp : List Nat := [7, 200, 1204, 80000, 80001, 80002, 80003, 80011, 80012, 80013, 80014]
theorem Cp.fr {ks : List Nat} {M M2 : tM} {N : NG} {p : Nat} (h : Cp M M N p) (hF : Fr ks M M2) (hd : disj ks rsCp = true) : Cp M2 M2 N p := by
  simp only [Cp] at h ⊢
  simp only [hF.hI hd 7 0 (by decide), hF.hI hd 7 1 (by decide), hF.hI hd 7 3 (by decide), hF.gL hd 1204 (by decide), hF.hL hd 7 2 (by decide), hF.gR hd 200 (by decide), hF.hR hd 7 11 (by decide), hF.hR hd 7 12 (by decide), hF.hR hd 7 13 (by decide), hF.hR hd 7 14 (by decide), hF.n, hF.e]
  exact h
def rsCw : List Nat := [7, 809, 1206, 1207, 80009]
theorem Cw.fr {ks : List Nat} {M M2 : tM} {N : NG} {p : Nat} (h : Cw M M N p) (hF : Fr ks M M2) (hd : disj ks rsCw = true) : Cw M2 M2 N p := by
  simp only [Cw] at h ⊢
  simp only [hF.gI hd 1206 (by decide), hF.gL hd 809 (by decide), hF.gL hd 1207 (by decide), hF.hR hd 7 9 (by decide), hF.n, hF.e]
  exact h
def rsCl : List Nat := [4, 201, 50000, 50001, 50002, 50006, 50012, 50013]
theorem Cl.fr {ks : List Nat} {M M2 : tM} {N : NG} {p : Nat} (h : Cl M M N p) (hF : Fr ks M M2) (hd : disj ks rsCl = true) : Cl M2 M2 N p := by
  simp only [Cl] at h ⊢
  simp only [hF.hI hd 4 0 (by decide), hF.hI hd 4 6 (by decide), hF.gR hd 201 (by decide), hF.hR hd 4 1 (by decide), hF.hR hd 4 2 (by decide), hF.hR hd 4 12 (by decide), hF.hR hd 4 13 (by decide), hF.n, hF.e]
  exact h
def rsCn : List Nat := [503, 504, 505, 1218]
theorem Cn.fr {ks : List Nat} {M M2 : tM} {N : NG} {p : Nat} (h : Cn M M N p) (hF : Fr ks M M2) (hd : disj ks rsCn = true) : Cn M2 M2 N p := by
  simp only [Cn] at h ⊢
  simp only [hF.gI hd 503 (by decide), hF.gI hd 504 (by decide), hF.gL hd 505 (by decide), hF.gL hd 1218 (by decide), hF.n, hF.e]
  exact h
def rsCe : List Nat := []
theorem Ce.fr {ks : List Nat} {M M2 : tM} {N : NG} (h : Ce M N) (hF : Fr ks M M2) : Ce M2 N := by
  simp only [Ce] at h ⊢
  simp only [hF.n, hF.e]
  exact h
theorem Cgs.fr {ks : List Nat} {M M2 : tM} {N : NG} (h : Cgs M N) (hF : Fr ks M M2) (hd : disj ks [1, 4, 7, 200, 201, 20002, 20003, 50006, 80009, 80010] = true) : Cgs M2 N := by
  simp only [Cgs] at h ⊢
  simp only [hF.hI hd 1 2 (by decide), hF.hI hd 1 3 (by decide), hF.gR hd 200 (by decide), hF.gR hd 201 (by decide), hF.hR hd 7 9 (by decide), hF.hR hd 7 10 (by decide), hF.hI hd 4 6 (by decide), hF.n]
  exact h
theorem c4 : call4 Rel := by
  rintro a1 a2 v M ⟨N, hA⟩
  obtain ⟨⟨hN, hl, hG⟩, hC, hT, hV, hF, hR, hD, hO, hS, hk1, hk2, hk3⟩ := id hA
  have hb := hN.1
  rcases ix_cases a1 (n := nL N) (by omega) with ⟨l, hp, rfl⟩ | ha
  · have h60 := (hN.2.2.1 l hp).2.2
    have hs := (hG.2.2.1 l hp).2.2
    have hc6 := (hC.2.2.1 l hp).1.2.2.2.2.1
    rcases ix_cases a2 (n := nS N l) (by omega) with ⟨i, hi, rfl⟩ | h2
    · have F0 : Fr [505] M (sL M 505 l i v) := Fr.refl.wL (by decide)
      obtain ⟨M1, e1, F1, T1, z1⟩ := s_toFirst (M := sL M 505 l i v) hN (hl.fr F0) ((Cgs.of hC hV).fr F0 (by decide))
      have F01 : Fr [505, 507, 810, 905, 50008, 50009, 50011, 80007, 80008, 100001] M M1 := (F0.mono (by decide)).step F1 (by decide)
      have F2 : Fr [1218] M1 (sL M1 1218 0 (60 * l + i) v) := Fr.refl.wL (by decide)
      have F012 : Fr [505, 507, 810, 905, 1218, 50008, 50009, 50011, 80007, 80008, 100001] M (sL M1 1218 0 (60 * l + i) v) := (F01.mono (by decide)).step F2 (by decide)
      obtain ⟨M2, e2, F3, T2, z2⟩ := s_begins (M := sL M1 1218 0 (60 * l + i) v) hN (hl.fr F012) (hG.fr F012 (by decide))
      have FF : Fr [505, 507, 810, 905, 1208, 1209, 1218, 1219, 1220, 1221, 1222, 1223, 1230, 50008, 50009, 50011, 80007, 80008, 100001, 120025] M M2 := (F012.mono (by decide)).step F3 (by decide)
      have F23 : Fr [1208, 1209, 1218, 1219, 1220, 1221, 1222, 1223, 1230, 120025] M1 M2 := (F2.mono (by decide)).step F3 (by decide)
      have hG2 := hG.fr FF (by decide)
      have a5 : ∀ q j, mL M2 505 q j = if q = l ∧ j = i then v else mL M 505 q j := fun q j => by
        rw [F23.aL (by decide), F1.aL (by decide), mL_sL]; simp
      have a8 : ∀ j, mL M2 1218 0 j = if j = 60 * l + i then v else mL M 1218 0 j := fun j => by
        rw [F3.aL (by decide), mL_sL, F01.aL (by decide)]; simp
      have hC2 : Cg M2 M2 N := by
        refine ⟨by rw [FF.oI (by decide), FF.oI (by decide)]; exact hC.1, fun p hp => ⟨(hC.2.1 p hp).1.fr FF (by decide), (hC.2.1 p hp).2.fr FF (by decide)⟩, fun q hq => ⟨(hC.2.2.1 q hq).1.fr FF (by decide), ?_⟩, hC.2.2.2.fr FF⟩
        obtain ⟨n1, n2, n3, n4, n5, n6, n7, n8⟩ := (hC.2.2.1 q hq).2
        refine ⟨by rw [FF.n]; exact n1, by rw [FF.n]; exact n2, by rw [FF.n]; exact n3, by rw [FF.n]; exact n4, by rw [FF.n]; exact n5, fun j hj => by rw [FF.aI (by decide)]; exact n6 j hj, fun j hj => by rw [FF.aI (by decide)]; exact n7 j hj, fun j hj => ?_⟩
        have hq60 := (hN.2.2.1 q hq).2.2
        rw [a5, a8, n8 j hj]
        by_cases e : q = l ∧ j = i
        · rw [if_pos e, if_pos (by rw [e.1, e.2])]
        · rw [if_neg e, if_neg (fun h => e (by omega))]
      refine ⟨1, M1, M2, ?_, ?_, N, ⟨⟨hN, hl.fr FF, hG2⟩, hC2, hT.fr FF (by decide), Cv_new hN hG2 hC2 (T1.fr F23 (by decide)) T2, hF.fr FF (by decide), hR.fr FF (by decide), hD.fr FF (by decide), hO.fr FF (by decide), Cs_thr hS FF (by decide) (fun t ht => by rw [F23.aI (by decide)]; exact z1 t ht) z2, hk1.fr FF (by decide), hk2.fr FF (by decide), hk3.fr FF (by decide)⟩⟩
      · rw [fX10_thing, cLine_in hN hl hC hp, Option.bind_some, if_neg (by simp), if_neg (nI_pos (by omega)), Option.bind_some, hc6, if_neg (nI_ge hi (by omega)), (hC.2.2.1 l hp).2.2.2.1, if_pos (nI_lt (by omega) (by decide)), chk_nI (by omega) (by omega), bnd_eq, nI_clamp (by omega), e1]; rfl
      · rw [fX11_thing, mLine_in hN (hG.fr F01 (by decide)) hp, Option.bind_some, if_neg (by decide), ln1217 (hl.fr F01), chk_nI (by omega) (by omega), nI_clamp (by omega), F01.aI (by decide), hs, inI_in hi (by omega), Option.bind_some, if_neg (by decide)]
        simp (disch := omega) only [L32, pk_mul, nI_add, ln1218 (hl.fr F01), chk_nI, bnd_eq, nI_clamp]
        rw [e2]; rfl
    · obtain ⟨M1, M2, m1, F1, m2, m3⟩ := meets_ok hA (f := 2) (by decide)
      refine ⟨-3, M1, M2, ?_, ?_, N, m3⟩
      · rw [fX10_thing, cLine_in hN hl hC hp, Option.bind_some, if_neg (by simp)]
        by_cases q : a2 < 0
        · rw [if_pos q, show fX10_meets 2 M = _ from m1]; rfl
        · rw [if_neg q, Option.bind_some, hc6, if_pos (h2.resolve_left q), show fX10_meets 2 M = _ from m1]; rfl
      · rw [fX11_thing, mLine_in hN (hG.fr F1 (by decide)) hp, Option.bind_some, if_neg (by decide), ln1217 (hl.fr F1), chk_nI (by omega) (by omega), nI_clamp (by omega), F1.aI (by decide), hs, inI_out (by omega) h2, Option.bind_some, if_pos rfl, show fX11_meets 2 M1 = _ from m2]; rfl
  · refine ⟨-1, M, M, ?_, ?_, N, hA⟩
    · rw [fX10_thing, cLine_out hC ha]; rfl
    · rw [fX11_thing, mLine_out hN hG ha]; rfl
theorem neg9_ne {r : Nat} (hr : r ≤ 12) : ¬ nI r < 0 ∧ ¬ (-9 : Int32) = nI r := ⟨nI_pos (by omega), fun e => by
  have := congrArg Int32.toInt e
  rw [nI_toInt (by omega), show (-9 : Int32).toInt = -9 by decide] at this
  omega⟩
theorem c5 : call5 Rel := by
  rintro a1 a2 v M ⟨N, hA⟩
  obtain ⟨⟨hN, hl, hG⟩, hC, hT, hV, hF, hR, hD, hO, hS, hk1, hk2, hk3⟩ := id hA
  have hb := hN.1
  rcases ix_cases a1 (n := nP N) (by omega) with ⟨p, hp, rfl⟩ | ha
  · have hd5 := (hG.2.1 p hp).1
    have h5 := (hN.2.1 p hp).1
    have hc1 := (hC.2.1 p hp).1.2.2.1
    by_cases hk : nD N p = 5
    · rcases (hC.2.1 p hp).2 with ⟨w1, w2⟩ | ⟨r, w1, w2, w3, w4, w5, w6, w7⟩
      · obtain ⟨M1, M2, m1, F1, m2, m3⟩ := meets_ok hA (f := 1) (by decide)
        refine ⟨-3, M1, M2, ?_, ?_, N, m3⟩
        · rw [fX10_row, cPart_in hN hl hC hp, Option.bind_some, if_neg (by simp), Option.bind_some, hc1, hk, if_pos (show nI 5 = (5 : Int32) from rfl), bnd_eq, w2, if_pos rfl, show fX10_meets 1 M = _ from m1]; rfl
        · rw [fX11_row, mPart_in hN (hG.fr F1 (by decide)) hp, Option.bind_some, if_neg (by decide), ln1203 (hl.fr F1), chk_nI (by omega) (by omega), nI_clamp (by omega), F1.aI (by decide), hd5, hk, if_pos (show nI 5 = (5 : Int32) from rfl), ln1206 (hl.fr F1), chk_nI (by omega) (by omega), F1.aI (by decide), w1, if_neg (by decide), show fX11_meets 1 M1 = _ from m2]; rfl
      · rcases ix_cases a2 (n := r) (by omega) with ⟨i, hi, rfl⟩ | h2
        · have F0 : Fr [809] M (sL M 809 p i v) := Fr.refl.wL (by decide)
          obtain ⟨M1, e1, F1, T1, z1⟩ := s_toFirst (M := sL M 809 p i v) hN (hl.fr F0) ((Cgs.of hC hV).fr F0 (by decide))
          have F01 : Fr [507, 809, 810, 905, 50008, 50009, 50011, 80007, 80008, 100001] M M1 := (F0.mono (by decide)).step F1 (by decide)
          have F2 : Fr [1207] M1 (sL M1 1207 0 (12 * p + i) v) := Fr.refl.wL (by decide)
          have F012 : Fr [507, 809, 810, 905, 1207, 50008, 50009, 50011, 80007, 80008, 100001] M (sL M1 1207 0 (12 * p + i) v) := (F01.mono (by decide)).step F2 (by decide)
          obtain ⟨M2, e2, F3, T2, z2⟩ := s_begins (M := sL M1 1207 0 (12 * p + i) v) hN (hl.fr F012) (hG.fr F012 (by decide))
          have FF : Fr [507, 809, 810, 905, 1207, 1208, 1209, 1219, 1220, 1221, 1222, 1223, 1230, 50008, 50009, 50011, 80007, 80008, 100001, 120025] M M2 := (F012.mono (by decide)).step F3 (by decide)
          have F23 : Fr [1207, 1208, 1209, 1219, 1220, 1221, 1222, 1223, 1230, 120025] M1 M2 := (F2.mono (by decide)).step F3 (by decide)
          have hG2 := hG.fr FF (by decide)
          have a5 : ∀ q j, mL M2 809 q j = if q = p ∧ j = i then v else mL M 809 q j := fun q j => by
            rw [F23.aL (by decide), F1.aL (by decide), mL_sL]; simp
          have a8 : ∀ j, mL M2 1207 0 j = if j = 12 * p + i then v else mL M 1207 0 j := fun j => by
            rw [F3.aL (by decide), mL_sL, F01.aL (by decide)]; simp
          have hC2 : Cg M2 M2 N := by
            refine ⟨by rw [FF.oI (by decide), FF.oI (by decide)]; exact hC.1, fun q hq => ⟨(hC.2.1 q hq).1.fr FF (by decide), ?_⟩, fun q hq => ⟨(hC.2.2.1 q hq).1.fr FF (by decide), (hC.2.2.1 q hq).2.fr FF (by decide)⟩, hC.2.2.2.fr FF⟩
            rcases (hC.2.1 q hq).2 with ⟨w1, w2⟩ | ⟨r', w1', w2', w3', w4', w5', w6', w7'⟩
            · exact Or.inl ⟨by rw [FF.aI (by decide)]; exact w1, by rw [FF.oR (by decide)]; exact w2⟩
            · refine Or.inr ⟨r', w1', w2', by rw [FF.aI (by decide)]; exact w3', by rw [FF.oR (by decide)]; exact w4', by rw [FF.n]; exact w5', by rw [FF.n]; exact w6', fun j hj => ?_⟩
              rw [a5, a8, w7' j hj]
              by_cases e : q = p ∧ j = i
              · rw [if_pos e, if_pos (by rw [e.1, e.2])]
              · rw [if_neg e, if_neg (fun h => e (by omega))]
          refine ⟨1, M1, M2, ?_, ?_, N, ⟨⟨hN, hl.fr FF, hG2⟩, hC2, hT.fr FF (by decide), Cv_new hN hG2 hC2 (T1.fr F23 (by decide)) T2, hF.fr FF (by decide), hR.fr FF (by decide), hD.fr FF (by decide), hO.fr FF (by decide), Cs_thr hS FF (by decide) (fun t ht => by rw [F23.aI (by decide)]; exact z1 t ht) z2, hk1.fr FF (by decide), hk2.fr FF (by decide), hk3.fr FF (by decide)⟩⟩
          · rw [fX10_row, cPart_in hN hl hC hp, Option.bind_some, if_neg (by simp), Option.bind_some, hc1, hk, if_pos (show nI 5 = (5 : Int32) from rfl), bnd_eq, w4, if_neg (by simp), if_neg (nI_pos (by omega)), bnd_eq, Option.bind_some, w5, if_pos (nI_lt hi (by omega)), bnd_eq, Option.bind_some, w5, chk_nI hi (by omega), bnd_eq, nI_clamp (by omega), e1]; rfl
          · rw [fX11_row, mPart_in hN (hG.fr F01 (by decide)) hp, Option.bind_some, if_neg (by decide), ln1203 (hl.fr F01), chk_nI (by omega) (by omega), nI_clamp (by omega), F01.aI (by decide), hd5, hk, if_pos (show nI 5 = (5 : Int32) from rfl), ln1206 (hl.fr F01), chk_nI (by omega) (by omega), F01.aI (by decide), w3, if_pos (nI_pos' (by omega)), chk_nI (by omega) (by omega), inI_in hi (by omega), Option.bind_some, if_neg (by decide)]
            simp (disch := omega) only [L32, pk_mul, nI_add, ln1207 (hl.fr F01), chk_nI, bnd_eq, nI_clamp]
            rw [e2]; rfl
        · obtain ⟨M1, M2, m1, F1, m2, m3⟩ := meets_ok hA (f := 2) (by decide)
          refine ⟨-3, M1, M2, ?_, ?_, N, m3⟩
          · rw [fX10_row, cPart_in hN hl hC hp, Option.bind_some, if_neg (by simp), Option.bind_some, hc1, hk, if_pos (show nI 5 = (5 : Int32) from rfl), bnd_eq, w4, if_neg (by simp)]
            by_cases q : a2 < 0
            · rw [if_pos q, show fX10_meets 2 M = _ from m1]; rfl
            · rw [if_neg q, bnd_eq, Option.bind_some, w5, if_neg (nlt_le (h2.resolve_left q)), show fX10_meets 2 M = _ from m1]; rfl
          · rw [fX11_row, mPart_in hN (hG.fr F1 (by decide)) hp, Option.bind_some, if_neg (by decide), ln1203 (hl.fr F1), chk_nI (by omega) (by omega), nI_clamp (by omega), F1.aI (by decide), hd5, hk, if_pos (show nI 5 = (5 : Int32) from rfl), ln1206 (hl.fr F1), chk_nI (by omega) (by omega), F1.aI (by decide), w3, if_pos (nI_pos' (by omega)), chk_nI (by omega) (by omega), inI_out (by omega) h2, Option.bind_some, if_pos rfl, show fX11_meets 2 M1 = _ from m2]; rfl
    · obtain ⟨M1, M2, m1, F1, m2, m3⟩ := meets_ok hA (f := 3) (by decide)
      have hk5 : ¬ nI (nD N p) = (5 : Int32) := fun e => hk ((nI_eq (b := 5) (by omega) (by decide)).mp e)
      refine ⟨-3, M1, M2, ?_, ?_, N, m3⟩
      · rw [fX10_row, cPart_in hN hl hC hp, Option.bind_some, if_neg (by simp), Option.bind_some, hc1, if_neg hk5, show fX10_meets 3 M = _ from m1]; rfl
      · rw [fX11_row, mPart_in hN (hG.fr F1 (by decide)) hp, Option.bind_some, if_neg (by decide), ln1203 (hl.fr F1), chk_nI (by omega) (by omega), nI_clamp (by omega), F1.aI (by decide), hd5, if_neg hk5, show fX11_meets 3 M1 = _ from m2]; rfl
  · refine ⟨-1, M, M, ?_, ?_, N, hA⟩
    · rw [fX10_row, cPart_out hC ha]; rfl
    · rw [fX11_row, mPart_out hN hG ha]; rfl
theorem c7 : call7 Rel := by
  rintro a1 M ⟨N, hA⟩
  obtain ⟨⟨hN, hl, hG⟩, hC, hT, hV, hF, hR, hD, hO, hS, hk1, hk2, hk3⟩ := id hA
  have hb := hN.1
  rcases ix_cases a1 (n := nP N) (by omega) with ⟨p, hp, rfl⟩ | ha
  · have hd5 := (hG.2.1 p hp).1
    have h5 := (hN.2.1 p hp).1
    have hc1 := (hC.2.1 p hp).1.2.2.1
    by_cases hk : nD N p = 5
    · rcases (hC.2.1 p hp).2 with ⟨w1, w2⟩ | ⟨r, w1, w2, w3, w4, w5, w6, w7⟩
      · obtain ⟨M1, M2, m1, F1, m2, m3⟩ := meets_ok hA (f := 1) (by decide)
        refine ⟨-3, M1, M2, ?_, ?_, N, m3⟩
        · rw [fX10_tear, cPart_in hN hl hC hp, Option.bind_some, if_neg (by simp), Option.bind_some, hc1, hk, if_pos (show nI 5 = (5 : Int32) from rfl), bnd_eq, w2, if_pos rfl, show fX10_meets 1 M = _ from m1]; rfl
        · rw [fX11_tear, mPart_in hN (hG.fr F1 (by decide)) hp, Option.bind_some, if_neg (by decide), ln1203 (hl.fr F1), chk_nI (by omega) (by omega), nI_clamp (by omega), F1.aI (by decide), hd5, hk, if_pos (show nI 5 = (5 : Int32) from rfl), ln1206 (hl.fr F1), chk_nI (by omega) (by omega), F1.aI (by decide), w1, if_neg (by decide), show fX11_meets 1 M1 = _ from m2]; rfl
      · have F0 : Fr [80009, 80010] M (sR (sR M 7 p 9 none) 7 p 10 none) := (Fr.refl.wRo (by decide)).wRo (by decide)
        have b9 : ∀ q, mR (sR (sR M 7 p 9 none) 7 p 10 none) 7 q 9 = if q = p then none else mR M 7 q 9 := fun q => by simp [mR_sR]
        have b10 : ∀ q, mR (sR (sR M 7 p 9 none) 7 p 10 none) 7 q 10 = if q = p then none else mR M 7 q 10 := fun q => by simp [mR_sR]
        have hgs := Cgs.of hC hV
        obtain ⟨M1, e1, F1, T1, z1⟩ := s_toFirst (M := sR (sR M 7 p 9 none) 7 p 10 none) (N := N) hN (hl.fr F0) (by
          refine ⟨by rw [F0.oI (by decide), F0.oI (by decide)]; exact hgs.1, fun q hq => ?_, fun q hq => ?_⟩
          · obtain ⟨g1, g2, g3⟩ := hgs.2.1 q hq
            rw [F0.aR (by decide), b9, b10, F0.n, F0.n]
            by_cases e : q = p
            · rw [if_pos e, if_pos e]; exact ⟨g1, rfl, Or.inl rfl⟩
            · rw [if_neg e, if_neg e]; exact ⟨g1, g2, g3⟩
          · rw [F0.aR (by decide), F0.oI (by decide), F0.n, F0.n]; exact hgs.2.2 q hq)
        have F01 : Fr [507, 810, 905, 50008, 50009, 50011, 80007, 80008, 80009, 80010, 100001] M M1 := (F0.mono (by decide)).step F1 (by decide)
        have F2 : Fr [1206] M1 (sI M1 1206 0 p (-9)) := Fr.refl.wI (by decide)
        have F012 : Fr [507, 810, 905, 1206, 50008, 50009, 50011, 80007, 80008, 80009, 80010, 100001] M (sI M1 1206 0 p (-9)) := (F01.mono (by decide)).step F2 (by decide)
        obtain ⟨M2, e2, F3, T2, z2⟩ := s_begins (M := sI M1 1206 0 p (-9)) hN (hl.fr F012) (hG.fr F012 (by decide))
        have FF : Fr [507, 810, 905, 1206, 1208, 1209, 1219, 1220, 1221, 1222, 1223, 1230, 50008, 50009, 50011, 80007, 80008, 80009, 80010, 100001, 120025] M M2 := (F012.mono (by decide)).step F3 (by decide)
        have F23 : Fr [1206, 1208, 1209, 1219, 1220, 1221, 1222, 1223, 1230, 120025] M1 M2 := (F2.mono (by decide)).step F3 (by decide)
        have hG2 := hG.fr FF (by decide)
        have a5 : ∀ q, mR M2 7 q 9 = if q = p then none else mR M 7 q 9 := fun q => by
          rw [F23.oR (by decide), F1.oR (by decide), b9]
        have a8 : ∀ j, mI M2 1206 0 j = if j = p then (-9) else mI M 1206 0 j := fun j => by
          rw [F3.aI (by decide), mI_sI, F01.aI (by decide)]; simp
        have hC2 : Cg M2 M2 N := by
          refine ⟨by rw [FF.oI (by decide), FF.oI (by decide)]; exact hC.1, fun q hq => ⟨(hC.2.1 q hq).1.fr FF (by decide), ?_⟩, fun q hq => ⟨(hC.2.2.1 q hq).1.fr FF (by decide), (hC.2.2.1 q hq).2.fr FF (by decide)⟩, hC.2.2.2.fr FF⟩
          unfold Cw
          rw [a5, a8]
          by_cases e : q = p
          · rw [if_pos e, if_pos e]; exact Or.inl ⟨rfl, rfl⟩
          · rw [if_neg e, if_neg e, FF.n, FF.n]
            simp only [FF.aL (k := 809) (by decide), FF.aL (k := 1207) (by decide)]
            exact (hC.2.1 q hq).2
        refine ⟨1, M1, M2, ?_, ?_, N, ⟨⟨hN, hl.fr FF, hG2⟩, hC2, hT.fr FF (by decide), Cv_new hN hG2 hC2 (T1.fr F23 (by decide)) T2, hF.fr FF (by decide), hR.fr FF (by decide), hD.fr FF (by decide), hO.fr FF (by decide), Cs_thr hS FF (by decide) (fun t ht => by rw [F23.aI (by decide)]; exact z1 t ht) z2, hk1.fr FF (by decide), hk2.fr FF (by decide), hk3.fr FF (by decide)⟩⟩
        · rw [fX10_tear, cPart_in hN hl hC hp, Option.bind_some, if_neg (by simp), Option.bind_some, hc1, hk, if_pos (show nI 5 = (5 : Int32) from rfl), bnd_eq, w4, if_neg (by simp), bnd_eq, bnd_eq, e1]; rfl
        · rw [fX11_tear, mPart_in hN (hG.fr F01 (by decide)) hp, Option.bind_some, if_neg (by decide), ln1203 (hl.fr F01), chk_nI (by omega) (by omega), nI_clamp (by omega), F01.aI (by decide), hd5, hk, if_pos (show nI 5 = (5 : Int32) from rfl), ln1206 (hl.fr F01), chk_nI (by omega) (by omega), F01.aI (by decide), w3, if_pos (nI_pos' (by omega)), chk_nI (by omega) (by omega), bnd_eq, e2]; rfl
    · obtain ⟨M1, M2, m1, F1, m2, m3⟩ := meets_ok hA (f := 3) (by decide)
      have hk5 : ¬ nI (nD N p) = (5 : Int32) := fun e => hk ((nI_eq (b := 5) (by omega) (by decide)).mp e)
      refine ⟨-3, M1, M2, ?_, ?_, N, m3⟩
      · rw [fX10_tear, cPart_in hN hl hC hp, Option.bind_some, if_neg (by simp), Option.bind_some, hc1, if_neg hk5, show fX10_meets 3 M = _ from m1]; rfl
      · rw [fX11_tear, mPart_in hN (hG.fr F1 (by decide)) hp, Option.bind_some, if_neg (by decide), ln1203 (hl.fr F1), chk_nI (by omega) (by omega), nI_clamp (by omega), F1.aI (by decide), hd5, if_neg hk5, show fX11_meets 3 M1 = _ from m2]; rfl
  · refine ⟨-1, M, M, ?_, ?_, N, hA⟩
    · rw [fX10_tear, cPart_out hC ha]; rfl
    · rw [fX11_tear, mPart_out hN hG ha]; rfl
