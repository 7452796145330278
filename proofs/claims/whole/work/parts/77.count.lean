/-! count -/
theorem c2_g (a1 a3 a4 : Int32) (M : tM) (hA0 : Rel M) : ∃ v M1 M2, fX10_count a1 0 a3 a4 M = some (v, M1) ∧ fX11_count a1 0 a3 a4 M1 = some (v, M2) ∧ Rel M2 := by
  obtain ⟨N, hA⟩ := hA0
  obtain ⟨⟨hN, hl, hG⟩, hC, hT, hV, hF, hR, hD, hO, hS, hk1, hk2, hk3⟩ := id hA
  have hb := hN.1
  rcases ix_cases a1 (n := nL N) (by omega) with ⟨l, hp, rfl⟩ | ha
  · have hcl := hC.2.2.1 l hp
    have hE := (hN.2.2.1 l hp).1
    have hgE := (hG.2.2.1 l hp).1
    have hph := hN.2.1 _ hE
    have hgk := hG.2.1 _ hE
    have hck := (hC.2.1 _ hE).1
    rcases ix_cases a4 (n := 50 + 1) (by decide) with ⟨n, hn, rfl⟩ | h4
    · by_cases hk : nD N (nF N l) = 4
      · rcases ix_cases a3 (n := nH N (nF N l)) (by omega) with ⟨a, ha, rfl⟩ | h3
        · have hN2 : NOK (setG N l a n) := ⟨hN.1, hN.2.1, hN.2.2.1, fun q i hq hi => by
            obtain ⟨b1, b2, b3, b4⟩ := hN.2.2.2 q i hq hi
            refine ⟨?_, b2, ?_, b4⟩
            · show (if q = l ∧ i = a then n else nG N q i) ≤ 50
              split <;> omega
            · intro hne
              show 1 ≤ (if q = l ∧ i = a then n else nG N q i)
              split
              · rename_i e; exact absurd (show nD N (nF N q) = 4 by rw [e.1]; exact hk) hne
              · exact b3 hne⟩
          have hgs := Cgs.of hC hV
          have Fb : Fr [503] M (sI M 503 l a (nI n)) := Fr.refl.wI (by decide)
          obtain ⟨M1, e1, F1, T1, z1, g1⟩ := s_gChanged (M := sI M 503 l a (nI n)) (N := setG N l a n) hN2 (hl.fr Fb) (hgs.fr Fb (by decide))
          have F01 : Fr [503, 507, 810, 905, 10003, 20006, 30003, 30005, 50008, 50009, 50011, 70007, 80007, 80008, 90003, 100001] M M1 := (Fb.mono (by decide)).step F1 (by decide)
          have Fd : Fr [1215] M1 (sI M1 1215 0 (4 * l + a) (nI n)) := Fr.refl.wI (by decide)
          have F0d : Fr [503, 507, 810, 905, 1215, 10003, 20006, 30003, 30005, 50008, 50009, 50011, 70007, 80007, 80008, 90003, 100001] M (sI M1 1215 0 (4 * l + a) (nI n)) := (F01.mono (by decide)).step Fd (by decide)
          have d15 : ∀ j, mI (sI M1 1215 0 (4 * l + a) (nI n)) 1215 0 j = if j = 4 * l + a then nI n else mI M 1215 0 j := fun j => by
            rw [mI_sI, F01.aI (by decide)]; simp
          have hGd : Gr (sI M1 1215 0 (4 * l + a) (nI n)) (setG N l a n) := by
            refine ⟨by rw [F0d.oI (by decide), F0d.oI (by decide)]; exact hG.1, fun q hq => by rw [F0d.aI (by decide), F0d.aI (by decide)]; exact hG.2.1 q hq, fun q hq => by rw [F0d.aI (by decide), F0d.aI (by decide), F0d.aI (by decide)]; exact hG.2.2.1 q hq, fun q i hq hi => ?_⟩
            obtain ⟨s1, s2⟩ := hG.2.2.2 q i hq hi
            refine ⟨?_, by rw [F0d.aI (by decide)]; exact s2⟩
            rw [d15]
            show _ = nI (if q = l ∧ i = a then n else nG N q i)
            by_cases e : q = l ∧ i = a
            · rw [if_pos e, if_pos (by rw [e.1, e.2])]
            · rw [if_neg e, if_neg (fun h => e (by omega))]; exact s1
          obtain ⟨M2, e2, F3, T2, z2, g2⟩ := s_changes (M := sI M1 1215 0 (4 * l + a) (nI n)) hN2 (hl.fr F0d) hGd
          have FF : Fr [503, 507, 810, 905, 1208, 1209, 1215, 1219, 1220, 1221, 1222, 1223, 1230, 10003, 20006, 30003, 30005, 50008, 50009, 50011, 70007, 80007, 80008, 90003, 100001, 120025, 120043, 120060] M M2 := (F0d.mono (by decide)).step F3 (by decide)
          have F23 : Fr [1208, 1209, 1215, 1219, 1220, 1221, 1222, 1223, 1230, 120025, 120043, 120060] M1 M2 := (Fd.mono (by decide)).step F3 (by decide)
          have hG2 := hGd.fr F3 (by decide)
          have a3 : ∀ q j, mI M2 503 q j = if q = l ∧ j = a then nI n else mI M 503 q j := fun q j => by
            rw [F23.aI (by decide), F1.aI (by decide), mI_sI]; simp
          have hC2 : Cg M2 M2 (setG N l a n) := by
            refine ⟨by rw [FF.oI (by decide), FF.oI (by decide)]; exact hC.1, fun q hq => ⟨(hC.2.1 q hq).1.fr FF (by decide), (hC.2.1 q hq).2.fr FF (by decide)⟩, fun q hq => ⟨(hC.2.2.1 q hq).1.fr FF (by decide), ?_⟩, hC.2.2.2.fr FF⟩
            obtain ⟨n1, n2, n3, n4, n5, n6, n7, n8⟩ := (hC.2.2.1 q hq).2
            refine ⟨by rw [FF.n]; exact n1, by rw [FF.n]; exact n2, by rw [FF.n]; exact n3, by rw [FF.n]; exact n4, by rw [FF.n]; exact n5, fun j hj => ?_, fun j hj => by rw [FF.aI (by decide)]; exact n7 j hj, fun j hj => by rw [FF.aL (by decide), FF.aL (by decide)]; exact n8 j hj⟩
            rw [a3]
            show _ = nI (if q = l ∧ j = a then n else nG N q j)
            split
            · rfl
            · exact n6 j hj
          refine ⟨nI (nG N l a), M1, M2, ?_, ?_, setG N l a n, Al_reset hN2 (hl.fr FF) hG2 hC2 (hT.fr FF (by decide)) (T1.fr F23 (by decide)) T2 (fun t ht => by rw [F23.aI (by decide)]; exact z1 t ht) z2 ?_ g2 (hF.fr FF (by decide)) (hR.fr FF (by decide)) ((hD.fr FF (by decide)).toN rfl)⟩
          · rw [fX10_count, cLine_in hN hl hC hp, Option.bind_some, if_neg (by simp), if_neg (nI_pos (by omega)), if_pos (show nI n ≤ (50 : Int32) from nI_le (b := 50) (by omega) (by decide)), if_pos rfl, Option.bind_some, bnd_eq, hcl.1.2.2.1, Option.bind_some]
            dsimp only
            rw [Option.bind_some, hck.2.2.1, hk, if_pos (show nI 4 = (4 : Int32) from rfl), if_pos rfl, Option.bind_some, Option.bind_some]
            dsimp only
            rw [if_neg (nI_pos (by omega)), chk_tr (show decide (tO 503 = none) = true from rfl), chk_tr (show (!tRO 503) = true from rfl), hcl.2.1, if_pos (nI_lt ha (by omega)), chk_tr (show tIsI 503 = true from rfl), chk_nI ha (by omega), bnd_eq, chk_tr (show tIsI 503 = true from rfl), chk_nI ha (by omega), bnd_eq, nI_clamp (by omega), hcl.2.2.2.2.2.2.1 a ha, e1]; rfl
          · rw [fX11_count, mLine_in hN (hG.fr F01 (by decide)) hp, Option.bind_some, if_neg (by decide), (in_nI (b := 50) (n := 50) rfl (show n ≤ 50 by omega) (by decide)).1, Option.bind_some, if_neg (by decide), if_pos rfl, ln1213 (hl.fr F01), chk_nI (by omega) (by omega), nI_clamp (by omega), F01.aI (by decide), hgE, Option.bind_some, ln1203 (hl.fr F01), chk_nI (by omega) (by omega), nI_clamp (by omega), F01.aI (by decide), hgk.1, hk, if_pos (show nI 4 = (4 : Int32) from rfl), ln1205 (hl.fr F01), chk_nI (by omega) (by omega), F01.aI (by decide), hgk.2, inI_in ha (by omega), Option.bind_some, if_neg (by decide), if_pos rfl]
            simp (disch := omega) only [L32, pk_mul, nI_add, ln1215 (hl.fr F01), chk_nI, nI_clamp, Option.bind_some, bnd_eq]
            rw [F01.aI (by decide), (hG.2.2.2 l a hp (by omega)).1, if_pos trivial, Option.bind_some, e2]; rfl
          · rw [F23.oI (by decide), F23.oI (by decide), F23.oI (by decide), F23.oI (by decide), F23.oI (by decide), F23.oI (by decide)]; exact g1
        · obtain ⟨M1, M2, m1, F1, m2, m3⟩ := meets_ok hA (f := 2) (by decide)
          refine ⟨-3, M1, M2, ?_, ?_, N, m3⟩
          · rw [fX10_count, cLine_in hN hl hC hp, Option.bind_some, if_neg (by simp), if_neg (nI_pos (by omega)), if_pos (show nI n ≤ (50 : Int32) from nI_le (b := 50) (by omega) (by decide)), if_pos rfl, Option.bind_some, bnd_eq, hcl.1.2.2.1, Option.bind_some]
            dsimp only
            rw [Option.bind_some, hck.2.2.1, hk, if_pos (show nI 4 = (4 : Int32) from rfl), if_pos rfl, Option.bind_some, Option.bind_some]
            dsimp only
            by_cases q : a3 < 0
            · rw [if_pos q, show fX10_meets 2 M = _ from m1]; rfl
            · rw [if_neg q, chk_tr (show decide (tO 503 = none) = true from rfl), chk_tr (show (!tRO 503) = true from rfl), hcl.2.1, if_neg (nlt_le (h3.resolve_left q)), show fX10_meets 2 M = _ from m1]; rfl
          · rw [fX11_count, mLine_in hN (hG.fr F1 (by decide)) hp, Option.bind_some, if_neg (by decide), (in_nI (b := 50) (n := 50) rfl (show n ≤ 50 by omega) (by decide)).1, Option.bind_some, if_neg (by decide), if_pos rfl, ln1213 (hl.fr F1), chk_nI (by omega) (by omega), nI_clamp (by omega), F1.aI (by decide), hgE, Option.bind_some, ln1203 (hl.fr F1), chk_nI (by omega) (by omega), nI_clamp (by omega), F1.aI (by decide), hgk.1, hk, if_pos (show nI 4 = (4 : Int32) from rfl), ln1205 (hl.fr F1), chk_nI (by omega) (by omega), F1.aI (by decide), hgk.2, inI_out (by omega) h3, Option.bind_some, if_pos rfl, show fX11_meets 2 M1 = _ from m2]; rfl
      · obtain ⟨M1, M2, m1, F1, m2, m3⟩ := meets_ok hA (f := 3) (by decide)
        have hk4 : ¬ nI (nD N (nF N l)) = (4 : Int32) := fun e => hk ((nI_eq (b := 4) (by omega) (by decide)).mp e)
        refine ⟨-3, M1, M2, ?_, ?_, N, m3⟩
        · rw [fX10_count, cLine_in hN hl hC hp, Option.bind_some, if_neg (by simp), if_neg (nI_pos (by omega)), if_pos (show nI n ≤ (50 : Int32) from nI_le (b := 50) (by omega) (by decide)), if_pos rfl, Option.bind_some, bnd_eq, hcl.1.2.2.1, Option.bind_some]
          dsimp only
          rw [Option.bind_some, hck.2.2.1, if_neg hk4, show fX10_meets 3 M = _ from m1]; rfl
        · rw [fX11_count, mLine_in hN (hG.fr F1 (by decide)) hp, Option.bind_some, if_neg (by decide), (in_nI (b := 50) (n := 50) rfl (show n ≤ 50 by omega) (by decide)).1, Option.bind_some, if_neg (by decide), if_pos rfl, ln1213 (hl.fr F1), chk_nI (by omega) (by omega), nI_clamp (by omega), F1.aI (by decide), hgE, Option.bind_some, ln1203 (hl.fr F1), chk_nI (by omega) (by omega), nI_clamp (by omega), F1.aI (by decide), hgk.1, if_neg hk4, show fX11_meets 3 M1 = _ from m2]; rfl
    · obtain ⟨i1, i2⟩ := out_nI (M := M) (b := 50) (n := 50) rfl (by decide) h4
      refine ⟨-1, M, M, ?_, ?_, N, hA⟩
      · rw [fX10_count, cLine_in hN hl hC hp, Option.bind_some, if_neg (by simp)]
        by_cases q : a4 < 0
        · rw [if_pos q]
        · rw [if_neg q, if_neg (i2.resolve_left q)]
      · rw [fX11_count, mLine_in hN hG hp, Option.bind_some, if_neg (by decide), i1]; rfl
  · refine ⟨-1, M, M, ?_, ?_, N, hA⟩
    · rw [fX10_count, cLine_out hC ha]; rfl
    · rw [fX11_count, mLine_out hN hG ha]; rfl
theorem c2_t (a1 a3 a4 : Int32) (M : tM) (hA0 : Rel M) : ∃ v M1 M2, fX10_count a1 1 a3 a4 M = some (v, M1) ∧ fX11_count a1 1 a3 a4 M1 = some (v, M2) ∧ Rel M2 := by
  obtain ⟨N, hA⟩ := hA0
  obtain ⟨⟨hN, hl, hG⟩, hC, hT, hV, hF, hR, hD, hO, hS, hk1, hk2, hk3⟩ := id hA
  have hb := hN.1
  rcases ix_cases a1 (n := nL N) (by omega) with ⟨l, hp, rfl⟩ | ha
  · have hcl := hC.2.2.1 l hp
    have hE := (hN.2.2.1 l hp).2.1
    have hgE := (hG.2.2.1 l hp).2.1
    have hph := hN.2.1 _ hE
    have hgk := hG.2.1 _ hE
    have hck := (hC.2.1 _ hE).1
    rcases ix_cases a4 (n := 50 + 1) (by decide) with ⟨n, hn, rfl⟩ | h4
    · by_cases hk : nD N (nT N l) = 4
      · rcases ix_cases a3 (n := nH N (nT N l)) (by omega) with ⟨a, ha, rfl⟩ | h3
        · have hN2 : NOK (setK N l a n) := ⟨hN.1, hN.2.1, hN.2.2.1, fun q i hq hi => by
            obtain ⟨b1, b2, b3, b4⟩ := hN.2.2.2 q i hq hi
            refine ⟨b1, ?_, b3, ?_⟩
            · show (if q = l ∧ i = a then n else nK N q i) ≤ 50
              split <;> omega
            · intro hne
              show 1 ≤ (if q = l ∧ i = a then n else nK N q i)
              split
              · rename_i e; exact absurd (show nD N (nT N q) = 4 by rw [e.1]; exact hk) hne
              · exact b4 hne⟩
          have hgs := Cgs.of hC hV
          have Fb : Fr [504] M (sI M 504 l a (nI n)) := Fr.refl.wI (by decide)
          obtain ⟨M1, e1, F1, T1, z1, g1⟩ := s_gChanged (M := sI M 504 l a (nI n)) (N := setK N l a n) hN2 (hl.fr Fb) (hgs.fr Fb (by decide))
          have F01 : Fr [504, 507, 810, 905, 10003, 20006, 30003, 30005, 50008, 50009, 50011, 70007, 80007, 80008, 90003, 100001] M M1 := (Fb.mono (by decide)).step F1 (by decide)
          have Fd : Fr [1216] M1 (sI M1 1216 0 (4 * l + a) (nI n)) := Fr.refl.wI (by decide)
          have F0d : Fr [504, 507, 810, 905, 1216, 10003, 20006, 30003, 30005, 50008, 50009, 50011, 70007, 80007, 80008, 90003, 100001] M (sI M1 1216 0 (4 * l + a) (nI n)) := (F01.mono (by decide)).step Fd (by decide)
          have d15 : ∀ j, mI (sI M1 1216 0 (4 * l + a) (nI n)) 1216 0 j = if j = 4 * l + a then nI n else mI M 1216 0 j := fun j => by
            rw [mI_sI, F01.aI (by decide)]; simp
          have hGd : Gr (sI M1 1216 0 (4 * l + a) (nI n)) (setK N l a n) := by
            refine ⟨by rw [F0d.oI (by decide), F0d.oI (by decide)]; exact hG.1, fun q hq => by rw [F0d.aI (by decide), F0d.aI (by decide)]; exact hG.2.1 q hq, fun q hq => by rw [F0d.aI (by decide), F0d.aI (by decide), F0d.aI (by decide)]; exact hG.2.2.1 q hq, fun q i hq hi => ?_⟩
            obtain ⟨s1, s2⟩ := hG.2.2.2 q i hq hi
            refine ⟨by rw [F0d.aI (by decide)]; exact s1, ?_⟩
            rw [d15]
            show _ = nI (if q = l ∧ i = a then n else nK N q i)
            by_cases e : q = l ∧ i = a
            · rw [if_pos e, if_pos (by rw [e.1, e.2])]
            · rw [if_neg e, if_neg (fun h => e (by omega))]; exact s2
          obtain ⟨M2, e2, F3, T2, z2, g2⟩ := s_changes (M := sI M1 1216 0 (4 * l + a) (nI n)) hN2 (hl.fr F0d) hGd
          have FF : Fr [504, 507, 810, 905, 1208, 1209, 1216, 1219, 1220, 1221, 1222, 1223, 1230, 10003, 20006, 30003, 30005, 50008, 50009, 50011, 70007, 80007, 80008, 90003, 100001, 120025, 120043, 120060] M M2 := (F0d.mono (by decide)).step F3 (by decide)
          have F23 : Fr [1208, 1209, 1216, 1219, 1220, 1221, 1222, 1223, 1230, 120025, 120043, 120060] M1 M2 := (Fd.mono (by decide)).step F3 (by decide)
          have hG2 := hGd.fr F3 (by decide)
          have a3 : ∀ q j, mI M2 504 q j = if q = l ∧ j = a then nI n else mI M 504 q j := fun q j => by
            rw [F23.aI (by decide), F1.aI (by decide), mI_sI]; simp
          have hC2 : Cg M2 M2 (setK N l a n) := by
            refine ⟨by rw [FF.oI (by decide), FF.oI (by decide)]; exact hC.1, fun q hq => ⟨(hC.2.1 q hq).1.fr FF (by decide), (hC.2.1 q hq).2.fr FF (by decide)⟩, fun q hq => ⟨(hC.2.2.1 q hq).1.fr FF (by decide), ?_⟩, hC.2.2.2.fr FF⟩
            obtain ⟨n1, n2, n3, n4, n5, n6, n7, n8⟩ := (hC.2.2.1 q hq).2
            refine ⟨by rw [FF.n]; exact n1, by rw [FF.n]; exact n2, by rw [FF.n]; exact n3, by rw [FF.n]; exact n4, by rw [FF.n]; exact n5, fun j hj => by rw [FF.aI (by decide)]; exact n6 j hj, fun j hj => ?_, fun j hj => by rw [FF.aL (by decide), FF.aL (by decide)]; exact n8 j hj⟩
            rw [a3]
            show _ = nI (if q = l ∧ j = a then n else nK N q j)
            split
            · rfl
            · exact n7 j hj
          refine ⟨nI (nK N l a), M1, M2, ?_, ?_, setK N l a n, Al_reset hN2 (hl.fr FF) hG2 hC2 (hT.fr FF (by decide)) (T1.fr F23 (by decide)) T2 (fun t ht => by rw [F23.aI (by decide)]; exact z1 t ht) z2 ?_ g2 (hF.fr FF (by decide)) (hR.fr FF (by decide)) ((hD.fr FF (by decide)).toN rfl)⟩
          · rw [fX10_count, cLine_in hN hl hC hp, Option.bind_some, if_neg (by simp), if_neg (nI_pos (by omega)), if_pos (show nI n ≤ (50 : Int32) from nI_le (b := 50) (by omega) (by decide)), if_neg (by decide), Option.bind_some, bnd_eq, hcl.1.2.2.2.1, Option.bind_some]
            dsimp only
            rw [Option.bind_some, hck.2.2.1, hk, if_pos (show nI 4 = (4 : Int32) from rfl), if_neg (by decide), Option.bind_some, Option.bind_some]
            dsimp only
            rw [if_neg (nI_pos (by omega)), chk_tr (show decide (tO 504 = none) = true from rfl), chk_tr (show (!tRO 504) = true from rfl), hcl.2.2.1, if_pos (nI_lt ha (by omega)), chk_tr (show tIsI 504 = true from rfl), chk_nI ha (by omega), bnd_eq, chk_tr (show tIsI 504 = true from rfl), chk_nI ha (by omega), bnd_eq, nI_clamp (by omega), hcl.2.2.2.2.2.2.2.1 a ha, e1]; rfl
          · rw [fX11_count, mLine_in hN (hG.fr F01 (by decide)) hp, Option.bind_some, if_neg (by decide), (in_nI (b := 50) (n := 50) rfl (show n ≤ 50 by omega) (by decide)).1, Option.bind_some, if_neg (by decide), if_neg (by decide), ln1214 (hl.fr F01), chk_nI (by omega) (by omega), nI_clamp (by omega), F01.aI (by decide), hgE, Option.bind_some, ln1203 (hl.fr F01), chk_nI (by omega) (by omega), nI_clamp (by omega), F01.aI (by decide), hgk.1, hk, if_pos (show nI 4 = (4 : Int32) from rfl), ln1205 (hl.fr F01), chk_nI (by omega) (by omega), F01.aI (by decide), hgk.2, inI_in ha (by omega), Option.bind_some, if_neg (by decide), if_neg (by decide)]
            simp (disch := omega) only [L32, pk_mul, nI_add, ln1216 (hl.fr F01), chk_nI, nI_clamp, Option.bind_some, bnd_eq]
            rw [F01.aI (by decide), (hG.2.2.2 l a hp (by omega)).2, if_neg (by decide), Option.bind_some, e2]; rfl
          · rw [F23.oI (by decide), F23.oI (by decide), F23.oI (by decide), F23.oI (by decide), F23.oI (by decide), F23.oI (by decide)]; exact g1
        · obtain ⟨M1, M2, m1, F1, m2, m3⟩ := meets_ok hA (f := 2) (by decide)
          refine ⟨-3, M1, M2, ?_, ?_, N, m3⟩
          · rw [fX10_count, cLine_in hN hl hC hp, Option.bind_some, if_neg (by simp), if_neg (nI_pos (by omega)), if_pos (show nI n ≤ (50 : Int32) from nI_le (b := 50) (by omega) (by decide)), if_neg (by decide), Option.bind_some, bnd_eq, hcl.1.2.2.2.1, Option.bind_some]
            dsimp only
            rw [Option.bind_some, hck.2.2.1, hk, if_pos (show nI 4 = (4 : Int32) from rfl), if_neg (by decide), Option.bind_some, Option.bind_some]
            dsimp only
            by_cases q : a3 < 0
            · rw [if_pos q, show fX10_meets 2 M = _ from m1]; rfl
            · rw [if_neg q, chk_tr (show decide (tO 504 = none) = true from rfl), chk_tr (show (!tRO 504) = true from rfl), hcl.2.2.1, if_neg (nlt_le (h3.resolve_left q)), show fX10_meets 2 M = _ from m1]; rfl
          · rw [fX11_count, mLine_in hN (hG.fr F1 (by decide)) hp, Option.bind_some, if_neg (by decide), (in_nI (b := 50) (n := 50) rfl (show n ≤ 50 by omega) (by decide)).1, Option.bind_some, if_neg (by decide), if_neg (by decide), ln1214 (hl.fr F1), chk_nI (by omega) (by omega), nI_clamp (by omega), F1.aI (by decide), hgE, Option.bind_some, ln1203 (hl.fr F1), chk_nI (by omega) (by omega), nI_clamp (by omega), F1.aI (by decide), hgk.1, hk, if_pos (show nI 4 = (4 : Int32) from rfl), ln1205 (hl.fr F1), chk_nI (by omega) (by omega), F1.aI (by decide), hgk.2, inI_out (by omega) h3, Option.bind_some, if_pos rfl, show fX11_meets 2 M1 = _ from m2]; rfl
      · obtain ⟨M1, M2, m1, F1, m2, m3⟩ := meets_ok hA (f := 3) (by decide)
        have hk4 : ¬ nI (nD N (nT N l)) = (4 : Int32) := fun e => hk ((nI_eq (b := 4) (by omega) (by decide)).mp e)
        refine ⟨-3, M1, M2, ?_, ?_, N, m3⟩
        · rw [fX10_count, cLine_in hN hl hC hp, Option.bind_some, if_neg (by simp), if_neg (nI_pos (by omega)), if_pos (show nI n ≤ (50 : Int32) from nI_le (b := 50) (by omega) (by decide)), if_neg (by decide), Option.bind_some, bnd_eq, hcl.1.2.2.2.1, Option.bind_some]
          dsimp only
          rw [Option.bind_some, hck.2.2.1, if_neg hk4, show fX10_meets 3 M = _ from m1]; rfl
        · rw [fX11_count, mLine_in hN (hG.fr F1 (by decide)) hp, Option.bind_some, if_neg (by decide), (in_nI (b := 50) (n := 50) rfl (show n ≤ 50 by omega) (by decide)).1, Option.bind_some, if_neg (by decide), if_neg (by decide), ln1214 (hl.fr F1), chk_nI (by omega) (by omega), nI_clamp (by omega), F1.aI (by decide), hgE, Option.bind_some, ln1203 (hl.fr F1), chk_nI (by omega) (by omega), nI_clamp (by omega), F1.aI (by decide), hgk.1, if_neg hk4, show fX11_meets 3 M1 = _ from m2]; rfl
    · obtain ⟨i1, i2⟩ := out_nI (M := M) (b := 50) (n := 50) rfl (by decide) h4
      refine ⟨-1, M, M, ?_, ?_, N, hA⟩
      · rw [fX10_count, cLine_in hN hl hC hp, Option.bind_some, if_neg (by simp)]
        by_cases q : a4 < 0
        · rw [if_pos q]
        · rw [if_neg q, if_neg (i2.resolve_left q)]
      · rw [fX11_count, mLine_in hN hG hp, Option.bind_some, if_neg (by decide), i1]; rfl
  · refine ⟨-1, M, M, ?_, ?_, N, hA⟩
    · rw [fX10_count, cLine_out hC ha]; rfl
    · rw [fX11_count, mLine_out hN hG ha]; rfl
theorem c2 : call2 Rel := by
  intro a1 a2 a3 a4 M h2 hR
  rcases h2 with rfl | rfl
  · exact c2_g a1 a3 a4 M hR
  · exact c2_t a1 a3 a4 M hR
