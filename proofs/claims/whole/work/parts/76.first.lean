/-! first, count -/
def setS (N : NG) (l n : Nat) : NG := (N.1, N.2.1, N.2.2.1, N.2.2.2.1, N.2.2.2.2.1, N.2.2.2.2.2.1, N.2.2.2.2.2.2.1, N.2.2.2.2.2.2.2.1, fun q => if q = l then n else nS N q)
def setG (N : NG) (l a n : Nat) : NG := (N.1, N.2.1, N.2.2.1, N.2.2.2.1, (fun q i => if q = l ∧ i = a then n else nG N q i), N.2.2.2.2.2.1, N.2.2.2.2.2.2.1, N.2.2.2.2.2.2.2.1, N.2.2.2.2.2.2.2.2)
def setK (N : NG) (l a n : Nat) : NG := (N.1, N.2.1, N.2.2.1, N.2.2.2.1, N.2.2.2.2.1, (fun q i => if q = l ∧ i = a then n else nK N q i), N.2.2.2.2.2.2.1, N.2.2.2.2.2.2.2.1, N.2.2.2.2.2.2.2.2)
theorem s_fillL {M : tM} {k i n : Nat} {v : Int64} (hk : tO k = none) (hr : tRO k = false) (hi : tIsL k = true) (hn : mN M k i = n) (h2 : n < 1000000000) : Ok (fJ7_fill_d0a16 k i v M) (fun M' => Fr [k] M M' ∧ (∀ j, j < n → mL M' k i j = v) ∧ ∀ q, ¬ q = i → ∀ j, mL M' k q j = mL M k q j) := by
  rw [fJ7_fill_d0a16, chk_tr (by rw [hk]; rfl), chk_tr (by rw [hr]; rfl), bnd_eq, hn]
  refine ok_call (loop0 (fun m j s => fJ7_fill_d0a16_l6 k i v (nI n) m j s) n (fun j s => Fr [k] M s ∧ (∀ j', j' < j → mL s k i j' = v) ∧ ∀ q, ¬ q = i → ∀ j, mL s k q j = mL M k q j) _ h2 ?_ ?_ M ⟨Fr.refl, fun j' h => by omega, fun _ _ _ => rfl⟩) (fun a h => ok_some h)
  · intro m s h
    rw [fJ7_fill_d0a16_l6, if_pos (nI_le (Nat.le_refl _) (by omega))]
    exact ok_some h
  · intro m j s hj h kk
    rw [fJ7_fill_d0a16_l6, if_neg (nI_ge hj (by omega)), chk_tr hi, h.1.n, hn, chk_nI hj (by omega), bnd_eq, bnd_eq, nI_clamp (by omega), nI_1]
    refine kk _ ⟨h.1.wL (by simp), fun j' hj' => ?_, fun q hq j' => ?_⟩
    · rw [mL_sL]
      split
      · rfl
      · exact h.2.1 j' (by omega)
    · rw [mL_sL, if_neg (fun e => hq e.2.1)]
      exact h.2.2 q hq j'
theorem s_f29 {M : tM} {l : Nat} {a : Int32} (hl : Len M) (hp : l < 20) : Ok (fX11_first_l29 (nI l) a FU 0 M) (fun M' => Fr [1218] M M' ∧ (∀ j, j < 60 → mL M' 1218 0 (60 * l + j) = 0) ∧ ∀ j, (j < 60 * l ∨ 60 * l + 60 ≤ j) → mL M' 1218 0 j = mL M 1218 0 j) := by
  refine loop0 (fun n i s => fX11_first_l29 (nI l) a n i s) 60 (fun i s => Fr [1218] M s ∧ (∀ j, j < i → mL s 1218 0 (60 * l + j) = 0) ∧ ∀ j, (j < 60 * l ∨ 60 * l + 60 ≤ j) → mL s 1218 0 j = mL M 1218 0 j) _ (by omega) ?_ ?_ _ ⟨Fr.refl, fun j hj => by omega, fun _ _ => rfl⟩
  · intro n s h
    rw [fX11_first_l29, if_pos (show (60 : Int32) ≤ nI 60 from nI_le (Nat.le_refl 60) (by omega))]
    exact ok_some h
  · intro n i s hi h kk
    rw [fX11_first_l29, if_neg (show ¬ (60 : Int32) ≤ nI i from nI_ge (b := 60) hi (by decide))]
    simp (disch := omega) only [L32, nI_add, pk_mul, h.1.n, ln1218 hl, chk_nI, bnd_eq, nI_clamp]
    refine kk _ ⟨h.1.wL (by decide), fun j hj => ?_, fun j hj => ?_⟩
    · rw [mL_sL]
      split
      · rfl
      · exact h.2.1 j (by omega)
    · rw [mL_sL, if_neg (by omega)]
      exact h.2.2 j hj
theorem Cd.toN {M X : tM} {N N' : NG} (h : Cd M X N) (hn : nP N' = nP N) : Cd M X N' := by unfold Cd at h ⊢; rw [hn]; exact h
theorem c3 : call3 Rel := by
  rintro a1 a2 M ⟨N, hA⟩
  obtain ⟨⟨hN, hl, hG⟩, hC, hT, hV, hF, hR, hD, hO, hS, hk1, hk2, hk3⟩ := id hA
  have hb := hN.1
  rcases ix_cases a1 (n := nL N) (by omega) with ⟨l, hp, rfl⟩ | ha
  · rcases ix_cases a2 (n := 60 + 1) (by decide) with ⟨n, hn, rfl⟩ | h2
    · have hN2 : NOK (setS N l n) := ⟨hN.1, hN.2.1, fun q hq => ⟨(hN.2.2.1 q hq).1, (hN.2.2.1 q hq).2.1, by
        show (if q = l then n else nS N q) ≤ 60
        split
        · omega
        · exact (hN.2.2.1 q hq).2.2⟩, hN.2.2.2⟩
      have hgs := Cgs.of hC hV
      obtain ⟨Ma, ea, Fa, va, oa⟩ := s_fillL (M := M) (k := 505) (i := l) (n := 60) (v := 0) rfl rfl rfl (hC.2.2.1 l hp).2.2.2.1 (by decide)
      have Fb : Fr [505, 50006] M (sI Ma 4 l 6 (nI n)) := (Fa.mono (by decide)).wIo (by decide)
      have b6 : ∀ q, mI (sI Ma 4 l 6 (nI n)) 4 q 6 = if q = l then nI n else mI M 4 q 6 := fun q => by
        rw [mI_sI, Fa.oI (by decide)]; simp
      obtain ⟨M1, e1, F1, T1, z1, g1⟩ := s_gChanged (M := sI Ma 4 l 6 (nI n)) (N := setS N l n) hN2 (hl.fr Fb) (by
        refine ⟨by rw [Fb.oI (by decide), Fb.oI (by decide)]; exact hgs.1, fun q hq => ?_, fun q hq => ?_⟩
        · rw [Fb.aR (by decide), Fb.oR (by decide), Fb.oR (by decide), Fb.n, Fb.n]; exact hgs.2.1 q hq
        · obtain ⟨s1, s2, s3, s4⟩ := hgs.2.2 q hq
          rw [Fb.aR (by decide), b6, Fb.n, Fb.n]
          refine ⟨s1, ?_, s3, s4⟩
          show _ = nI (if q = l then n else nS N q)
          split
          · rfl
          · exact s2)
      have F01 : Fr [505, 507, 810, 905, 10003, 20006, 30003, 30005, 50006, 50008, 50009, 50011, 70007, 80007, 80008, 90003, 100001] M M1 := (Fb.mono (by decide)).step F1 (by decide)
      have Fc : Fr [1217] M1 (sI M1 1217 0 l (nI n)) := Fr.refl.wI (by decide)
      have F0c : Fr [505, 507, 810, 905, 1217, 10003, 20006, 30003, 30005, 50006, 50008, 50009, 50011, 70007, 80007, 80008, 90003, 100001] M (sI M1 1217 0 l (nI n)) := (F01.mono (by decide)).step Fc (by decide)
      obtain ⟨Md, ed, Fd, vd, od⟩ := s_f29 (M := sI M1 1217 0 l (nI n)) (l := l) (a := nI n) (hl.fr F0c) (by omega)
      have F0d : Fr [505, 507, 810, 905, 1217, 1218, 10003, 20006, 30003, 30005, 50006, 50008, 50009, 50011, 70007, 80007, 80008, 90003, 100001] M Md := (F0c.mono (by decide)).step Fd (by decide)
      have d17 : ∀ q, mI Md 1217 0 q = if q = l then nI n else mI M 1217 0 q := fun q => by
        rw [Fd.aI (by decide), mI_sI, F01.aI (by decide)]; simp
      have hGd : Gr Md (setS N l n) := by
        refine ⟨by rw [F0d.oI (by decide), F0d.oI (by decide)]; exact hG.1, fun q hq => by rw [F0d.aI (by decide), F0d.aI (by decide)]; exact hG.2.1 q hq, fun q hq => ?_, fun q i hq hi => by rw [F0d.aI (by decide), F0d.aI (by decide)]; exact hG.2.2.2 q i hq hi⟩
        obtain ⟨s1, s2, s3⟩ := hG.2.2.1 q hq
        rw [F0d.aI (by decide), F0d.aI (by decide), d17]
        refine ⟨s1, s2, ?_⟩
        show _ = nI (if q = l then n else nS N q)
        split
        · rfl
        · exact s3
      obtain ⟨M2, e2, F3, T2, z2, g2⟩ := s_changes (M := Md) hN2 (hl.fr F0d) hGd
      have FF : Fr [505, 507, 810, 905, 1208, 1209, 1217, 1218, 1219, 1220, 1221, 1222, 1223, 1230, 10003, 20006, 30003, 30005, 50006, 50008, 50009, 50011, 70007, 80007, 80008, 90003, 100001, 120025, 120043, 120060] M M2 := (F0d.mono (by decide)).step F3 (by decide)
      have F23 : Fr [1208, 1209, 1217, 1218, 1219, 1220, 1221, 1222, 1223, 1230, 120025, 120043, 120060] M1 M2 := ((Fc.mono (by decide)).step Fd (by decide)).step F3 (by decide)
      have hG2 := hGd.fr F3 (by decide)
      have a6 : ∀ q, mI M2 4 q 6 = if q = l then nI n else mI M 4 q 6 := fun q => by
        rw [F23.oI (by decide), F1.oI (by decide), b6]
      have hC2 : Cg M2 M2 (setS N l n) := by
        refine ⟨by rw [FF.oI (by decide), FF.oI (by decide)]; exact hC.1, fun q hq => ⟨(hC.2.1 q hq).1.fr FF (by decide), (hC.2.1 q hq).2.fr FF (by decide)⟩, fun q hq => ⟨?_, ?_⟩, hC.2.2.2.fr FF⟩
        · obtain ⟨c1, c2, c3, c4, c5, c6, c7⟩ := (hC.2.2.1 q hq).1
          refine ⟨by rw [FF.aR (by decide)]; exact c1, by rw [FF.oI (by decide)]; exact c2, by rw [FF.oR (by decide)]; exact c3, by rw [FF.oR (by decide)]; exact c4, ?_, by rw [FF.oR (by decide)]; exact c6, by rw [FF.oR (by decide)]; exact c7⟩
          rw [a6]
          show _ = nI (if q = l then n else nS N q)
          split
          · rfl
          · exact c5
        · obtain ⟨n1, n2, n3, n4, n5, n6, n7, n8⟩ := (hC.2.2.1 q hq).2
          refine ⟨by rw [FF.n]; exact n1, by rw [FF.n]; exact n2, by rw [FF.n]; exact n3, by rw [FF.n]; exact n4, by rw [FF.n]; exact n5, fun j hj => by rw [FF.aI (by decide)]; exact n6 j hj, fun j hj => by rw [FF.aI (by decide)]; exact n7 j hj, fun j hj => ?_⟩
          have hj' : j < (if q = l then n else nS N q) := hj
          have hq60 := (hN.2.2.1 q hq).2.2
          rw [F23.aL (k := 505) (by decide), F1.aL (by decide), mL_sI, F3.aL (k := 1218) (by decide)]
          by_cases e : q = l
          · subst e
            rw [if_pos rfl] at hj'
            rw [va j (by omega), vd j (by omega)]
          · rw [if_neg e] at hj'
            rw [oa q e, od _ (by omega), Fc.aL (by decide), F01.aL (by decide)]
            exact n8 j hj'
      refine ⟨nI n, M1, M2, ?_, ?_, setS N l n, Al_reset hN2 (hl.fr FF) hG2 hC2 (hT.fr FF (by decide)) (T1.fr F23 (by decide)) T2 (fun t ht => by rw [F23.aI (by decide)]; exact z1 t ht) z2 ?_ g2 (hF.fr FF (by decide)) (hR.fr FF (by decide)) ((hD.fr FF (by decide)).toN rfl)⟩
      · rw [fX10_first, cLine_in hN hl hC hp, Option.bind_some, if_neg (by simp), if_neg (nI_pos (by omega)), if_pos (show nI n ≤ (60 : Int32) from nI_le (b := 60) (by omega) (by decide)), Option.bind_some, ea, Option.bind_some, bnd_eq, e1]; rfl
      · rw [fX11_first, mLine_in hN (hG.fr F01 (by decide)) hp, Option.bind_some, if_neg (by decide), (in_nI (b := 60) (n := 60) rfl (show n ≤ 60 by omega) (by decide)).1, Option.bind_some, if_neg (by decide), ln1217 (hl.fr F01), chk_nI (by omega) (by omega), bnd_eq, nI_clamp (by omega), ed, Option.bind_some, e2]; rfl
      · rw [F23.oI (by decide), F23.oI (by decide), F23.oI (by decide), F23.oI (by decide), F23.oI (by decide), F23.oI (by decide)]; exact g1
    · obtain ⟨i1, i2⟩ := out_nI (M := M) (b := 60) (n := 60) rfl (by decide) h2
      refine ⟨-1, M, M, ?_, ?_, N, hA⟩
      · rw [fX10_first, cLine_in hN hl hC hp, Option.bind_some, if_neg (by simp)]
        by_cases q : a2 < 0
        · rw [if_pos q]
        · rw [if_neg q, if_neg (i2.resolve_left q)]
      · rw [fX11_first, mLine_in hN hG hp, Option.bind_some, if_neg (by decide), i1]; rfl
  · refine ⟨-1, M, M, ?_, ?_, N, hA⟩
    · rw [fX10_first, cLine_out hC ha]; rfl
    · rw [fX11_first, mLine_out hN hG ha]; rfl
