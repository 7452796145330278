/-! least, the call -/
noncomputable def lsZ (N : NG) (R : Nat → Nat) (T : Nat) : ZS := srch N R T (sumTo R (nP N)) (sumTo R (nP N)) (fun _ => 0) 0 (0, none, fun _ => 0, false)
theorem lsZ_ok {N : NG} {R : Nat → Nat} {T : Nat} : ZOK N R T (sumTo R (nP N)) (lsZ N R T) := (srch_ok _ _ _ _ (by omega) (fun i hi => by omega) ⟨Nat.zero_le _, fun v h => by cases h⟩).1
theorem c_finds {M : tM} {N : NG} {R : Nat → Nat} {T : Nat} (hN : NOK N) (hl : Len M) (hC : Cg M M N) (hr : rndOf N = .inl R) (p0 : 0 < nP N) (hR : ∀ p, p < nP N → mI M 7 p 6 = nI (R p)) (h4 : mI M 1 0 4 = nI (sumTo R (nP N))) (hS40 : sumTo R (nP N) ≤ 40) (hT : T ≤ 20000) :
    Ok (fX3_finds (nI T) M) (fun w => Fr (40007 :: kT) M w.2 ∧ CZ w.2 (sumTo R (nP N)) T (lsZ N R T) ∧ ((w.1 = 1 ∧ zx (lsZ N R T) = false) ∨ (w.1 = 0 ∧ zx (lsZ N R T) = true))) := by
  have hB := RB_0 hN hr
  have sp := sumR_pos hN hr p0
  rw [fX3_finds, bnd_eq, bnd_eq, bnd_eq, bnd_eq]
  have F0 : Fr (40007 :: kT) M (sI (sI (sI (sI M 3 0 7 (nI T)) 3 0 3 0) 3 0 8 0) 3 0 6 1000000000) := (((Fr.refl.wIo (by decide)).wIo (by decide)).wIo (by decide)).wIo (by decide)
  have v3 : mI (sI (sI (sI (sI M 3 0 7 (nI T)) 3 0 3 0) 3 0 8 0) 3 0 6 1000000000) 3 0 3 = 0 := by simp [mI_sI]
  have v6 : mI (sI (sI (sI (sI M 3 0 7 (nI T)) 3 0 3 0) 3 0 8 0) 3 0 6 1000000000) 3 0 6 = 1000000000 := by simp [mI_sI]
  have v7 : mI (sI (sI (sI (sI M 3 0 7 (nI T)) 3 0 3 0) 3 0 8 0) 3 0 6 1000000000) 3 0 7 = nI T := by simp [mI_sI]
  have v8 : mI (sI (sI (sI (sI M 3 0 7 (nI T)) 3 0 3 0) 3 0 8 0) 3 0 6 1000000000) 3 0 8 = 0 := by simp [mI_sI]
  generalize sI (sI (sI (sI M 3 0 7 (nI T)) 3 0 3 0) 3 0 8 0) 3 0 6 1000000000 = M4 at *
  refine ok_call (c_begin hN (hl.fr F0) (hC.fr F0 (by decide)) (fun p hp => (F0.oI (by decide)).trans (hR p hp)) ((F0.oI (by decide)).trans h4)) ?_
  rintro M6 ⟨F6, k1, k2⟩
  have G6 : Fr (40007 :: kT) M M6 := F0.step F6 (by decide)
  have key := c_all (S := sumTo R (nP N)) (T := T) hN hB rfl hS40 hT (sumTo R (nP N)) 42 0 (by omega) sp (by omega) (fun _ => 0) (0, none, fun _ => 0, false) M6 (fun i hi => by omega) rfl ⟨Nat.zero_le _, fun v h => by cases h⟩ ⟨k1, ⟨_, k2⟩, fun j hj => by omega⟩ ⟨(F6.oI (by decide)).trans v3, (F6.oI (by decide)).trans v6, (F6.oI (by decide)).trans v7, (F6.oI (by decide)).trans v8, fun h => absurd rfl h⟩ (hl.fr G6) (hC.fr G6 (by decide))
  rw [nI_0] at key
  refine ok_call key ?_
  rintro M8 ⟨F8, -, cz, -⟩
  have cz : CZ M8 (sumTo R (nP N)) T (lsZ N R T) := cz
  have G8 : Fr (40007 :: kT) M M8 := G6.step F8 (by decide)
  rw [cz.2.2.2.1]
  cases h : zx (lsZ N R T) with
  | true =>
    rw [if_pos rfl, if_neg (by decide)]
    exact ok_some ⟨G8, cz, Or.inr ⟨rfl, rfl⟩⟩
  | false =>
    rw [if_neg (show ¬ (false = true) by decide), if_pos rfl]
    exact ok_some ⟨G8, cz, Or.inl ⟨rfl, rfl⟩⟩
def kLM : List Nat := [1230, 1238, 1239, 1240, 1242, 1244, 1245, 1246, 1249, 1250, 1251, 1252, 1253, 120043, 120048]
def lsE (w : (Int32 × tM) ⊕ tM) : Option (Int32 × tM) := match w with
  | .inl q => some q
  | .inr M79 => Option.bind (fX11_least_l315 FU 0 M79) fun M87 => Option.bind (fX11_least_l347 FU 0 M87) fun M95 => (fX11_settle (mI M95 11 0 36) M95).bind fun (x96, M98) => some ((x96, M98))
theorem m_finds {X : tM} {N : NG} {R : Nat → Nat} {T : Nat} (hN : NOK N) (hl : Len X) (hG : Gr X N) (hr : rndOf N = .inl R) (p0 : 0 < nP N) (p8 : nP N ≤ 8) (hs : ¬ stk N R (nS N)) (hR : ∀ p, p < nP N → mI X 1235 0 p = nI (R p)) (h36 : mI X 11 0 36 = nI (sumTo R (nP N))) (hS40 : sumTo R (nP N) ≤ 40) (hT : T ≤ 20000) :
    Ok ((fX11_markFirst 0 X).bind fun M16 => (fX11_storeFirst M16).bind fun M18 => bnd (sI M18 11 0 48 0) fun M19 => chk (inb 0 (mN M19 1249 0)) <| bnd (sI M19 1249 0 ((0 : Int32).toNatClampNeg) 0) fun M21 => Option.bind (fX11_least_l92 (nI T) FU 2000000000 0 M21) lsE)
      (fun w => Fr kLM X w.2 ∧ mI w.2 11 0 48 = nI (zt (lsZ N R T)) ∧ ((zx (lsZ N R T) = true ∧ w.1 = (-6) ∧ Fr [1238, 1239, 1240, 1246, 1249, 1250, 1251, 1252, 1253, 120048] X w.2) ∨ (zx (lsZ N R T) = false ∧ w.1 = nI (sumTo (sO N (zo (lsZ N R T)) (sumTo R (nP N))) (nL N)) ∧ mI w.2 11 0 43 = nI (sumTo R (nP N)) ∧ (∀ i, i < sumTo R (nP N) → mI w.2 1242 0 i = nI (zo (lsZ N R T) i)) ∧ (∀ l, l < nL N → mI w.2 1244 0 l = nI (sO N (zo (lsZ N R T)) (sumTo R (nP N)) l)) ∧ ∀ t, t < 4 → mI w.2 1230 0 t = 0))) := by
  have hb := hN.1
  have hB := RB_0 hN hr
  have sp := sumR_pos hN hr p0
  refine ok_call (m_first (fs := nS N) (y := 0) hN hl hG hR (fun l _ => Or.inl ⟨rfl, rfl⟩)) ?_
  rintro X1 ⟨F1, k1⟩
  refine ok_call (m_storeF (m := nS N) hN (hl.fr F1) (hG.fr F1 (by decide)) (fun l hl' => by rw [k1.1 l hl', mk_0])) ?_
  rintro X2 ⟨F2, k2⟩
  have G2 : Fr kL X X2 := (F1.mono (by decide)).step F2 (by decide)
  rw [bnd_eq, mN_sI, G2.n, ln1249 hl, chk_tr (show inb 0 41 = true by decide), bnd_eq, cl0]
  have F3 : Fr [1249, 120048] X2 (sI (sI X2 11 0 48 0) 1249 0 0 0) := (Fr.refl.wIo (by decide)).wI (by decide)
  have v48 : mI (sI (sI X2 11 0 48 0) 1249 0 0 0) 11 0 48 = 0 := by simp [mI_sI]
  have v49 : mI (sI (sI X2 11 0 48 0) 1249 0 0 0) 1249 0 0 = 0 := by simp [mI_sI]
  generalize sI (sI X2 11 0 48 0) 1249 0 0 0 = X3 at *
  have G3 : Fr kL X X3 := G2.step F3 (by decide)
  obtain ⟨r, hr1⟩ : ∃ r, sumTo R (nP N) = r + 1 := ⟨sumTo R (nP N) - 1, by omega⟩
  have ez : foldD (one N R T (sumTo R (nP N)) (srch N R T (sumTo R (nP N)) r) (fun _ => 0) 0) (nP N) (nP N) (0, none, fun _ => 0, false) = lsZ N R T := by
    have : lsZ N R T = srch N R T (sumTo R (nP N)) (r + 1) (fun _ => 0) 0 (0, none, fun _ => 0, false) := by rw [lsZ]; congr 1
    rw [this]; rfl
  have key := m_loop (S := sumTo R (nP N)) (T := T) hN hB rfl hS40 hT p8 (fun w => (∃ X', w = .inl ((-6), X') ∧ Fr kL X3 X' ∧ zx (lsZ N R T) = true ∧ mI X' 11 0 48 = nI (zt (lsZ N R T))) ∨ ∃ X', w = .inr X' ∧ Fr kL X3 X' ∧ zx (lsZ N R T) = false ∧ XZ X' N (sumTo R (nP N)) (lsZ N R T) ∧ mI X' 11 0 36 = nI (sumTo R (nP N))) r 0 (fun _ => 0) (by omega) (fun i hi => by omega) (nP N) 0 (0, none, fun _ => 0, false) FU X3 (by omega) (Nat.zero_le _) rfl ⟨Nat.zero_le _, fun v h => by cases h⟩ (by have := FU_lt (n := 999999999) (by omega); show 190000 + 9 * r + nP N ≤ FU + 9 * 0; omega) (hl.fr G3) (hG.fr G3 (by decide)) ⟨(k1.fr F2 (by decide)).fr F3 (by decide), fun l hl' => (F3.aI (by decide)).trans (k2 l hl'), fun j hj => by omega, fun j hj => by omega, (G3.oI (by decide)).trans h36⟩ ⟨v48, fun h => absurd rfl h⟩ v49
  rw [ez] at key
  have key2 := key (fun n' X' a1 a2 a3 a4 a5 a6 _ => by
    have hzt := (lsZ_ok (N := N) (R := R) (T := T)).1
    have hFU := FU_lt (n := 999999999) (by omega)
    have a2 : FU + 9 * 0 ≤ n' + 9 * zt (lsZ N R T) + nP N := a2
    obtain ⟨m, rfl⟩ : ∃ m, n' = m + 2 := ⟨n' - 2, by omega⟩
    have Gx : Fr kL X X' := G3.step a3 (by decide)
    have em : nI 0 + (-1) = (-1) := by decide
    rw [fX11_least_l92, if_neg (by decide), Gx.n, ln1249 hl, chk_nI (by omega) (by omega), nI_clamp (by omega), a6, Gx.oI (by decide), hG.1.1, if_pos rfl, bnd_eq, em, if_pos (by decide), fX11_least_l92, if_pos (by decide)]
    exact ok_some (Or.inr ⟨X', rfl, a3, a1, a5, a4.2.2.2.2⟩)) (fun X' a1 a2 a3 => Or.inl ⟨X', rfl, a1, a2, a3⟩)
  have key3 : Ok (fX11_least_l92 (nI T) FU 2000000000 0 X3) _ := key2
  refine ok_call key3 ?_
  rintro w (⟨X', rfl, Fx, hx, h48⟩ | ⟨X', rfl, Fx, hx, hxz, h36'⟩)
  · have Gx : Fr kL X X' := G3.step Fx (by decide)
    exact ok_some ⟨Gx.mono (by decide), h48, Or.inl ⟨hx, rfl, Gx⟩⟩
  · have Gx : Fr kL X X' := G3.step Fx (by decide)
    have hfound : ¬ zb (lsZ N R T) = none := by
      rcases srch_found (T := T) hN hs rfl (sumTo R (nP N)) (fun _ => 0) 0 (0, none, fun _ => 0, false) (by omega) sp (fun i hi => by omega) ⟨Nat.zero_le _, fun v h => by cases h⟩ with h | h
      · exact h
      · have h : zx (lsZ N R T) = true := h
        rw [hx] at h; cases h
    obtain ⟨h52, h53⟩ := hxz.2 hfound
    show Ok (Option.bind (fX11_least_l315 FU 0 X') _) _
    have q1 : Ok (fX11_least_l315 FU 0 X') (fun m => Fr [1245] X' m ∧ ∀ i, i < sumTo R (nP N) → mI m 1245 0 i = nI (zo (lsZ N R T) i)) := by
      refine loop0 (fun n i m => fX11_least_l315 n i m) (sumTo R (nP N)) (fun i m => Fr [1245] X' m ∧ ∀ l, l < i → mI m 1245 0 l = nI (zo (lsZ N R T) l)) _ (by omega) ?_ ?_ X' ⟨Fr.refl, fun l hl => by omega⟩
      · rintro n m ⟨F, h⟩
        rw [fX11_least_l315, F.oI (by decide), h36', if_pos (nI_le (Nat.le_refl _) (by omega))]
        exact ok_some ⟨F, h⟩
      · rintro n i m hi ⟨F, h⟩ kk
        rw [fX11_least_l315, F.oI (by decide), h36', if_neg (nI_ge hi (by omega)), F.n, Gx.n, ln1252 hl, chk_nI (by omega) (by omega), F.n, Gx.n, ln1245 hl, chk_nI (by omega) (by omega), bnd_eq, bnd_eq, nI_1, nI_clamp (by omega), F.aI (by decide), h52 i hi]
        refine kk _ ⟨F.wI (by decide), fun l hl' => ?_⟩
        rw [mI_sI]
        by_cases e : l = i
        · rw [if_pos ⟨rfl, rfl, e⟩, e]
        · rw [if_neg (fun z => e z.2.2)]; exact h l (by omega)
    refine ok_call q1 ?_
    rintro X5 ⟨F5, h5⟩
    have q2 : Ok (fX11_least_l347 FU 0 X5) (fun m => Fr [1246] X5 m ∧ S46 m N (sO N (zo (lsZ N R T)) (sumTo R (nP N)))) := by
      refine loop0 (fun n i m => fX11_least_l347 n i m) (nL N) (fun i m => Fr [1246] X5 m ∧ ∀ l, l < i → mI m 1246 0 l = nI (sO N (zo (lsZ N R T)) (sumTo R (nP N)) l)) _ (by omega) ?_ ?_ X5 ⟨Fr.refl, fun l hl => by omega⟩
      · rintro n m ⟨F, h⟩
        rw [fX11_least_l347, F.oI (by decide), F5.oI (by decide), Gx.oI (by decide), hG.1.2, if_pos (nI_le (Nat.le_refl _) (by omega))]
        exact ok_some ⟨F, h⟩
      · rintro n i m hi ⟨F, h⟩ kk
        rw [fX11_least_l347, F.oI (by decide), F5.oI (by decide), Gx.oI (by decide), hG.1.2, if_neg (nI_ge hi (by omega)), F.n, F5.n, Gx.n, ln1253 hl, chk_nI (by omega) (by omega), F.n, F5.n, Gx.n, ln1246 hl, chk_nI (by omega) (by omega), bnd_eq, bnd_eq, nI_1, nI_clamp (by omega), F.aI (by decide), F5.aI (by decide), h53 i hi]
        refine kk _ ⟨F.wI (by decide), fun l hl' => ?_⟩
        rw [mI_sI]
        by_cases e : l = i
        · rw [if_pos ⟨rfl, rfl, e⟩, e]
        · rw [if_neg (fun z => e z.2.2)]; exact h l (by omega)
    refine ok_call q2 ?_
    rintro X6 ⟨F6, h6⟩
    have G6 : Fr kLM X X6 := ((Gx.mono (by decide)).step F5 (by decide)).step F6 (by decide)
    have e36 : mI X6 11 0 36 = nI (sumTo R (nP N)) := (F6.oI (by decide)).trans ((F5.oI (by decide)).trans h36')
    rw [e36]
    refine ok_call (m_settle hN (hl.fr G6) (hG.fr G6 (by decide)) h6 (by omega) (fun i hi => (F6.aI (by decide)).trans (h5 i hi))) ?_
    rintro ⟨x, X7⟩ ⟨F7, g1, g2, g3, g4, g5⟩
    have F7 : Fr [1230, 1242, 1244, 120043] X6 X7 := F7
    refine ok_some ⟨G6.step F7 (by decide), ?_, Or.inr ⟨hx, g1, g2, g3, g4, g5⟩⟩
    exact (F7.oI (by decide)).trans ((F6.oI (by decide)).trans ((F5.oI (by decide)).trans hxz.1))
theorem Al_least {M M2 : tM} {N : NG} {ks : List Nat} (hA : Al M N) (F : Fr ks M M2) (hd : disj ks (rsGr ++ rsCg ++ rsCt ++ rsCv ++ rsCr ++ rsCd ++ rsCo ++ rsCc1 ++ rsCc2 ++ rsCc3 ++ [3, 9, 10, 11, 1110, 1201, 100002, 110009, 110011, 120000, 120026, 120029]) = true) (h48 : mI M2 3 0 3 = mI M2 11 0 48) (hS : Cs M2 M2 N) : Al M2 N := by
  obtain ⟨⟨hN, hl, hG⟩, hC, hT, hV, hF, hR, hD, hO, -, k1, k2, k3⟩ := hA
  refine ⟨⟨hN, hl.fr F, hG.fr F (disj_sub hd (by decide))⟩, hC.fr F (disj_sub hd (by decide)), hT.fr F (disj_sub hd (by decide)), hV.fr F (disj_sub hd (by decide)), ?_, hR.fr F (disj_sub hd (by decide)), hD.fr F (disj_sub hd (by decide)), hO.fr F (disj_sub hd (by decide)), hS, k1.fr F (disj_sub hd (by decide)), k2.fr F (disj_sub hd (by decide)), k3.fr F (disj_sub hd (by decide))⟩
  have hd2 : disj ks [3, 9, 10, 11, 1110, 1201, 100002, 110009, 110011, 120000, 120026, 120029] = true := disj_sub hd (by decide)
  obtain ⟨h1, h2, h3, h4, h5⟩ := hF
  refine ⟨?_, fun j hj => ?_, ?_, ?_, h48⟩
  · rw [F.hI hd2 10 9 (by decide), F.hI hd2 11 0 (by decide)]; exact h1
  · rw [F.gI hd2 1110 (by decide), F.gI hd2 1201 (by decide)]; exact h2 j hj
  · rw [F.hL hd2 10 11 (by decide), F.hL hd2 11 29 (by decide)]; exact h3
  · rw [F.hL hd2 9 2 (by decide), F.hL hd2 11 26 (by decide)]; exact h4
theorem c17 : call17 Rel := by
  rintro a1 M ⟨N, hA⟩
  obtain ⟨⟨hN0, hl0, hG0⟩, hC0, -⟩ := id hA
  have hb := hN0.1
  by_cases q1 : a1 < 1
  · refine ⟨-1, M, M, by rw [fX10_least, if_pos q1], ?_, N, hA⟩
    rw [fX11_least, in_out (Or.inl q1)]; rfl
  by_cases q2 : a1 ≤ 20000
  rotate_left
  · have q3 : (20000 : Int32) < a1 := by
      rw [Int32.le_iff_toInt_le] at q2
      rw [Int32.lt_iff_toInt_lt]; omega
    refine ⟨-1, M, M, by rw [fX10_least, if_neg q1, if_neg q2], ?_, N, hA⟩
    rw [fX11_least, in_out (Or.inr q3)]; rfl
  have n0 : ¬ a1 < 0 := by
    intro z
    rw [Int32.lt_iff_toInt_lt] at z q1
    have e0 : (0 : Int32).toInt = 0 := by decide
    have e1 : (1 : Int32).toInt = 1 := by decide
    omega
  obtain ⟨T, hT31, rfl⟩ := nI_of n0
  have hT : T ≤ 20000 := by
    have := (nI_leI (b := 20000) hT31 (by omega)).mp q2
    exact this
  have ein : ∀ M, fX11_in (nI T) 1 20000 M = some 1 := fun M => in_in q1 (nlt_le q2)
  by_cases p8 : nP N ≤ 8
  rotate_left
  · refine ⟨-4, M, M, ?_, ?_, N, hA⟩
    · rw [fX10_least, if_neg q1, if_pos q2, hC0.1.1, if_neg (show ¬ nI (nP N) ≤ (8 : Int32) from nI_ge (a := 8) (by omega) (by omega))]
    · rw [fX11_least, ein, Option.bind_some, if_neg (by decide), hG0.1.1, if_neg (nI_ne0 (by omega) (by omega)), if_neg (show ¬ nI (nP N) ≤ (8 : Int32) from nI_ge (a := 8) (by omega) (by omega))]
  have p8' : nI (nP N) ≤ (8 : Int32) := nI_le (b := 8) p8 (by omega)
  obtain ⟨v, M2, e, F, hA2, hv, hv0⟩ := ns_c hA
  obtain ⟨⟨hN, hl, hG⟩, hC, hT', hV, hF, hR0, hD, hO, hS, hk1, hk2, hk3⟩ := id hA2
  have prc : fX10_least (nI T) M = if v = 0 then (if mI M2 1 0 4 ≤ 40 then (fX3_finds (nI T) M2).bind fun (x9, M11) => if x9 = 0 then some (((-6), M11)) else (fX8_adopt 402 0 (mI M11 1 0 4) M11).bind fun (x13, M15) => some ((x13, M15)) else some (((-4), M2))) else some ((v, M2)) := by
    rw [fX10_least, if_neg q1, if_pos q2, hC0.1.1, if_pos p8', e, Option.bind_some]
  by_cases v0 : v = 0
  rotate_left
  · -- no SCHEDULE
    by_cases pz : nP N = 0
    · refine ⟨v, M2, M2, by rw [prc, if_neg v0], ?_, N, hA2⟩
      have ev : v = (-4) := by
        rcases hv with ⟨-, h⟩ | ⟨h, -⟩
        · exact h
        · omega
      rw [fX11_least, ein, Option.bind_some, if_neg (by decide), hG.1.1, if_pos (by rw [pz]; rfl), ev]
    obtain ⟨⟨y, M3⟩, e3, F3, hy⟩ := m_barred (y := 0) hN hl hG (Or.inl rfl)
    have F3 : Fr kBM M2 M3 := F3
    have pre : fX11_least (nI T) M2 = if 0 ≤ y then (if 40 < mI M3 11 0 36 then some (((-4), M3)) else (fX11_isStuck 0 M3).bind fun (x11, M13) => if x11 = 0 then (fX11_markFirst 0 M13).bind fun M16 => (fX11_storeFirst M16).bind fun M18 => bnd (sI M18 11 0 48 0) fun M19 => chk (inb 0 (mN M19 1249 0)) <| bnd (sI M19 1249 0 ((0 : Int32).toNatClampNeg) 0) fun M21 => Option.bind (fX11_least_l92 (nI T) FU 2000000000 0 M21) lsE else some (((-4), M13))) else some ((y, M3)) := by
      rw [fX11_least, ein, Option.bind_some, if_neg (by decide), hG.1.1, if_neg (nI_ne0 (by omega) (by omega)), if_pos p8', e3, Option.bind_some]
      rfl
    rcases hv with ⟨h, -⟩ | ⟨-, ⟨R, r1, ⟨h, -⟩ | ⟨h, st⟩⟩ | ⟨l, r1, h⟩ | ⟨r1, h⟩⟩
    · exact absurd h pz
    · exact absurd h v0
    · rcases hy with ⟨h', -⟩ | ⟨-, ⟨R', r2, w2, w3, w1⟩ | ⟨l, r2, -⟩ | ⟨r2, -⟩⟩
      · exact absurd h' pz
      · rw [r1] at r2
        cases r2
        have w2 : mI M3 11 0 36 = nI (sumTo R (nP N)) := w2
        have y0 : y = 0 := by
          rcases w1 with ⟨w, -⟩ | ⟨-, w, -⟩
          · exact w
          · exact absurd w (by decide)
        have hB := RB_0 hN r1
        have hB2 := hB.2.2
        by_cases s40 : sumTo R (nP N) ≤ 40
        · obtain ⟨⟨u, M4⟩, e4, F4, hu⟩ := m_stuck (fs := nS N) (y := 0) hN (hl.fr F3) (hG.fr F3 (by decide)) hB w3 (fun l _ => Or.inl ⟨rfl, rfl⟩)
          have F4 : Fr kM M3 M4 := F4
          refine ⟨v, M2, M4, by rw [prc, if_neg v0], ?_, N, (hA2.fr F3 (by decide)).fr F4 (by decide)⟩
          rcases hu with ⟨u1, -⟩ | ⟨-, z⟩
          · have u1 : u = 1 := u1
            rw [pre, y0, if_pos (by decide), w2, if_neg (show ¬ (40 : Int32) < nI _ from nI_nlt (a := 40) s40 (by omega)), e4, Option.bind_some]
            show (if u = 0 then _ else _) = _
            rw [u1, if_neg (by decide), h]
          · exact absurd st z
        · refine ⟨v, M2, M3, by rw [prc, if_neg v0], ?_, N, hA2.fr F3 (by decide)⟩
          rw [pre, y0, if_pos (by decide), w2, if_pos (show (40 : Int32) < nI _ from nI_lt (a := 40) (by omega) (by omega)), h]
      · rw [r1] at r2; cases r2
      · rw [r1] at r2; cases r2
    · refine ⟨v, M2, M3, by rw [prc, if_neg v0], ?_, N, hA2.fr F3 (by decide)⟩
      rcases hy with ⟨h', -⟩ | ⟨-, ⟨R', r2, -⟩ | ⟨l, r2, w1⟩ | ⟨r2, -⟩⟩
      · exact absurd h' pz
      · rw [r1] at r2; cases r2
      · have w1 : y = (-4) := w1
        rw [pre, w1, if_neg (by decide), h]
      · rw [r1] at r2; cases r2
    · refine ⟨v, M2, M3, by rw [prc, if_neg v0], ?_, N, hA2.fr F3 (by decide)⟩
      rcases hy with ⟨h', -⟩ | ⟨-, ⟨R', r2, -⟩ | ⟨l, r2, w1⟩ | ⟨r2, w1⟩⟩
      · exact absurd h' pz
      · rw [r1] at r2; cases r2
      · rw [r1] at r2; cases r2
      · have w1 : y = (-6) := w1
        rw [pre, w1, if_neg (by decide), h]
  obtain ⟨R, r1, p0, hs, hR, h4⟩ := hv0 v0
  have hB := RB_0 hN r1
  have hB2 := hB.2.2
  have sp := sumR_pos hN r1 p0
  -- the model's beginning
  have model : ∀ Mx, Len Mx → Gr Mx N → ∃ M3, Fr kBM Mx M3 ∧ mI M3 11 0 36 = nI (sumTo R (nP N)) ∧ (∀ p, p < nP N → mI M3 1235 0 p = nI (R p)) ∧ fX11_least (nI T) Mx = (if 40 < mI M3 11 0 36 then some (((-4), M3)) else (fX11_isStuck 0 M3).bind fun (x11, M13) => if x11 = 0 then (fX11_markFirst 0 M13).bind fun M16 => (fX11_storeFirst M16).bind fun M18 => bnd (sI M18 11 0 48 0) fun M19 => chk (inb 0 (mN M19 1249 0)) <| bnd (sI M19 1249 0 ((0 : Int32).toNatClampNeg) 0) fun M21 => Option.bind (fX11_least_l92 (nI T) FU 2000000000 0 M21) lsE else some (((-4), M13))) := fun Mx hlx hGx => by
    obtain ⟨⟨y, M3⟩, e3, F3, hy⟩ := m_barred (y := 0) hN hlx hGx (Or.inl rfl)
    rcases hy with ⟨h', -⟩ | ⟨-, ⟨R', r2, w2, w3, w1⟩ | ⟨l, r2, -⟩ | ⟨r2, -⟩⟩
    · omega
    · rw [r1] at r2
      cases r2
      have y0 : y = 0 := by
        rcases w1 with ⟨w, -⟩ | ⟨-, w, -⟩
        · exact w
        · exact absurd w (by decide)
      refine ⟨M3, F3, w2, w3, ?_⟩
      rw [fX11_least, ein, Option.bind_some, if_neg (by decide), hGx.1.1, if_neg (nI_ne0 (by omega) (by omega)), if_pos p8', e3, Option.bind_some]
      show (if 0 ≤ y then _ else _) = _
      rw [y0, if_pos (by decide)]
      rfl
    · rw [r1] at r2; cases r2
    · rw [r1] at r2; cases r2
  by_cases s40 : sumTo R (nP N) ≤ 40
  rotate_left
  · obtain ⟨M3, F3, w2, w3, em⟩ := model M2 hl hG
    refine ⟨-4, M2, M3, ?_, ?_, N, hA2.fr F3 (by decide)⟩
    · rw [prc, if_pos v0, h4, if_neg (show ¬ nI _ ≤ (40 : Int32) from nI_ge (a := 40) (by omega) (by omega))]
    · rw [em, w2, if_pos (show (40 : Int32) < nI _ from nI_lt (a := 40) (by omega) (by omega))]
  obtain ⟨⟨x9, M3⟩, e3, F3, cz, hx9⟩ := c_finds hN hl hC r1 p0 hR h4 s40 hT
  have F3 : Fr (40007 :: kT) M2 M3 := F3
  have cz : CZ M3 (sumTo R (nP N)) T (lsZ N R T) := cz
  have hx9 : (x9 = 1 ∧ zx (lsZ N R T) = false) ∨ (x9 = 0 ∧ zx (lsZ N R T) = true) := hx9
  have prc2 : fX10_least (nI T) M = if x9 = 0 then some (((-6), M3)) else (fX8_adopt 402 0 (mI M3 1 0 4) M3).bind fun (x13, M15) => some ((x13, M15)) := by
    rw [prc, if_pos v0, h4, if_pos (show nI _ ≤ (40 : Int32) from nI_le (b := 40) s40 (by omega)), e3, Option.bind_some]
  have h43 : mI M3 1 0 4 = nI (sumTo R (nP N)) := (F3.oI (by decide)).trans h4
  -- the model's search, behind any class memory
  have model2 : ∀ Mx, Len Mx → Gr Mx N → ∃ u M6, fX11_least (nI T) Mx = some (u, M6) ∧ Fr (kBM ++ kLM) Mx M6 ∧ mI M6 11 0 48 = nI (zt (lsZ N R T)) ∧ ((zx (lsZ N R T) = true ∧ u = (-6) ∧ Fr (kBM ++ kL) Mx M6) ∨ (zx (lsZ N R T) = false ∧ u = nI (sumTo (sO N (zo (lsZ N R T)) (sumTo R (nP N))) (nL N)) ∧ mI M6 11 0 43 = nI (sumTo R (nP N)) ∧ (∀ i, i < sumTo R (nP N) → mI M6 1242 0 i = nI (zo (lsZ N R T) i)) ∧ (∀ l, l < nL N → mI M6 1244 0 l = nI (sO N (zo (lsZ N R T)) (sumTo R (nP N)) l)) ∧ ∀ t, t < 4 → mI M6 1230 0 t = 0)) := fun Mx hlx hGx => by
    obtain ⟨M4, F4, w2, w3, em⟩ := model Mx hlx hGx
    obtain ⟨⟨u, M5⟩, e5, F5, hu⟩ := m_stuck (fs := nS N) (y := 0) hN (hlx.fr F4) (hGx.fr F4 (by decide)) hB w3 (fun l _ => Or.inl ⟨rfl, rfl⟩)
    have F5 : Fr kM M4 M5 := F5
    have u0 : u = 0 := by
      rcases hu with ⟨-, z⟩ | ⟨z, -⟩
      · exact absurd z hs
      · exact z
    have G5 : Fr kBM Mx M5 := F4.step F5 (by decide)
    obtain ⟨⟨t, M6⟩, e6, F6, k48, k⟩ := m_finds (T := T) hN (hlx.fr G5) (hGx.fr G5 (by decide)) r1 p0 p8 hs (fun p hp => (F5.aI (by decide)).trans (w3 p hp)) ((F5.oI (by decide)).trans w2) s40 hT
    have F6 : Fr kLM M5 M6 := F6
    refine ⟨t, M6, ?_, (G5.mono (by decide)).step F6 (by decide), k48, ?_⟩
    · rw [em, w2, if_neg (show ¬ (40 : Int32) < nI _ from nI_nlt (a := 40) s40 (by omega)), e5, Option.bind_some]
      show (if u = 0 then _ else _) = _
      rw [u0, if_pos rfl, e6]
    · rcases k with ⟨k1, k2, k3⟩ | k
      · have k3 : Fr kL M5 M6 := k3
        exact Or.inl ⟨k1, k2, (G5.mono (by decide)).step k3 (by decide)⟩
      · exact Or.inr k
  rcases hx9 with ⟨x1, hx⟩ | ⟨x0, hx⟩
  · have hfound : ¬ zb (lsZ N R T) = none := by
      rcases srch_found (T := T) hN hs rfl (sumTo R (nP N)) (fun _ => 0) 0 (0, none, fun _ => 0, false) (by omega) sp (fun i hi => by omega) ⟨Nat.zero_le _, fun v h => by cases h⟩ with h | h
      · exact h
      · have h : zx (lsZ N R T) = true := h
        rw [hx] at h; cases h
    obtain ⟨b, hbb⟩ : ∃ b, zb (lsZ N R T) = some b := by
      cases h : zb (lsZ N R T) with
      | none => exact absurd h hfound
      | some b => exact ⟨b, rfl⟩
    have hvr := (lsZ_ok.2 b hbb).1
    obtain ⟨⟨g, M4⟩, e4, F4, g1, g2, g3, g4, g5⟩ := c_adopt (kz := 402) (L := 40) (d := sumTo R (nP N)) (od := zo (lsZ N R T)) hN (hl.fr F3) (hC.fr F3 (by decide)) r1 (fun p hp => (F3.oI (by decide)).trans (hR p hp)) h43 (by decide) (by decide) (by decide) ((F3.n _ _).trans (ln402 hl)) s40 (by omega) (by decide) (fun i hi => ⟨(hvr i hi).1, cz.2.2.2.2 hfound i hi⟩) (by omega) hvr
    have F4 : Fr kAd M3 M4 := F4
    have g1 : g = nI (sumTo (sO N (zo (lsZ N R T)) (sumTo R (nP N))) (nL N)) := g1
    have G4 : Fr (40007 :: kT ++ kAd) M2 M4 := (F3.mono (by decide)).step F4 (by decide)
    obtain ⟨u, M6, em, F6, k48, k⟩ := model2 M4 (hl.fr G4) (hG.fr G4 (by decide))
    rcases k with ⟨z, -⟩ | ⟨-, u1, u2, u3, u4, u5⟩
    · rw [hx] at z; cases z
    refine ⟨u, M4, M6, ?_, em, N, ?_⟩
    · rw [prc2, x1, if_neg (by decide), h43, e4, u1, ← g1]; rfl
    · have GE : Fr ((40007 :: kT ++ kAd) ++ (kBM ++ kLM)) M2 M6 := (G4.mono (by decide)).step F6 (by decide)
      have hall : ∀ p, p < nP N → ¬ cO (zo (lsZ N R T)) (sumTo R (nP N)) p < R p := by
        have hsum := vr_sum hvr
        have hK := vr_ok hvr
        intro p hp hlt
        have aux : ∀ (f g : Nat → Nat) n, (∀ q, q < n → f q ≤ g q) → sumTo (fun q => g q - f q) n + sumTo f n = sumTo g n := by
          intro f g n
          induction n with
          | zero => intro _; rfl
          | succ n ihn =>
            intro hq
            have h1 := ihn (fun q h => hq q (by omega))
            have h2 := hq n (by omega)
            rw [sumTo, sumTo, sumTo]
            show sumTo (fun q => g q - f q) n + (g n - f n) + _ = _
            omega
        have this := aux _ _ _ hK.1
        have h0 : sumTo (fun q => R q - cO (zo (lsZ N R T)) (sumTo R (nP N)) q) (nP N) = 0 := by omega
        have h1 : R p - cO (zo (lsZ N R T)) (sumTo R (nP N)) p = 0 := sumTo_zero.mp h0 p hp
        omega
      obtain ⟨-, hocc⟩ := all_R hN r1 hvr hall
      refine Al_least hA2 GE (by decide) ?_ (Cs_new (st := sO N (zo (lsZ N R T)) (sumTo R (nP N))) (od := zo (lsZ N R T)) (z := sumTo R (nP N)) sp hB2 u2 ?_ (fun i hi => ⟨(hvr i hi).1, u3 i hi, ?_⟩) hocc (fun l hl' => ⟨?_, u4 l hl'⟩) (fun t ht => ⟨?_, u5 t ht⟩))
      · rw [k48, F6.oI (k := 3) (j := 3) (by decide), F4.oI (k := 3) (j := 3) (by decide)]; exact cz.1
      · exact (F6.oI (by decide)).trans g2
      · exact (F6.aI (by decide)).trans (g3 i hi)
      · exact (F6.aI (by decide)).trans (g4 l hl')
      · exact (F6.aI (by decide)).trans (g5 t ht)
  · obtain ⟨u, M6, em, F6, k48, k⟩ := model2 M3 (hl.fr F3) (hG.fr F3 (by decide))
    rcases k with ⟨-, u1, F6'⟩ | ⟨z, -⟩
    · refine ⟨u, M3, M6, by rw [prc2, x0, if_pos rfl, u1], em, N, ?_⟩
      have GE : Fr ((40007 :: kT) ++ (kBM ++ kL)) M2 M6 := (F3.mono (by decide)).step F6' (by decide)
      refine Al_least hA2 GE (by decide) ?_ (hS.fr GE (by decide))
      rw [k48, F6.oI (k := 3) (j := 3) (by decide)]; exact cz.1
    · rw [hx] at z; cases z
