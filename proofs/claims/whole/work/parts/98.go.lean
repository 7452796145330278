/-! go -/
theorem g_thr {M : tM} {N : NG} (hN : NOK N) (hl : Len M) (hG : Gr M N) (t : Int32) : Ok (fX11_go_l15 t M FU 0 0) (fun w => (w = 1 ∧ ∃ p, p < nP N ∧ mI M 1211 0 p = t) ∨ (w = 0 ∧ ∀ p, p < nP N → ¬ mI M 1211 0 p = t)) := by
  have hb := hN.1
  refine loop0 (fun n i s => fX11_go_l15 t M n s i) (nP N) (fun i s => (s = 1 ∧ ∃ p, p < nP N ∧ mI M 1211 0 p = t) ∨ (s = 0 ∧ ∀ p, p < i → ¬ mI M 1211 0 p = t)) _ (by omega) ?_ ?_ 0 (Or.inr ⟨rfl, fun p hp => by omega⟩)
  · intro n s h
    rw [fX11_go_l15, hG.1.1, if_pos (nI_le (Nat.le_refl _) (by omega))]
    exact ok_some h
  · intro n i s hi h kk
    rw [fX11_go_l15, hG.1.1, if_neg (nI_ge hi (by omega))]
    rcases h with ⟨rfl, h⟩ | ⟨rfl, h⟩
    · rw [if_neg (by decide), Option.bind_some, bnd_eq, nI_1]
      exact kk 1 (Or.inl ⟨rfl, h⟩)
    · rw [if_pos rfl, ln1211 hl, chk_nI (by omega) (by omega), nI_clamp (by omega)]
      by_cases e : mI M 1211 0 i = t
      · rw [if_pos e, Option.bind_some, bnd_eq, nI_1]
        exact kk 1 (Or.inl ⟨rfl, i, hi, e⟩)
      · rw [if_neg e, Option.bind_some, bnd_eq, nI_1]
        refine kk 0 (Or.inr ⟨rfl, fun p hp => ?_⟩)
        by_cases q : p = i
        · rw [q]; exact e
        · exact h p (by omega)
/-- the SCHEDULE's order, threads -/
def Ord (M : tM) (N : NG) (z : Nat) (od : Nat → Nat) : Prop := (1 ≤ z ∧ z ≤ 2000) ∧ mI M 11 0 43 = nI z ∧ mI M 8 0 3 = nI z ∧ ∀ i, i < z → od i < nP N ∧ mI M 1242 0 i = nI (od i) ∧ mI M 902 0 i = nI (od i)
theorem g_place {M : tM} {N : NG} {z t a : Nat} {od : Nat → Nat} (hN : NOK N) (hl : Len M) (hC : Cg M M N) (hT : Ct M M N) (hO : Ord M N z od) (ht : t < 4) (ha : a ≤ z) (h5 : mI M 905 0 t = nI a) :
    Ok (fX8_nextPlaceOf_l2 (nI t) M FU 0) (fun w => (∃ y, y < z ∧ mI M 1211 0 (od ((a + y) % z)) = nI t ∧ (∀ y', y' < y → ¬ mI M 1211 0 (od ((a + y') % z)) = nI t) ∧ w = .inl (nI ((a + y) % z))) ∨ ((∀ y, y < z → ¬ mI M 1211 0 (od ((a + y) % z)) = nI t) ∧ w = .inr ())) := by
  have hb := hN.1
  obtain ⟨⟨hz1, hz2⟩, h43, h83, ho⟩ := hO
  refine loop0 (fun n i (_ : Unit) => fX8_nextPlaceOf_l2 (nI t) M n i) z (fun i _ => ∀ y, y < i → ¬ mI M 1211 0 (od ((a + y) % z)) = nI t) _ (by omega) ?_ ?_ () (fun y hy => by omega)
  · intro n _ h
    rw [fX8_nextPlaceOf_l2, h83, if_pos (nI_le (Nat.le_refl _) (by omega))]
    exact ok_some (Or.inr ⟨h, rfl⟩)
  · intro n i _ hi h kk
    have hm : (a + i) % z < z := Nat.mod_lt _ (by omega)
    obtain ⟨o1, o2, o3⟩ := ho _ hm
    have nz : nz4 (nI z) = true := decide_eq_true (fun q => by have := (nI_eq (b := 0) (by omega) (by decide)).mp q; omega)
    have er : nI (a + i) - nI (a + i) / nI z * nI z = nI ((a + i) % z) := pk_rem (by omega) (by omega) (by omega)
    rw [fX8_nextPlaceOf_l2, h83, if_neg (nI_ge hi (by omega)), ln905 hl, chk_nI (by omega) (by omega), chk_tr nz, nI_clamp (by omega), h5, nI_add, er, bnd_eq, ln902 hl, chk_nI (by omega) (by omega), nI_clamp (by omega), o3, cPart_in hN hl hC o1, Option.bind_some, if_neg (by simp), Option.bind_some, (hT _ o1).1.2]
    by_cases e : mI M 1211 0 (od ((a + i) % z)) = nI t
    · rw [if_pos e]
      exact ok_some (Or.inl ⟨i, hi, e, h, rfl⟩)
    · rw [if_neg e, bnd_eq, nI_1]
      refine kk () (fun y hy => ?_)
      by_cases q : y = i
      · rw [q]; exact e
      · exact h y (by omega)
theorem g_l80 {M : tM} {N : NG} {z t a y : Nat} {od : Nat → Nat} (hN : NOK N) (hl : Len M) (hO : Ord M N z od) (hy : y < z) (h1 : mI M 1211 0 (od ((a + y) % z)) = nI t) (h2 : ∀ y', y' < y → ¬ mI M 1211 0 (od ((a + y') % z)) = nI t) :
    ∀ d n j, d = y - j → j ≤ y → y - j < n → fX11_go_l80 (nI t) M n (nI ((a + j) % z)) = some (nI ((a + y) % z)) := by
  have hb := hN.1
  obtain ⟨⟨hz1, hz2⟩, h43, h83, ho⟩ := hO
  intro d
  induction d with
  | zero =>
    intro n j hd hj hn
    obtain ⟨n, rfl⟩ : ∃ m, n = m + 1 := ⟨n - 1, by omega⟩
    have ej : j = y := by omega
    subst ej
    have hm : (a + j) % z < z := Nat.mod_lt _ (by omega)
    obtain ⟨o1, o2, o3⟩ := ho _ hm
    rw [fX11_go_l80, ln1242 hl, chk_nI (by omega) (by omega), nI_clamp (by omega), o2, ln1211 hl, chk_nI (by omega) (by omega), nI_clamp (by omega), if_pos h1]
  | succ d ih =>
    intro n j hd hj hn
    obtain ⟨n, rfl⟩ : ∃ m, n = m + 1 := ⟨n - 1, by omega⟩
    have hm : (a + j) % z < z := Nat.mod_lt _ (by omega)
    obtain ⟨o1, o2, o3⟩ := ho _ hm
    have nz : nz4 (nI z) = true := decide_eq_true (fun q => by have := (nI_eq (b := 0) (by omega) (by decide)).mp q; omega)
    have er : nI ((a + j) % z + 1) - nI ((a + j) % z + 1) / nI z * nI z = nI (((a + j) % z + 1) % z) := pk_rem (by omega) (by omega) (by omega)
    rw [fX11_go_l80, ln1242 hl, chk_nI (by omega) (by omega), nI_clamp (by omega), o2, ln1211 hl, chk_nI (by omega) (by omega), nI_clamp (by omega), if_neg (h2 j (by omega)), h43, chk_tr nz, nI_1, er, bnd_eq, Nat.mod_add_mod]
    exact ih n (j + 1) (by omega) (by omega) (by omega)
theorem Ord.fr {ks : List Nat} {M M2 : tM} {N : NG} {z : Nat} {od : Nat → Nat} (h : Ord M N z od) (hF : Fr ks M M2) (hd : disj ks [8, 11, 902, 1242, 90003, 120043] = true) : Ord M2 N z od := by
  simp only [Ord] at h ⊢
  simp only [hF.hI hd 11 43 (by decide), hF.hI hd 8 3 (by decide), hF.gI hd 902 (by decide), hF.gI hd 1242 (by decide)]
  exact h
theorem g_out {M : tM} {a1 : Int32} (h : a1 < 0 ∨ nI 4 ≤ a1) : fX11_in a1 0 3 M = some 0 ∧ (¬ a1 < 0 → ¬ a1 < 4) := by
  refine ⟨in_out ?_, fun h0 => ?_⟩
  · rcases h with h | h
    · exact Or.inl h
    · refine Or.inr ?_
      rw [Int32.le_iff_toInt_le] at h
      rw [Int32.lt_iff_toInt_lt]
      have e1 : (nI 4).toInt = 4 := by decide
      have e2 : (3 : Int32).toInt = 3 := by decide
      omega
  · rcases h with h | h
    · exact absurd h h0
    · exact nlt_le h
set_option maxHeartbeats 1000000 in
theorem c33 : call33 Rel := by
  rintro a1 M ⟨N, hA⟩
  obtain ⟨⟨hN, hl, hG⟩, hC, hT, hV, hF, hR, hD, hOn, hS, -⟩ := id hA
  have hb := hN.1
  rcases ix_cases a1 (n := 4) (by omega) with ⟨t, ht, rfl⟩ | ha
  · have eIn : ∀ M1, fX11_in (nI t) 0 3 M1 = some 1 := fun M1 => (in_nI (n := 3) rfl (by omega) (by omega)).1
    have n0 : ¬ nI t < (0 : Int32) := nI_pos (by omega)
    have n4 : nI t < (4 : Int32) := nI_lt (b := 4) ht (by omega)
    rcases id hS with ⟨s1, s2, s3⟩ | ⟨z, hz1, hz2, s1, s2, s3, s4, s5, s6⟩
    · refine ⟨-4, M, M, ?_, ?_, N, hA⟩
      · have e2 : fX8_nextPlaceOf_l2 (nI t) M FU 0 = some (Sum.inr ()) := by
          obtain ⟨m, hm⟩ : ∃ m, FU = m + 1 := ⟨FU - 1, by have := FU_lt (n := 0) (by omega); omega⟩
          rw [hm, fX8_nextPlaceOf_l2, s2, if_pos (by decide)]
        rw [fX10_go, if_neg n0, if_pos n4, fX8_nextPlaceOf, e2, Option.bind_some]
        show Option.bind (some (-9 : Int32)) _ = _
        rw [Option.bind_some, fX8_has, if_pos (by decide), Option.bind_some, if_pos rfl]
      · obtain ⟨w, e, -⟩ := g_thr hN hl hG (nI t)
        rw [fX11_go, eIn, Option.bind_some, if_neg (by decide), e, Option.bind_some, s1, if_pos (by decide)]
    · obtain ⟨a, ha, h5, h1230⟩ := s6 t ht
      have ho : ∀ i, ∃ p, i < z → p < nP N ∧ mI M 1242 0 i = nI p ∧ mI M 902 0 i = nI p := fun i => by
        by_cases q : i < z
        · obtain ⟨p, h⟩ := s3 i q; exact ⟨p, fun _ => h⟩
        · exact ⟨0, fun h => absurd h q⟩
      obtain ⟨od, hod⟩ := Classical.axiomOfChoice ho
      have hO : Ord M N z od := ⟨⟨hz1, hz2⟩, s1, s2, hod⟩
      obtain ⟨w, ew, kw⟩ := g_place hN hl hC hT hO ht ha h5
      obtain ⟨g, eg, kg⟩ := g_thr hN hl hG (nI t)
      have n43 : ¬ nI z < (0 : Int32) := nI_pos (by omega)
      rcases kw with ⟨y, hy, y1, y2, rfl⟩ | ⟨y1, rfl⟩
      · have hm : (a + y) % z < z := Nat.mod_lt _ (by omega)
        obtain ⟨o1, o2, o3⟩ := hod _ hm
        generalize hx : (a + y) % z = xp at *
        generalize hpp : od xp = p at *
        have kg1 : g = 1 := by
          rcases kg with ⟨h, -⟩ | ⟨-, h⟩
          · exact h
          · exact absurd y1 (h p o1)
        subst kg1
        obtain ⟨f, x, yv, M0, M1, hf5, h25, eA, eW, F, k⟩ := att_ok hA o1
        have hC1 : fX8_has (nI xp) M = some 1 := by
          rw [fX8_has, if_neg (nI_pos (by omega)), s2, if_neg (nI_ge hm (by omega))]
        have pre : fX10_go (nI t) M = if yv = 1 then (chk (inb (nI t) (mN M1 905 0)) <| bnd (sI M1 905 0 t (nI xp + 1)) fun M21 => some ((mI M21 7 p 0, M21))) else if yv = 0 then some (((-9), M1)) else some ((yv, M1)) := by
          rw [fX10_go, if_neg n0, if_pos n4, fX8_nextPlaceOf, ew, Option.bind_some]
          show Option.bind (some (nI xp)) _ = _
          rw [Option.bind_some, hC1, Option.bind_some, if_neg (by decide), ln902 hl, chk_nI (by omega) (by omega), nI_clamp (by omega), o3, cPart_in hN hl hC o1, Option.bind_some, if_neg (by simp), eA, Option.bind_some]
          show Option.bind (fX10_withFinding x M0) _ = _
          rw [eW, Option.bind_some, nI_clamp (by omega)]
          rfl
        have e80 : ∀ Mx, Fr (905 :: kC2) M Mx → fX11_go_l80 (nI t) Mx FU (nI (a % z)) = some (nI xp) := fun Mx Fx => by
          have := g_l80 (a := a) (y := y) (t := t) hN (hl.fr Fx) (hO.fr Fx (by decide)) hy (by rw [hx, hpp, Fx.aI (by decide)]; exact y1) (fun y' h => by rw [Fx.aI (by decide)]; exact y2 y' h) _ FU 0 rfl (Nat.zero_le _) (FU_lt (by omega))
          rw [Nat.add_zero, hx] at this
          exact this
        have mpre : ∀ Mx, Fr (905 :: kC2) M Mx → fX11_go (nI t) Mx = if nI f = (5000 : Int32) then some (((-4), Mx)) else (fX11_mayFire (nI p) Mx).bind fun x28 => if x28 = 0 then some (((-9), Mx)) else (fX11_fires (nI p) Mx).bind fun (x31, M33) => if x31 = 1 then (chk (nz4 (mI M33 11 0 43)) <| chk (inb (nI t) (mN M33 1230 0)) <| bnd (sI M33 1230 0 t ((nI xp + 1) - (nI xp + 1) / (mI M33 11 0 43) * (mI M33 11 0 43))) fun M37 => some ((nI p, M37))) else some ((x31, M33)) := fun Mx Fx => by
          have egx : fX11_go_l15 (nI t) Mx FU 0 0 = some 1 := by
            obtain ⟨g, eg, kg⟩ := g_thr hN (hl.fr Fx) (hG.fr Fx (by decide)) (nI t)
            rcases kg with ⟨rfl, -⟩ | ⟨-, h⟩
            · exact eg
            · exact absurd (by rw [Fx.aI (by decide)]; exact y1) (h p o1)
          rw [fX11_go, eIn, Option.bind_some, if_neg (by decide), egx, Option.bind_some, Fx.oI (k := 11) (j := 43) (by decide), s1, if_neg n43, if_neg (by decide), Fx.oI (k := 11) (j := 25) (by decide), h25]
          congr 1
          rw [Fx.n, ln1230 hl, chk_nI (by omega) (by omega), bnd_eq, nI_clamp (by omega), Fx.aI (k := 1230) (by decide), h1230, e80 Mx Fx, Option.bind_some, Fx.n, ln1242 hl, chk_nI (by omega) (by omega), bnd_eq, nI_clamp (by omega), Fx.aI (k := 1242) (by decide), o2]
        rcases k with ⟨rfl, rfl, rfl⟩ | ⟨rfl, rfl, f5, k⟩ | ⟨f5, yy, k⟩
        · refine ⟨-4, M1, M1, ?_, ?_, N, hA⟩
          · rw [pre, if_neg (by decide), if_neg (by decide)]
          · rw [mpre M1 Fr.refl, if_pos (by decide)]
        · refine ⟨-9, M1, M1, ?_, ?_, N, hA⟩
          · rw [pre, if_neg (by decide), if_pos rfl]
          · rw [mpre M1 Fr.refl, if_neg (show ¬ nI f = (5000 : Int32) from nI_ne (b := 5000) (by omega) (by omega) (by omega)), k, Option.bind_some, if_pos rfl]
        · have nf : ¬ nI f = (5000 : Int32) := nI_ne (b := 5000) (by omega) (by omega) (by omega)
          by_cases q1 : yv = 1
          · subst q1
            have F905 : Fr [905] M1 (sI M1 905 0 t (nI (xp + 1))) := Fr.refl.wI (by decide)
            generalize hMx : sI M1 905 0 t (nI (xp + 1)) = Mx at F905
            have Fx : Fr (905 :: kC2) M Mx := (F.mono (by decide)).step F905 (by decide)
            obtain ⟨k1, M2, e2, G2, hA2⟩ := k Mx F905
            have FF : Fr frF M M2 := (Fx.mono (by decide)).step G2 (by decide)
            have nz : nz4 (nI z) = true := decide_eq_true (fun q => by have := (nI_eq (b := 0) (by omega) (by decide)).mp q; omega)
            have er : nI (xp + 1) - nI (xp + 1) / nI z * nI z = nI ((xp + 1) % z) := pk_rem (by omega) (by omega) (by omega)
            have F3 : Fr [1230] M2 (sI M2 1230 0 t (nI ((xp + 1) % z))) := Fr.refl.wI (by decide)
            refine ⟨nI p, Mx, sI M2 1230 0 t (nI ((xp + 1) % z)), ?_, ?_, N, (hA2.fr F3 (by decide)).al (Or.inr ⟨z, hz1, hz2, ?_, ?_, fun i hi => ?_, fun q hq => ?_, fun l hl' => ?_, fun t' ht' => ?_⟩)⟩
            · rw [pre, if_pos rfl, F.n, ln905 hl, chk_nI (by omega) (by omega), nI_1, hMx, bnd_eq, F905.oI (by decide), F.oI (by decide), (hC.2.1 p o1).1.2.1]
            · rw [mpre Mx Fx, if_neg nf, k1, Option.bind_some, if_neg (by decide), e2, Option.bind_some]
              show (if (1 : Int32) = 1 then _ else _) = _
              rw [if_pos rfl, FF.oI (k := 11) (j := 43) (by decide), s1, chk_tr nz, FF.n, ln1230 hl, chk_nI (by omega) (by omega), nI_1, er]
              rfl
            · rw [F3.oI (by decide), FF.oI (by decide)]; exact s1
            · rw [F3.oI (by decide), FF.oI (by decide)]; exact s2
            · rw [F3.aI (by decide), FF.aI (by decide), F3.aI (by decide), FF.aI (by decide)]; exact s3 i hi
            · simp only [F3.aI (k := 1242) (by decide), FF.aI (k := 1242) (by decide)]; exact s4 q hq
            · rw [F3.aI (by decide), FF.aI (by decide), F3.aI (by decide), FF.aI (by decide)]; exact s5 l hl'
            · have c905 : mI (sI M2 1230 0 t (nI ((xp + 1) % z))) 905 0 t' = if t' = t then nI (xp + 1) else mI M 905 0 t' := by
                rw [F3.aI (by decide), G2.aI (by decide), ← hMx, mI_sI]
                by_cases q : t' = t
                · rw [if_pos ⟨rfl, rfl, q⟩, if_pos q]
                · rw [if_neg (fun h => q h.2.2), if_neg q, F.aI (by decide)]
              have c1230 : mI (sI M2 1230 0 t (nI ((xp + 1) % z))) 1230 0 t' = if t' = t then nI ((xp + 1) % z) else mI M 1230 0 t' := by
                rw [mI_sI]
                by_cases q : t' = t
                · rw [if_pos ⟨rfl, rfl, q⟩, if_pos q]
                · rw [if_neg (fun h => q h.2.2), if_neg q, FF.aI (by decide)]
              rw [c905, c1230]
              by_cases q : t' = t
              · rw [if_pos q, if_pos q]; exact ⟨xp + 1, by omega, rfl, rfl⟩
              · rw [if_neg q, if_neg q]; exact s6 t' ht'
          · have q0 : ¬ yv = 0 := by
              rcases yy with e | e | e
              · exact absurd e q1
              · rw [e]; decide
              · rw [e]; decide
            obtain ⟨k1, M2, e2, G2, hA2⟩ := k M1 Fr.refl
            refine ⟨yv, M1, M2, ?_, ?_, N, hA2.al ((hS.fr F (by decide)).fr G2 (by decide))⟩
            · rw [pre, if_neg q1, if_neg q0]
            · rw [mpre M1 (F.mono (by decide)), if_neg nf, k1, Option.bind_some, if_neg (by decide), e2, Option.bind_some]
              show (if yv = 1 then _ else _) = _
              rw [if_neg q1]
      · have kg0 : g = 0 := by
          rcases kg with ⟨-, p, hp, h⟩ | ⟨h, -⟩
          · exfalso
            obtain ⟨i, hi, e⟩ := s4 p hp
            obtain ⟨o1, o2, -⟩ := hod i hi
            have ep : od i = p := (nI_eq (by omega) (by omega)).mp (o2.symm.trans e)
            refine y1 ((i + (z - a % z)) % z) (Nat.mod_lt _ (by omega)) ?_
            have ei : (a + (i + (z - a % z)) % z) % z = i := by
              rw [Nat.add_mod_mod]
              have h1 := Nat.mod_lt a (show 0 < z by omega)
              have h2 := Nat.div_add_mod a z
              rw [show a + (i + (z - a % z)) = i + z * (a / z + 1) by rw [Nat.mul_add, Nat.mul_one]; omega, Nat.add_mul_mod_self_left, Nat.mod_eq_of_lt hi]
            rw [ei, ep]; exact h
          · exact h
        subst kg0
        refine ⟨-4, M, M, ?_, ?_, N, hA⟩
        · rw [fX10_go, if_neg n0, if_pos n4, fX8_nextPlaceOf, ew, Option.bind_some]
          show Option.bind (some (-9 : Int32)) _ = _
          rw [Option.bind_some, fX8_has, if_pos (by decide), Option.bind_some, if_pos rfl]
        · rw [fX11_go, eIn, Option.bind_some, if_neg (by decide), eg, Option.bind_some, s1, if_neg n43, if_pos rfl]
  · obtain ⟨g1, g2⟩ := g_out (M := M) ha
    refine ⟨-1, M, M, ?_, ?_, N, hA⟩
    · rw [fX10_go]
      by_cases q : a1 < 0
      · rw [if_pos q]
      · rw [if_neg q, if_neg (g2 q)]
    · rw [fX11_go, g1]; rfl
