/-! check -/
def kAd : List Nat := [601, 602, 603, 604, 605, 902, 904, 905, 60006, 60007, 60008, 90003]
theorem c_fault {M : tM} {N : NG} {R od : Nat → Nat} {d : Nat} (hN : NOK N) (hl : Len M) (hC : Cg M M N) (hr : rndOf N = .inl R) (hR : ∀ p, p < nP N → mI M 7 p 6 = nI (R p)) (h4 : mI M 1 0 4 = nI (sumTo R (nP N))) (hd : d ≤ 200) (ho : ∀ i, i < d → od i < nP N ∧ mI M 1107 0 i = nI (od i)) :
    Ok (fX8_faultOf 1107 0 (nI d) M) (fun w => Fr kK M w.2 ∧ ((∃ i, i < d ∧ vr N R od i ∧ ¬ en N R (nS N) (cO od i) (od i) ∧ w.1 = nI i) ∨ (vr N R od d ∧ (∀ p, p < nP N → ¬ cO od d p < R p) ∧ w.1 = (-1)) ∨ (vr N R od d ∧ (∃ p, p < nP N ∧ cO od d p < R p) ∧ w.1 = nI d))) := by
  have hb := hN.1
  have hB := RB_0 hN hr
  rw [fX8_faultOf]
  refine ok_call (c_begin hN hl hC hR h4) ?_
  rintro M1 ⟨F1, k1, k2⟩
  have key : Ok (fX8_faultOf_l9 1107 0 (nI d) FU 0 M1) (fun w => (∃ i m, i < d ∧ w = .inl (nI i, m) ∧ Fr kK M m ∧ vr N R od i ∧ ¬ en N R (nS N) (cO od i) (od i)) ∨ ∃ m, w = .inr m ∧ Fr kK M m ∧ vr N R od d ∧ MC m N R (nS N) (cO od d)) := by
    refine loop0 (fun n i m => fX8_faultOf_l9 1107 0 (nI d) n i m) d (fun i m => Fr kK M m ∧ vr N R od i ∧ MC m N R (nS N) (cO od i) ∧ SC m N (sO N od i) i (laO od i)) _ (by omega) ?_ ?_ M1 ⟨F1, fun i hi => by omega, k1, k2⟩
    · rintro n m ⟨F, h1, h2, h3⟩
      rw [fX8_faultOf_l9, if_pos (nI_le (Nat.le_refl _) (by omega))]
      exact ok_some (Or.inr ⟨m, rfl, F, h1, h2⟩)
    · rintro n i m hi ⟨F, h1, h2, h3⟩ kk
      obtain ⟨o1, o2⟩ := ho i hi
      have hCm := hC.fr F (by decide)
      rw [fX8_faultOf_l9, if_neg (nI_ge hi (by omega)), chk_tr (by decide), chk_tr (by decide), F.n, ln1107 hl, if_neg (nI_ge (show i < 200 by omega) (by omega)), chk_tr (by decide), chk_nI (by omega) (by omega), nI_clamp (by omega), F.aI (by decide), o2, cPart_in hN (hl.fr F) hCm o1, Option.bind_some, if_neg (by simp)]
      rcases c_can hN (hl.fr F) hCm h2 hB (vr_ok h1) o1 with ⟨e, ee⟩ | ⟨e, ee⟩
      · rw [e, Option.bind_some, if_neg (by decide)]
        have hv : vr N R od (i + 1) := fun j hj => by
          by_cases q : j = i
          · rw [q]; exact ⟨o1, ee⟩
          · exact h1 j (by omega)
        refine ok_call (c_stepO hN (hl.fr F) hCm h2 h3 hB hv) ?_
        rintro m2 ⟨F2, g1, g2⟩
        rw [bnd_eq, nI_1]
        exact kk m2 ⟨F.step F2 (by decide), hv, g1, g2⟩
      · rw [e, Option.bind_some, if_pos rfl]
        exact ok_some (Or.inl ⟨i, m, hi, rfl, F, h1, ee⟩)
  refine ok_call key ?_
  rintro w (⟨i, m, hi, rfl, F, h1, h2⟩ | ⟨m, rfl, F, h1, h2⟩)
  · exact ok_some ⟨F, Or.inl ⟨i, hi, h1, h2, rfl⟩⟩
  · show Ok (if mI m 5 0 6 ≤ 0 then _ else _) _
    have lo := left_0 (c := cO od d) hB
    have sr := sumR_le (c := cO od d) hB
    rw [h2.2.2]
    by_cases c : sumTo (fun q => R q - cO od d q) (nP N) ≤ 0
    · rw [if_pos (show nI _ ≤ (0 : Int32) from nI_le (b := 0) c (by omega))]
      exact ok_some ⟨F, Or.inr (Or.inl ⟨h1, lo.mp c, rfl⟩)⟩
    · rw [if_neg (nI_nle (by omega) (by omega))]
      exact ok_some ⟨F, Or.inr (Or.inr ⟨h1, Classical.byContradiction (fun h => c (lo.mpr (fun p hp z => h ⟨p, hp, z⟩))), rfl⟩)⟩
theorem c_adopt {M : tM} {N : NG} {R od : Nat → Nat} {d kz L : Nat} (hN : NOK N) (hl : Len M) (hC : Cg M M N) (hr : rndOf N = .inl R) (hR : ∀ p, p < nP N → mI M 7 p 6 = nI (R p)) (h4 : mI M 1 0 4 = nI (sumTo R (nP N))) (t1 : tO kz = none) (t2 : tRO kz = false) (t3 : tIsI kz = true) (hn : mN M kz 0 = L) (hd : d ≤ L) (hd2 : d ≤ 2000) (hkz : (decide (24 ≤ kz) && !kAd.contains kz) = true) (ho : ∀ i, i < d → od i < nP N ∧ mI M kz 0 i = nI (od i)) (hL : L < 2 ^ 31) (hv : vr N R od d) :
    Ok (fX8_adopt kz 0 (nI d) M) (fun w => Fr kAd M w.2 ∧ w.1 = nI (sumTo (sO N od d) (nL N)) ∧ mI w.2 8 0 3 = nI d ∧ (∀ i, i < d → mI w.2 902 0 i = nI (od i)) ∧ (∀ l, l < nL N → mI w.2 904 0 l = nI (sO N od d l)) ∧ ∀ t, t < 4 → mI w.2 905 0 t = 0) := by
  have hb := hN.1
  have hB := RB_0 hN hr
  rw [fX8_adopt]
  refine ok_call (c_begin hN hl hC hR h4) ?_
  rintro M1 ⟨F1, k1, k2⟩
  have key : Ok (fX8_adopt_l9 kz 0 (nI d) FU 0 M1) (fun m => Fr kAd M m ∧ SC m N (sO N od d) d (laO od d) ∧ ∀ j, j < d → mI m 902 0 j = nI (od j)) := by
    refine loop0 (fun n i m => fX8_adopt_l9 kz 0 (nI d) n i m) d (fun i m => Fr kAd M m ∧ MC m N R (nS N) (cO od i) ∧ SC m N (sO N od i) i (laO od i) ∧ ∀ j, j < i → mI m 902 0 j = nI (od j)) _ (by omega) ?_ ?_ M1 ⟨F1.mono (by decide), k1, k2, fun j hj => by omega⟩
    · rintro n m ⟨F, h2, h3, h5⟩
      rw [fX8_adopt_l9, if_pos (nI_le (Nat.le_refl _) (by omega))]
      exact ok_some ⟨F, h3, h5⟩
    · rintro n i m hi ⟨F, h2, h3, h5⟩ kk
      obtain ⟨o1, o2⟩ := ho i hi
      have nk : mN m kz 0 = L := (F.n _ _).trans hn
      rw [fX8_adopt_l9, if_neg (nI_ge hi (by omega)), chk_tr (by simp [t1]), chk_tr (by simp [t2]), nk, if_neg (nI_ge (show i < L by omega) hL), F.n, ln902 hl, if_neg (nI_ge (show i < 2000 by omega) (by omega)), chk_tr t3, chk_nI (by omega) (by omega), chk_nI (by omega) (by omega), bnd_eq, nI_clamp (by omega), F.aI hkz, o2]
      have F2 : Fr [902] m (sI m 902 0 i (nI (od i))) := Fr.refl.wI (by decide)
      have v5 : ∀ j, j < i + 1 → mI (sI m 902 0 i (nI (od i))) 902 0 j = nI (od j) := fun j hj => by
        rw [mI_sI]
        by_cases e : j = i
        · rw [if_pos ⟨rfl, rfl, e⟩, e]
        · rw [if_neg (fun z => e z.2.2)]; exact h5 j (by omega)
      generalize sI m 902 0 i (nI (od i)) = m1 at *
      have G : Fr kAd M m1 := F.step F2 (by decide)
      have hC1 := hC.fr G (by decide)
      rw [chk_tr t3, G.n, hn, chk_nI (by omega) (by omega), G.aI hkz, o2, cPart_in hN (hl.fr G) hC1 o1, Option.bind_some, if_neg (by simp)]
      refine ok_call (P := fun m2 => Fr kAd M m2 ∧ MC m2 N R (nS N) (cO od (i + 1)) ∧ SC m2 N (sO N od (i + 1)) (i + 1) (laO od (i + 1)) ∧ ∀ j, j < i + 1 → mI m2 902 0 j = nI (od j)) ?_ ?_
      · refine ok_call (c_stepO (k := i) hN (hl.fr G) hC1 ⟨fun l hl' => (F2.aI (by decide)).trans (h2.1 l hl'), fun p hp => by rw [F2.aI (by decide), F2.aI (by decide)]; exact h2.2.1 p hp, (F2.oI (by decide)).trans h2.2.2⟩ ⟨fun l hl' => by rw [F2.aI (by decide)]; exact h3.1 l hl', (F2.oI (by decide)).trans h3.2.1, (F2.oI (by decide)).trans h3.2.2.1, fun p hp => (F2.aI (by decide)).trans (h3.2.2.2 p hp)⟩ hB (vr_le hv (by omega))) ?_
        rintro m2 ⟨F3, g1, g2⟩
        exact ok_some ⟨G.step F3 (by decide), g1, g2, fun j hj => (F3.aI (by decide)).trans (v5 j hj)⟩
      · rintro m2 h
        rw [bnd_eq, nI_1]
        exact kk m2 h
  refine ok_call key ?_
  rintro M2 ⟨F2, h3, h5⟩
  refine ok_call (c_settle hN (hl.fr F2) h3 hd2) ?_
  rintro ⟨x, M3⟩ ⟨F3, g1, g2, g3, g4⟩
  exact ok_some ⟨F2.step F3 (by decide), g1, g2, fun i hi => (F3.aI (by decide)).trans (h5 i hi), g3, g4⟩
/-- the class's ROUND, from less than all -/
theorem nor_c {M : tM} {N : NG} (hN : NOK N) (hl : Len M) (hC : Cg M M N) (hk : Cc1 M N) : ∃ x M1, fX1_roundState M = some (x, M1) ∧ Fr kRnd M M1 ∧ Cc1 M1 N ∧ ((nP N = 0 ∧ x = (-4)) ∨ (0 < nP N ∧ ((∃ R, rndOf N = .inl R ∧ x = 0 ∧ (∀ p, p < nP N → mI M1 7 p 6 = nI (R p)) ∧ mI M1 1 0 4 = nI (sumTo R (nP N))) ∨ (∃ l, rndOf N = .inr (some l) ∧ x = (-9)) ∨ (rndOf N = .inr none ∧ x = (-6))))) := by
  obtain ⟨⟨x, M1⟩, e, F, ex, h6, hr⟩ := c_round hN hl hC hk
  have ex : x = mI M1 1 0 7 := ex
  refine ⟨x, M1, e, F, Or.inr ⟨h6, hr⟩, ?_⟩
  rcases hr with ⟨p0, h7⟩ | ⟨p0, ⟨R, q1, q2, q3, q4, q5⟩ | ⟨l, hl', q1, q2, q3⟩ | ⟨q1, q2, q3⟩⟩
  · exact Or.inl ⟨p0, ex.trans h7⟩
  · exact Or.inr ⟨p0, Or.inl ⟨R, q1, ex.trans q2, q5, q3⟩⟩
  · exact Or.inr ⟨p0, Or.inr (Or.inl ⟨l, q1, ex.trans q2⟩)⟩
  · exact Or.inr ⟨p0, Or.inr (Or.inr ⟨q1, ex.trans q2⟩)⟩
/-- all but the ROUND kept, the draft, the SCHEDULE -/
def AlC (M : tM) (N : NG) : Prop := (NOK N ∧ Len M ∧ Gr M N) ∧ Cg M M N ∧ Ct M M N ∧ Cv M M N ∧ Cf M M ∧ Cr M M ∧ Co M M ∧ Cc2 M N ∧ Cc3 M N
def rsAlC : List Nat := rsGr ++ rsCg ++ rsCt ++ rsCv ++ rsCf ++ rsCr ++ rsCo ++ rsCc2 ++ rsCc3
theorem AlC.fr {ks : List Nat} {M M2 : tM} {N : NG} (h : AlC M N) (F : Fr ks M M2) (hd : disj ks rsAlC = true) : AlC M2 N := by
  obtain ⟨⟨hN, hl, hG⟩, hC, hT, hV, hF, hR, hO, k2, k3⟩ := h
  exact ⟨⟨hN, hl.fr F, hG.fr F (disj_sub hd (by decide))⟩, hC.fr F (disj_sub hd (by decide)), hT.fr F (disj_sub hd (by decide)), hV.fr F (disj_sub hd (by decide)), hF.fr F (disj_sub hd (by decide)), hR.fr F (disj_sub hd (by decide)), hO.fr F (disj_sub hd (by decide)), k2.fr F (disj_sub hd (by decide)), k3.fr F (disj_sub hd (by decide))⟩
theorem AlC.al {M : tM} {N : NG} (h : AlC M N) (hD : Cd M M N) (hS : Cs M M N) (h1 : Cc1 M N) : Al M N := by
  obtain ⟨h0, hC, hT, hV, hF, hR, hO, k2, k3⟩ := h
  exact ⟨h0, hC, hT, hV, hF, hR, hD, hO, hS, h1, k2, k3⟩
theorem Al.c {M : tM} {N : NG} (h : Al M N) : AlC M N := by
  obtain ⟨h0, hC, hT, hV, hF, hR, hD, hO, hS, h1, k2, k3⟩ := h
  exact ⟨h0, hC, hT, hV, hF, hR, hO, k2, k3⟩
def kCk : List Nat := [1232, 1233, 1234, 1235, 1238, 1239, 1240, 1245, 1246, 120036, 120037]
/-- the model's run along the draft -/
theorem m_check {X : tM} {N : NG} {R od : Nat → Nat} {d : Nat} (hN : NOK N) (hl : Len X) (hG : Gr X N) (hr : rndOf N = .inl R) (hd : d ≤ 200) (ho : ∀ i, i < d → od i < nP N ∧ mI X 1264 0 i = nI (od i)) (hR : ∀ p, p < nP N → mI X 1235 0 p = nI (R p)) :
    Ok ((fX11_markFirst 0 X).bind fun M8 => (fX11_storeFirst M8).bind fun M10 => fX11_check_l33 (nI d) FU 0 M10) (fun w => (∃ i m, i < d ∧ w = .inl ((-10) - nI i, m) ∧ Fr [1238, 1239, 1240, 1245, 1246] X m ∧ vr N R od i ∧ ¬ en N R (nS N) (cO od i) (od i)) ∨ ∃ m, w = .inr m ∧ Fr [1238, 1239, 1240, 1245, 1246] X m ∧ vr N R od d ∧ MX m N R (nS N) (cO od d) ∧ S46 m N (sO N od d) ∧ ∀ i, i < d → mI m 1245 0 i = nI (od i)) := by
  have hb := hN.1
  have hB := RB_0 hN hr
  refine ok_call (m_first (fs := nS N) (y := 0) hN hl hG hR (fun l _ => Or.inl ⟨rfl, rfl⟩)) ?_
  rintro X1 ⟨F1, k1⟩
  refine ok_call (m_storeF (m := nS N) hN (hl.fr F1) (hG.fr F1 (by decide)) (fun l hl' => by rw [k1.1 l hl', mk_0])) ?_
  rintro X2 ⟨F2, k2⟩
  have G2 : Fr [1238, 1239, 1240, 1245, 1246] X X2 := (F1.mono (by decide)).step F2 (by decide)
  refine loop0 (fun n i m => fX11_check_l33 (nI d) n i m) d (fun i m => Fr [1238, 1239, 1240, 1245, 1246] X m ∧ vr N R od i ∧ MX m N R (nS N) (cO od i) ∧ S46 m N (sO N od i) ∧ ∀ j, j < i → mI m 1245 0 j = nI (od j)) _ (by omega) ?_ ?_ X2 ⟨G2, fun i hi => by omega, k1.fr F2 (by decide), k2, fun j hj => by omega⟩
  · rintro n m ⟨F, h1, h2, h3, h4⟩
    rw [fX11_check_l33, if_pos (nI_le (Nat.le_refl _) (by omega))]
    exact ok_some (Or.inr ⟨m, rfl, F, h1, h2, h3, h4⟩)
  · rintro n i m hi ⟨F, h1, h2, h3, h4⟩ kk
    obtain ⟨o1, o2⟩ := ho i hi
    have hRp := hB.1 _ o1
    have hK := vr_ok h1
    rw [fX11_check_l33, if_neg (nI_ge hi (by omega)), F.n, ln1264 hl, chk_nI (by omega) (by omega), bnd_eq, nI_clamp (by omega), F.aI (by decide), o2, F.n, ln1240 hl, chk_nI (by omega) (by omega), nI_clamp (by omega), (h2.2 _ o1).2]
    have bad : ¬ en N R (nS N) (cO od i) (od i) → Ok (some (Sum.inl (((-10 : Int32) - nI i, m)))) (fun w => (∃ i m, i < d ∧ w = .inl ((-10) - nI i, m) ∧ Fr [1238, 1239, 1240, 1245, 1246] X m ∧ vr N R od i ∧ ¬ en N R (nS N) (cO od i) (od i)) ∨ ∃ m, w = .inr m ∧ Fr [1238, 1239, 1240, 1245, 1246] X m ∧ vr N R od d ∧ MX m N R (nS N) (cO od d) ∧ S46 m N (sO N od d) ∧ ∀ i, i < d → mI m 1245 0 i = nI (od i)) := fun ne => ok_some (Or.inl ⟨i, m, hi, rfl, F, h1, ne⟩)
    by_cases r : cO od i (od i) < R (od i)
    · rw [if_neg (nI_ne0 (by omega) (by omega))]
      rcases m_may hN (hl.fr F) (hG.fr F (by decide)) h2 hB hK o1 with ⟨ev, t⟩ | ⟨ev, t⟩
      · have ee := (en_iff hK).mpr ⟨r, t⟩
        have hv : vr N R od (i + 1) := fun j hj => by
          by_cases q : j = i
          · rw [q]; exact ⟨o1, ee⟩
          · exact h1 j (by omega)
        rw [ev, Option.bind_some, if_neg (by decide)]
        refine ok_call (m_fire hN (hl.fr F) (hG.fr F (by decide)) h2 hB hK o1 ee) ?_
        rintro m2 ⟨F3, g1⟩
        have G3 : Fr [1238, 1239, 1240, 1245, 1246] X m2 := F.step F3 (by decide)
        refine ok_call (m_storeM (m := fun l => mk N (nS N) (cO od (i + 1)) l) (st := sO N od i) hN (hl.fr G3) (hG.fr G3 (by decide)) g1.1 (fun l hl' => (F3.aI (by decide)).trans (h3 l hl')) (fun l hl' => ⟨mk_le hN hB (vr_ok hv) hl', sO_le hN hB h1 l hl'⟩)) ?_
        rintro m3 ⟨F4, g2⟩
        have G4 : Fr [1238, 1239, 1240, 1245, 1246] X m3 := G3.step F4 (by decide)
        rw [G4.n, ln1245 hl, chk_nI (by omega) (by omega), bnd_eq, bnd_eq, nI_1]
        have F5 : Fr [1245] m3 (sI m3 1245 0 i (nI (od i))) := Fr.refl.wI (by decide)
        refine kk _ ⟨G4.step F5 (by decide), hv, (g1.fr F4 (by decide)).fr F5 (by decide), fun l hl' => (F5.aI (by decide)).trans (g2 l hl'), fun j hj => ?_⟩
        rw [mI_sI]
        by_cases q : j = i
        · rw [if_pos ⟨rfl, rfl, q⟩, q]
        · rw [if_neg (fun z => q z.2.2), F4.aI (by decide), F3.aI (by decide)]; exact h4 j (by omega)
      · rw [ev, Option.bind_some, if_pos rfl]
        exact bad (fun ne => t ((en_iff hK).mp ne).2)
    · rw [if_pos (show nI (R (od i) - cO od i (od i)) = 0 by rw [show R (od i) - cO od i (od i) = 0 by omega]; rfl)]
      exact bad (fun ne => r ne.1)
theorem vr_stop {N : NG} {R od : Nat → Nat} {i j : Nat} (hi : vr N R od i) (ni : ¬ en N R (nS N) (cO od i) (od i)) (hj : vr N R od j) : j ≤ i := by
  by_cases h : j ≤ i
  · exact h
  · exact absurd (hj i (by omega)).2 ni
def ckE (d : Int32) (w : (Int32 × tM) ⊕ tM) : Option (Int32 × tM) := match w with
  | .inl q => some q
  | .inr M28 => (fX11_leastLeft M28).bind fun x29 => if x29 < 0 then (fX11_settle d M28).bind fun (x32, M34) => some ((x32, M34)) else some (((-10) - d, M28))
theorem c25 : call25 Rel := by
  rintro M ⟨N, hA⟩
  obtain ⟨⟨hN, hl, hG⟩, hC, hT, hV, hF, hR0, hD, hO, hS, hk1, hk2, hk3⟩ := id hA
  have hb := hN.1
  obtain ⟨d, hd, d1, d2, hp⟩ := hD
  have ho : ∀ i, ∃ p, i < d → p < nP N ∧ mI M 1264 0 i = nI p ∧ mI M 1107 0 i = nI p := fun i => by
    by_cases q : i < d
    · obtain ⟨p, h⟩ := hp i q; exact ⟨p, fun _ => h⟩
    · exact ⟨0, fun h => absurd h q⟩
  obtain ⟨od, hod⟩ := Classical.axiomOfChoice ho
  have F0 : Fr [110008] M (sI M 10 0 8 0) := Fr.refl.wIo (by decide)
  have z8 : mI (sI M 10 0 8 0) 10 0 8 = 0 := by rw [mI_sI, if_pos ⟨rfl, rfl, rfl⟩]
  have pre : fX10_check M = (fX10_noRound (sI M 10 0 8 0)).bind fun (x3, M5) => if x3 = 0 then (fX8_faultOf 1107 0 (nI d) M5).bind fun (x7, M9) => if x7 < 0 then (fX8_adopt 1107 0 (nI d) M9).bind fun (x11, M13) => some ((x11, M13)) else some (((-10) - x7, M9)) else some ((x3, M5)) := by
    rw [fX10_check, bnd_eq, bnd_eq, d2]
  generalize sI M 10 0 8 0 = M0 at *
  obtain ⟨x, M1, e, F1, hc1, hx⟩ := nor_c hN (hl.fr F0) (hC.fr F0 (by decide)) (hk1.fr F0 (by decide))
  have G1 : Fr [208, 209, 20004, 20005, 20006, 20007, 80006, 110008] M M1 := (F0.mono (by decide)).step F1 (by decide)
  have z81 : mI M1 10 0 8 = 0 := (F1.oI (by decide)).trans z8
  have hC1 := hC.fr G1 (by decide)
  have hAC := hA.c
  -- the model's beginning, from any memory behind the class
  have mpre : ∀ Mx, mI Mx 11 0 65 = nI d → fX11_check Mx = (fX11_barred 0 (sI Mx 11 0 65 0)).bind fun (x3, M5) => if 0 ≤ x3 then (fX11_markFirst 0 M5).bind fun M8 => (fX11_storeFirst M8).bind fun M10 => Option.bind (fX11_check_l33 (nI d) FU 0 M10) (ckE (nI d)) else some ((x3, M5)) := fun Mx e65 => by
    rw [fX11_check, bnd_eq, bnd_eq, e65]
    rfl
  have fin0 : ∀ Mx, mI (sI Mx 11 0 65 0) 11 0 65 = 0 := fun Mx => by rw [mI_sI, if_pos ⟨rfl, rfl, rfl⟩]
  -- where nothing is run
  have stop : ∀ v : Int32, ¬ v = 0 → ¬ (0 : Int32) ≤ v → fX10_noRound M0 = some (v, M1) → (∀ Mx, Len Mx → Gr Mx N → ∃ M2, fX11_barred 0 Mx = some (v, M2) ∧ Fr kBM Mx M2) → ∃ v M1 M2, fX10_check M = some (v, M1) ∧ fX11_check M1 = some (v, M2) ∧ Rel M2 := fun v v0 vn e1 hbar => by
    have F65 : Fr [120065] M1 (sI M1 11 0 65 0) := Fr.refl.wIo (by decide)
    have GX : Fr [208, 209, 20004, 20005, 20006, 20007, 80006, 110008, 120065] M (sI M1 11 0 65 0) := (G1.mono (by decide)).step F65 (by decide)
    obtain ⟨M2, e2, F2⟩ := hbar _ (hl.fr GX) (hG.fr GX (by decide))
    refine ⟨v, M1, M2, ?_, ?_, N, ?_⟩
    · rw [pre, e1, Option.bind_some]
      show (if v = 0 then _ else _) = _
      rw [if_neg v0]
    · rw [mpre M1 ((G1.oI (by decide)).trans d1), e2, Option.bind_some]
      show (if 0 ≤ v then _ else _) = _
      rw [if_neg vn]
    · have GA : Fr [208, 209, 1232, 1233, 1234, 1235, 1238, 1239, 1240, 20004, 20005, 20006, 20007, 80006, 110008, 120036, 120037, 120065] M M2 := (GX.mono (by decide)).step F2 (by decide)
      refine (hAC.fr GA (by decide)).al ⟨0, by omega, ?_, ?_, fun j hj => by omega⟩ (hS.fr GA (by decide)) ((hc1.fr F65 (by decide)).fr F2 (by decide))
      · exact (F2.oI (by decide)).trans (fin0 M1)
      · exact (F2.oI (by decide)).trans ((F65.oI (by decide)).trans z81)
  have barC : ∀ v : Int32, (∀ Mx w, (nP N = 0 ∧ w = (-4)) ∨ (0 < nP N ∧ ((∃ R, rndOf N = .inl R ∧ mI Mx 11 0 36 = nI (sumTo R (nP N)) ∧ (∀ p, p < nP N → mI Mx 1235 0 p = nI (R p)) ∧ ((w = 0 ∧ ((0 : Int32) = 0 ∨ ¬ stk N R (nS N))) ∨ (w = (-4) ∧ (0 : Int32) = 1 ∧ stk N R (nS N)))) ∨ (∃ l, rndOf N = .inr (some l) ∧ w = (-4)) ∨ (rndOf N = .inr none ∧ w = (-6)))) → w = v) → ∀ Mx, Len Mx → Gr Mx N → ∃ M2, fX11_barred 0 Mx = some (v, M2) ∧ Fr kBM Mx M2 := fun v hv Mx hlx hGx => by
    obtain ⟨⟨w, M2⟩, e2, F2, hw⟩ := m_barred (y := 0) hN hlx hGx (Or.inl rfl)
    have := hv M2 w hw
    subst this
    exact ⟨M2, e2, F2⟩
  rcases hx with ⟨p0, x4⟩ | ⟨p0, ⟨R, r1, x0, hR, h4⟩ | ⟨l, r1, x9⟩ | ⟨r1, x6⟩⟩
  · refine stop (-4) (by decide) (by decide) ?_ (barC (-4) (fun Mx w hw => ?_))
    · rw [fX10_noRound, e, Option.bind_some]
      show (if x = (-9) then _ else _) = _
      rw [x4, if_neg (by decide)]
    · rcases hw with ⟨-, h⟩ | ⟨h, -⟩
      · exact h
      · omega
  rotate_left
  · refine stop (-4) (by decide) (by decide) ?_ (barC (-4) (fun Mx w hw => ?_))
    · rw [fX10_noRound, e, Option.bind_some]
      show (if x = (-9) then _ else _) = _
      rw [x9, if_pos rfl]
    · rcases hw with ⟨h, -⟩ | ⟨-, ⟨R', r2, -⟩ | ⟨l, r2, w1⟩ | ⟨r2, -⟩⟩
      · omega
      · rw [r1] at r2; cases r2
      · exact w1
      · rw [r1] at r2; cases r2
  · refine stop (-6) (by decide) (by decide) ?_ (barC (-6) (fun Mx w hw => ?_))
    · rw [fX10_noRound, e, Option.bind_some]
      show (if x = (-9) then _ else _) = _
      rw [x6, if_neg (by decide)]
    · rcases hw with ⟨h, -⟩ | ⟨-, ⟨R', r2, -⟩ | ⟨l, r2, w1⟩ | ⟨r2, w1⟩⟩
      · omega
      · rw [r1] at r2; cases r2
      · rw [r1] at r2; cases r2
      · exact w1
  have enr : fX10_noRound M0 = some (0, M1) := by
    rw [fX10_noRound, e, Option.bind_some]
    show (if x = (-9) then _ else _) = _
    rw [x0, if_neg (by decide)]
  obtain ⟨⟨x7, M2⟩, e2, F2, hw⟩ := c_fault hN (hl.fr G1) hC1 r1 hR h4 hd (fun i hi => ⟨(hod i hi).1, (G1.aI (by decide)).trans (hod i hi).2.2⟩)
  have F2 : Fr kK M1 M2 := F2
  have G2 : Fr [208, 209, 601, 602, 603, 604, 605, 20004, 20005, 20006, 20007, 60006, 60007, 60008, 80006, 110008] M M2 := (G1.mono (by decide)).step F2 (by decide)
  have prc : fX10_check M = if x7 < 0 then (fX8_adopt 1107 0 (nI d) M2).bind fun (x11, M13) => some ((x11, M13)) else some (((-10) - x7, M2)) := by
    rw [pre, enr, Option.bind_some]
    show (if (0 : Int32) = 0 then _ else _) = _
    rw [if_pos rfl, e2, Option.bind_some]
  -- the model, behind the class's memory Mx
  have model : ∀ Mx ks, Fr ks M Mx → disj ks (120065 :: rsGr) = true → disj ks [1264] = true → disj ks [11, 120065] = true →
      ∃ M4 M5 w, Fr kBM (sI Mx 11 0 65 0) M4 ∧ fX11_check Mx = ckE (nI d) w ∧ Fr [1238, 1239, 1240, 1245, 1246] M4 M5 ∧ ((∃ i, i < d ∧ w = .inl ((-10) - nI i, M5) ∧ vr N R od i ∧ ¬ en N R (nS N) (cO od i) (od i)) ∨ (w = .inr M5 ∧ vr N R od d ∧ MX M5 N R (nS N) (cO od d) ∧ S46 M5 N (sO N od d) ∧ ∀ i, i < d → mI M5 1245 0 i = nI (od i))) := fun Mx ks Fx hdx hd2 hd3 => by
    have F65 : Fr [120065] Mx (sI Mx 11 0 65 0) := Fr.refl.wIo (by decide)
    have hlx := hl.fr Fx
    have hGx := (hG.fr Fx (disj_sub hdx (fun r hr => List.mem_cons_of_mem _ hr))).fr F65 (by decide)
    obtain ⟨⟨y, M4⟩, e4, F4, hy⟩ := m_barred (y := 0) hN (hlx.fr F65) hGx (Or.inl rfl)
    have F4 : Fr kBM (sI Mx 11 0 65 0) M4 := F4
    rcases hy with ⟨h, -⟩ | ⟨-, ⟨R', r2, w2, w3, w1⟩ | ⟨l, r2, -⟩ | ⟨r2, -⟩⟩
    · omega
    · rw [r1] at r2
      cases r2
      have y0 : y = 0 := by
        rcases w1 with ⟨w, -⟩ | ⟨-, w, -⟩
        · exact w
        · exact absurd w (by decide)
      have hl4 := (hlx.fr F65).fr F4
      have ho4 : ∀ i, i < d → od i < nP N ∧ mI M4 1264 0 i = nI (od i) := fun i hi => ⟨(hod i hi).1, by rw [F4.aI (by decide), F65.aI (by decide), Fx.gI hd2 1264 (by decide)]; exact (hod i hi).2.1⟩
      obtain ⟨w, e5, hw5⟩ := m_check hN hl4 (hGx.fr F4 (by decide)) r1 hd ho4 w3
      have ec : fX11_check Mx = ckE (nI d) w := by
        rw [mpre Mx ((Fx.hI hd3 11 65 (by decide) 0).trans d1), e4, Option.bind_some]
        show (if 0 ≤ y then _ else _) = _
        rw [y0, if_pos (by decide)]
        cases e6 : fX11_markFirst 0 M4 with
        | none => rw [e6] at e5; cases e5
        | some M8 =>
          rw [e6, Option.bind_some] at e5
          rw [Option.bind_some]
          cases e7 : fX11_storeFirst M8 with
          | none => rw [e7] at e5; cases e5
          | some M10 =>
            rw [e7, Option.bind_some] at e5
            rw [Option.bind_some, e5, Option.bind_some]
      rcases hw5 with ⟨i, m, hi, rfl, Fm, h1, h2⟩ | ⟨m, rfl, Fm, h1, h2⟩
      · exact ⟨M4, m, _, F4, ec, Fm, Or.inl ⟨i, hi, rfl, h1, h2⟩⟩
      · exact ⟨M4, m, _, F4, ec, Fm, Or.inr ⟨rfl, h1, h2⟩⟩
    · rw [r1] at r2; cases r2
    · rw [r1] at r2; cases r2
  -- the end without a new SCHEDULE
  have endO : ∀ M4 M5, Fr kBM (sI M2 11 0 65 0) M4 → Fr [1238, 1239, 1240, 1245, 1246] M4 M5 → Al M5 N := fun M4 M5 F4 F5 => by
    have F65 : Fr [120065] M2 (sI M2 11 0 65 0) := Fr.refl.wIo (by decide)
    have GX : Fr (1232 :: 1233 :: 1234 :: 1235 :: 1238 :: 1239 :: 1240 :: 1245 :: 1246 :: 120036 :: 120037 :: 120065 :: [208, 209, 601, 602, 603, 604, 605, 20004, 20005, 20006, 20007, 60006, 60007, 60008, 80006, 110008]) M M5 := (((G2.mono (by decide)).step F65 (by decide)).step F4 (by decide)).step F5 (by decide)
    refine (hAC.fr GX (by decide)).al ⟨0, by omega, ?_, ?_, fun j hj => by omega⟩ (hS.fr GX (by decide)) ((((hc1.fr F2 (by decide)).fr F65 (by decide)).fr F4 (by decide)).fr F5 (by decide))
    · exact (F5.oI (by decide)).trans ((F4.oI (by decide)).trans (fin0 M2))
    · exact (F5.oI (by decide)).trans ((F4.oI (by decide)).trans ((F65.oI (by decide)).trans ((F2.oI (by decide)).trans z81)))
  have hw : (∃ i, i < d ∧ vr N R od i ∧ ¬ en N R (nS N) (cO od i) (od i) ∧ x7 = nI i) ∨ (vr N R od d ∧ (∀ p, p < nP N → ¬ cO od d p < R p) ∧ x7 = (-1)) ∨ (vr N R od d ∧ (∃ p, p < nP N ∧ cO od d p < R p) ∧ x7 = nI d) := hw
  have hlx2 : ∀ M5, MX M5 N R (nS N) (cO od d) → Len M5 → Gr M5 N → (∀ p, p < nP N → ¬ cO od d p < R p) → fX11_leastLeft M5 = some (-9) := fun M5 hM hl5 hG5 ha => by
    rcases m_left hN hl5 hG5 hM (RB_0 hN r1) with ⟨p, hp, c, -⟩ | ⟨-, h⟩
    · exact absurd c (ha p hp)
    · exact h
  rcases hw with ⟨i, hi, v1, n1, x7i⟩ | ⟨v1, n1, x7i⟩ | ⟨v1, n1, x7i⟩
  · obtain ⟨M4, M5, w, F4, ec, F5, hw5⟩ := model M2 _ G2 (by decide) (by decide) (by decide)
    rcases hw5 with ⟨j, hj, rfl, v2, n2⟩ | ⟨-, v2, -⟩
    · have ej : i = j := Nat.le_antisymm (vr_stop v2 n2 v1) (vr_stop v1 n1 v2)
      subst ej
      refine ⟨(-10) - nI i, M2, M5, ?_, ec, N, endO M4 M5 F4 F5⟩
      rw [prc, x7i, if_neg (nI_pos (by omega))]
    · have := vr_stop v1 n1 v2
      omega
  · have G3' := G2
    obtain ⟨⟨v, M3⟩, e3, F3, g1, g2, g3, g4, g5⟩ := c_adopt (kz := 1107) (L := 200) hN (hl.fr G2) (hC.fr G2 (by decide)) r1 (fun p hp => (F2.oI (by decide)).trans (hR p hp)) ((F2.oI (by decide)).trans h4) (by decide) (by decide) (by decide) ((G2.n _ _).trans (ln1107 hl)) hd (by omega) (by decide) (fun i hi => ⟨(hod i hi).1, (G2.aI (by decide)).trans (hod i hi).2.2⟩) (by omega) v1
    have F3 : Fr kAd M2 M3 := F3
    have g1 : v = nI (sumTo (sO N od d) (nL N)) := g1
    have G3 : Fr [208, 209, 601, 602, 603, 604, 605, 902, 904, 905, 20004, 20005, 20006, 20007, 60006, 60007, 60008, 80006, 90003, 110008] M M3 := (G2.mono (by decide)).step F3 (by decide)
    obtain ⟨M4, M5, w, F4, ec, F5, hw5⟩ := model M3 _ G3 (by decide) (by decide) (by decide)
    rcases hw5 with ⟨j, hj, rfl, v2, n2⟩ | ⟨rfl, v2, hM5, hs5, ho5⟩
    · have := vr_stop v2 n2 v1
      omega
    have F65 : Fr [120065] M3 (sI M3 11 0 65 0) := Fr.refl.wIo (by decide)
    have GX : Fr (1232 :: 1233 :: 1234 :: 1235 :: 1238 :: 1239 :: 1240 :: 1245 :: 1246 :: 120036 :: 120037 :: 120065 :: [208, 209, 601, 602, 603, 604, 605, 902, 904, 905, 20004, 20005, 20006, 20007, 60006, 60007, 60008, 80006, 90003, 110008]) M M5 := (((G3.mono (by decide)).step F65 (by decide)).step F4 (by decide)).step F5 (by decide)
    have hl5 := hl.fr GX
    have hG5 := hG.fr GX (by decide)
    obtain ⟨⟨u, M6⟩, e6, F6, u1, u2, u3, u4, u5⟩ := m_settle hN hl5 hG5 hs5 (z := d) (by omega) ho5
    have F6 : Fr [1230, 1242, 1244, 120043] M5 M6 := F6
    have u1 : u = nI (sumTo (sO N od d) (nL N)) := u1
    have ec : fX11_check M3 = (fX11_leastLeft M5).bind fun x29 => if x29 < 0 then (fX11_settle (nI d) M5).bind fun (x32, M34) => some ((x32, M34)) else some (((-10) - nI d, M5)) := ec
    obtain ⟨ed, hocc⟩ := all_R hN r1 v1 n1
    have sp := sumR_pos hN r1 p0
    refine ⟨nI (sumTo (sO N od d) (nL N)), M3, M6, ?_, ?_, N, ?_⟩
    · rw [prc, x7i, if_pos (by decide), e3, Option.bind_some]
      show some (v, M3) = _
      rw [g1]
    · rw [ec, hlx2 M5 hM5 hl5 hG5 n1, Option.bind_some, if_pos (by decide), e6, Option.bind_some]
      show some (u, M6) = _
      rw [u1]
    · have GE : Fr (1230 :: 1242 :: 1244 :: 120043 :: 1232 :: 1233 :: 1234 :: 1235 :: 1238 :: 1239 :: 1240 :: 1245 :: 1246 :: 120036 :: 120037 :: 120065 :: [208, 209, 601, 602, 603, 604, 605, 902, 904, 905, 20004, 20005, 20006, 20007, 60006, 60007, 60008, 80006, 90003, 110008]) M M6 := (GX.mono (by decide)).step F6 (by decide)
      refine (hAC.fr GE (by decide)).al ⟨0, by omega, ?_, ?_, fun j hj => by omega⟩ (Cs_new (st := sO N od d) (od := od) (z := d) (by omega) (by omega) u2 ?_ (fun i hi => ⟨(hod i hi).1, u3 i hi, ?_⟩) hocc (fun l hl' => ⟨?_, u4 l hl'⟩) (fun t ht => ⟨?_, u5 t ht⟩)) ((((((hc1.fr F2 (by decide)).fr F3 (by decide)).fr F65 (by decide)).fr F4 (by decide)).fr F5 (by decide)).fr F6 (by decide))
      · exact (F6.oI (by decide)).trans ((F5.oI (by decide)).trans ((F4.oI (by decide)).trans (fin0 M3)))
      · exact (F6.oI (by decide)).trans ((F5.oI (by decide)).trans ((F4.oI (by decide)).trans ((F65.oI (by decide)).trans ((F3.oI (by decide)).trans ((F2.oI (by decide)).trans z81)))))
      · exact (F6.oI (by decide)).trans ((F5.oI (by decide)).trans ((F4.oI (by decide)).trans ((F65.oI (by decide)).trans g2)))
      · exact (F6.aI (by decide)).trans ((F5.aI (by decide)).trans ((F4.aI (by decide)).trans ((F65.aI (by decide)).trans (g3 i hi))))
      · exact (F6.aI (by decide)).trans ((F5.aI (by decide)).trans ((F4.aI (by decide)).trans ((F65.aI (by decide)).trans (g4 l hl'))))
      · exact (F6.aI (by decide)).trans ((F5.aI (by decide)).trans ((F4.aI (by decide)).trans ((F65.aI (by decide)).trans (g5 t ht))))
  · obtain ⟨M4, M5, w, F4, ec, F5, hw5⟩ := model M2 _ G2 (by decide) (by decide) (by decide)
    rcases hw5 with ⟨j, hj, rfl, v2, n2⟩ | ⟨rfl, v2, hM5, hs5, ho5⟩
    · have := vr_stop v2 n2 v1
      omega
    have F65 : Fr [120065] M2 (sI M2 11 0 65 0) := Fr.refl.wIo (by decide)
    have GX : Fr (1232 :: 1233 :: 1234 :: 1235 :: 1238 :: 1239 :: 1240 :: 1245 :: 1246 :: 120036 :: 120037 :: 120065 :: [208, 209, 601, 602, 603, 604, 605, 20004, 20005, 20006, 20007, 60006, 60007, 60008, 80006, 110008]) M M5 := (((G2.mono (by decide)).step F65 (by decide)).step F4 (by decide)).step F5 (by decide)
    have ec : fX11_check M2 = (fX11_leastLeft M5).bind fun x29 => if x29 < 0 then (fX11_settle (nI d) M5).bind fun (x32, M34) => some ((x32, M34)) else some (((-10) - nI d, M5)) := ec
    refine ⟨(-10) - nI d, M2, M5, ?_, ?_, N, endO M4 M5 F4 F5⟩
    · rw [prc, x7i, if_neg (nI_pos (by omega))]
    · rw [ec]
      rcases m_left hN (hl.fr GX) (hG.fr GX (by decide)) hM5 (RB_0 hN r1) with ⟨p, hp, c, -, h⟩ | ⟨h, -⟩
      · rw [h, Option.bind_some, if_neg (nI_pos (by omega))]
      · obtain ⟨p, hp, c⟩ := n1
        exact absurd c (h p hp)
