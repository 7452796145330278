/-! once, the call -/
def phd (N : NG) : Prop := ∃ p, p < nP N ∧ nD N p = 4
theorem c_phd {M : tM} {N : NG} (hN : NOK N) (hl : Len M) (hC : Cg M M N) : (phd N ∧ fX1_hasPhased M = some 1) ∨ (¬ phd N ∧ fX1_hasPhased M = some 0) := by
  have hb := hN.1
  have key : Ok (fX1_hasPhased_l2 M FU 0) (fun w => (phd N ∧ w = .inl 1) ∨ (¬ phd N ∧ w = .inr ())) := by
    refine loop0 (fun n i (_ : Unit) => fX1_hasPhased_l2 M n i) (nP N) (fun i _ => ∀ q, q < i → ¬ nD N q = 4) _ (by omega) ?_ ?_ () (fun q hq => by omega)
    · intro n _ h
      rw [fX1_hasPhased_l2, hC.1.1, if_pos (nI_le (Nat.le_refl _) (by omega))]
      exact ok_some (Or.inr ⟨fun ⟨p, hp, e⟩ => h p hp e, rfl⟩)
    · intro n i _ hi h kk
      have hd := (hN.2.1 i hi).1
      rw [fX1_hasPhased_l2, hC.1.1, if_neg (nI_ge hi (by omega)), ln200 hl, chk_nI (by omega) (by omega), bnd_eq, nI_clamp (by omega), (hC.2.1 i hi).1.1, Option.bind_some, (hC.2.1 i hi).1.2.2.1]
      by_cases e : nD N i = 4
      · rw [if_pos (by rw [e]; rfl)]
        exact ok_some (Or.inl ⟨⟨i, hi, e⟩, rfl⟩)
      · rw [if_neg (show ¬ nI (nD N i) = (4 : Int32) from fun q => e ((nI_eq (b := 4) (by omega) (by decide)).mp q)), bnd_eq, nI_1]
        refine kk () (fun q hq => ?_)
        by_cases z : q = i
        · rw [z]; exact e
        · exact h q (by omega)
  obtain ⟨w, e, h⟩ := key
  rcases h with ⟨h, rfl⟩ | ⟨h, rfl⟩
  · exact Or.inl ⟨h, by rw [fX1_hasPhased, e]; rfl⟩
  · exact Or.inr ⟨h, by rw [fX1_hasPhased, e]; rfl⟩
theorem m_phd {X : tM} {N : NG} (hN : NOK N) (hl : Len X) (hG : Gr X N) : (phd N ∧ fX11_once_l14 FU 0 X = (fX11_meets 3 X).bind fun (x9, M11) => some (Sum.inl ((x9, M11)))) ∨ (¬ phd N ∧ fX11_once_l14 FU 0 X = some (.inr X)) := by
  have hb := hN.1
  have key : Ok ((fX11_once_l14 FU 0 X).bind fun w => some w) (fun w => (phd N ∧ some w = (fX11_meets 3 X).bind fun (x9, M11) => some (Sum.inl ((x9, M11)))) ∨ (¬ phd N ∧ w = .inr X)) := by
    have em := mMeets (f := 3) hl (by omega)
    have em : fX11_meets 3 X = _ := em
    have k2 : Ok (fX11_once_l14 FU 0 X) (fun w => (phd N ∧ some w = (fX11_meets 3 X).bind fun (x9, M11) => some (Sum.inl ((x9, M11)))) ∨ (¬ phd N ∧ w = .inr X)) := by
      refine loop0 (fun n i (_ : Unit) => fX11_once_l14 n i X) (nP N) (fun i _ => ∀ q, q < i → ¬ nD N q = 4) _ (by omega) ?_ ?_ () (fun q hq => by omega)
      · intro n _ h
        rw [fX11_once_l14, hG.1.1, if_pos (nI_le (Nat.le_refl _) (by omega))]
        exact ok_some (Or.inr ⟨fun ⟨p, hp, e⟩ => h p hp e, rfl⟩)
      · intro n i _ hi h kk
        have hd := (hN.2.1 i hi).1
        rw [fX11_once_l14, hG.1.1, if_neg (nI_ge hi (by omega)), ln1203 hl, chk_nI (by omega) (by omega), nI_clamp (by omega), (hG.2.1 i hi).1]
        by_cases e : nD N i = 4
        · rw [if_pos (by rw [e]; rfl), em, Option.bind_some]
          exact ok_some (Or.inl ⟨⟨i, hi, e⟩, rfl⟩)
        · rw [if_neg (show ¬ nI (nD N i) = (4 : Int32) from fun q => e ((nI_eq (b := 4) (by omega) (by decide)).mp q)), bnd_eq, nI_1]
          refine kk () (fun q hq => ?_)
          by_cases z : q = i
          · rw [z]; exact e
          · exact h q (by omega)
    exact ok_call k2 (fun w h => ok_some h)
  obtain ⟨w, e, h⟩ := key
  have e2 : fX11_once_l14 FU 0 X = some w := by
    cases q : fX11_once_l14 FU 0 X with
    | none => rw [q] at e; cases e
    | some u => rw [q] at e; exact e
  rcases h with ⟨h, hw⟩ | ⟨h, rfl⟩
  · exact Or.inl ⟨h, e2.trans hw⟩
  · exact Or.inr ⟨h, e2⟩
theorem meets3 {M M1 M2 : tM} {N : NG} (hA : Al M N) (h1 : fX10_meets 3 M = some ((-3), M1)) (F2 : Fr kBM M1 M2) : ∃ M3, fX11_meets 3 M2 = some ((-3), M3) ∧ Al M3 N := by
  obtain ⟨⟨hN, hl, hG⟩, hC, hT, hV, hF, hR, hD, hO, hS, hk1, hk2, hk3⟩ := id hA
  have e1 := cMeets (f := 3) hl (by omega)
  have e1 : fX10_meets 3 M = _ := e1
  rw [h1] at e1
  have e1 := (Prod.mk.inj (Option.some.inj e1)).2
  have F1 : Fr [1110, 110009] M M1 := by rw [e1]; exact (Fr.refl.wIo (by decide)).wI (by decide)
  have a1 : mI M1 10 0 9 = 3 := by rw [e1]; simp [mI_sI]; rfl
  have a2 : ∀ j, mI M1 1110 0 j = if j = 3 then mI M 1110 0 3 + 1 else mI M 1110 0 j := fun j => by
    rw [e1]
    by_cases e : j = 3
    · subst e; simp [mI_sI]
    · simp [mI_sI, e]
  have G2 : Fr (kBM ++ [1110, 110009]) M M2 := (F1.mono (by decide)).step F2 (by decide)
  have e3 := mMeets (f := 3) (hl.fr G2) (by omega)
  refine ⟨_, e3, ?_⟩
  have F3 : Fr [1201, 120000] M2 (sI (sI M2 11 0 0 (nI 3)) 1201 0 3 (mI M2 1201 0 3 + 1)) := (Fr.refl.wIo (by decide)).wI (by decide)
  have b1 : mI (sI (sI M2 11 0 0 (nI 3)) 1201 0 3 (mI M2 1201 0 3 + 1)) 11 0 0 = 3 := by simp [mI_sI]; rfl
  have b2 : ∀ j, mI (sI (sI M2 11 0 0 (nI 3)) 1201 0 3 (mI M2 1201 0 3 + 1)) 1201 0 j = if j = 3 then mI M2 1201 0 3 + 1 else mI M2 1201 0 j := fun j => by
    by_cases e : j = 3
    · subst e; simp [mI_sI]
    · simp [mI_sI, e]
  generalize sI (sI M2 11 0 0 (nI 3)) 1201 0 3 (mI M2 1201 0 3 + 1) = M3 at *
  have FF : Fr (kBM ++ [1110, 1201, 110009, 120000]) M M3 := (G2.mono (by decide)).step F3 (by decide)
  obtain ⟨f1, f2, f3, f4, f5⟩ := hF
  have hF3 : Cf M3 M3 := by
    refine ⟨?_, fun j hj => ?_, ?_, ?_, ?_⟩
    · rw [b1, F3.oI (k := 10) (j := 9) (by decide), F2.oI (k := 10) (j := 9) (by decide), a1]
    · rw [b2, F3.aI (k := 1110) (by decide), F2.aI (k := 1110) (by decide), a2, G2.aI (k := 1201) (by decide), G2.aI (k := 1201) (by decide), f2 j hj, f2 3 (by omega)]
    · rw [FF.oL (k := 10) (j := 11) (by decide), FF.oL (k := 11) (j := 29) (by decide)]; exact f3
    · rw [FF.oL (k := 9) (j := 2) (by decide), FF.oL (k := 11) (j := 26) (by decide)]; exact f4
    · rw [FF.oI (k := 3) (j := 3) (by decide), FF.oI (k := 11) (j := 48) (by decide)]; exact f5
  exact ⟨⟨hN, hl.fr FF, hG.fr FF (by decide)⟩, hC.fr FF (by decide), hT.fr FF (by decide), hV.fr FF (by decide), hF3, hR.fr FF (by decide), hD.fr FF (by decide), hO.fr FF (by decide), hS.fr FF (by decide), hk1.fr FF (by decide), hk2.fr FF (by decide), hk3.fr FF (by decide)⟩
def rsOnc : List Nat := rsGr ++ rsCg ++ rsCt ++ rsCv ++ rsCf ++ rsCr ++ rsCd ++ rsCc1 ++ rsCc2 ++ rsCc3
theorem Al_once {M M2 : tM} {N : NG} {ks : List Nat} (hA : Al M N) (F : Fr ks M M2) (hd : disj ks rsOnc = true) (hO : Co M2 M2) (hS : Cs M2 M2 N) : Al M2 N := by
  obtain ⟨⟨hN, hl, hG⟩, hC, hT, hV, hF, hR, hD, -, -, k1, k2, k3⟩ := hA
  exact ⟨⟨hN, hl.fr F, hG.fr F (disj_sub hd (by decide))⟩, hC.fr F (disj_sub hd (by decide)), hT.fr F (disj_sub hd (by decide)), hV.fr F (disj_sub hd (by decide)), hF.fr F (disj_sub hd (by decide)), hR.fr F (disj_sub hd (by decide)), hD.fr F (disj_sub hd (by decide)), hO, hS, k1.fr F (disj_sub hd (by decide)), k2.fr F (disj_sub hd (by decide)), k3.fr F (disj_sub hd (by decide))⟩
def kAr : List Nat := [701, 702, 703, 704, 705, 706, 70007]
theorem SP_of {M : tM} {kD kS : Nat} {N : NG} {R rw : Nat → Nat} (h : TB M kD kS N R rw (nP N) 0) : SPok N (DM M kS) := fun i j hij hj => (h.2 i j hij hj (Or.inl (by omega))).2.2.1
/-- the class arranges -/
theorem c_arr {M : tM} {N : NG} {R : Nat → Nat} (hN : NOK N) (hl : Len M) (hC : Cg M M N) (hr : rndOf N = .inl R) (p0 : 0 < nP N) (hR : ∀ p, p < nP N → mI M 7 p 6 = nI (R p)) (h1 : ∀ p, p < nP N → nH N p = 1) :
    Ok (fX6_arrange M) (fun w => (w.1 = 0 ∧ Fr [701, 702] M w.2 ∧ ∃ rw k, k < nP N ∧ isRw N rw k ∧ ∀ q, ¬ fre N rw k q) ∨ (w.1 = 1 ∧ Fr kAr M w.2 ∧ ∃ rw sp M0, ROK N R rw ∧ SPok N sp ∧ TB M0 704 705 N R rw (nP N) 0 ∧ sp = DM M0 705 ∧ TC w.2 N R rw sp ∧ IC w.2 (its R rw sp 15 0 (nP N - 1) 1))) := by
  have hb := hN.1
  have hB := RB_0 hN hr
  rw [fX6_arrange]
  refine ok_call (c_row hN hl hC) ?_
  rintro ⟨x, M3⟩ ⟨F3, ⟨rfl, rw', hw1, hw2⟩ | ⟨rfl, rw', k, hk⟩⟩
  rotate_left
  · show Ok (if (0 : Int32) = 0 then _ else _) _
    rw [if_pos rfl]
    exact ok_some (Or.inl ⟨rfl, F3, rw', k, hk⟩)
  show Ok (if (1 : Int32) = 0 then _ else _) _
  have F3 : Fr [701, 702] M M3 := F3
  have hw2 : RwC M3 N rw' (nP N) := hw2
  rw [if_neg (by decide), bnd_eq, F3.oI (by decide), hC.1.1, L32 1, pk_sub (by omega)]
  have hK : ROK N R rw' := ⟨hw1, fun p hp => ⟨rnd_pos hN hr p hp, hB.1 p hp⟩⟩
  refine ok_call (c_divs hN (hl.fr F3) (hC.fr F3 (by decide)) hK hw2.1 (fun p hp => (F3.oI (by decide)).trans (hR p hp))) ?_
  rintro M7 ⟨F7, g1, g2⟩
  have G7 : Fr [701, 702, 703, 704] M M7 := (F3.mono (by decide)).step F7 (by decide)
  have w7 : RwC M7 N rw' (nP N) := ⟨fun i hi => (F7.aI (by decide)).trans (hw2.1 i hi), fun p hp => by rw [F7.aI (by decide)]; exact hw2.2 p hp⟩
  refine ok_call (c_table hN (hl.fr G7) (hC.fr G7 (by decide)) hK w7 (fun p hp => (G7.oI (by decide)).trans (hR p hp)) g1 h1 p0 g2) ?_
  rintro M19 ⟨F19, t1⟩
  have G19 : Fr [701, 702, 703, 704, 705] M M19 := (G7.mono (by decide)).step F19 (by decide)
  rw [bnd_eq]
  have F20 : Fr [70007] M19 (sI M19 6 0 7 0) := Fr.refl.wIo (by decide)
  have v20 : mI (sI M19 6 0 7 0) 6 0 7 = 0 := by rw [mI_sI, if_pos ⟨rfl, rfl, rfl⟩]
  generalize sI M19 6 0 7 0 = M20 at *
  have G20 : Fr [701, 702, 703, 704, 705, 70007] M M20 := (G19.mono (by decide)).step F20 (by decide)
  have hs := SP_of t1
  have tc : TC M20 N R rw' (DM M19 705) := ⟨fun i hi => (F20.aI (by decide)).trans ((F19.aI (by decide)).trans (w7.1 i hi)), fun i j a b c => (F20.aI (by decide)).trans ((F19.aI (by decide)).trans (g1 i j a b c)), fun i j hij hj => (F20.aI (by decide)).trans (t1.2 i j hij hj (Or.inl (by omega))).2.1⟩
  have cw := c_write hN hK hs 15 0 (nP N - 1) 1 0 [] M20 (by omega) (by omega) (by omega) (by omega) (Nat.one_dvd _) (by show 0 + 5 * (nP N - 1 - 0) + 3 ≤ 60; omega) (hl.fr G20) tc ⟨v20, fun t ht => by cases ht⟩
  refine ok_call cw ?_
  rintro M22 ⟨F22, k⟩
  exact ok_some (Or.inr ⟨rfl, (G20.mono (by decide)).step F22 (by decide), rw', DM M19 705, M19, hK, hs, t1, rfl, tc.fr F22 (by decide), k⟩)
theorem z_sum {N : NG} {R rw : Nat → Nat} {sp : Nat → Nat → Nat} (h : ROK N R rw) (hs : SPok N sp) (b12 : nP N ≤ 12) (p0 : 0 < nP N) : (unr R rw sp 15 0 (nP N - 1) 1).length = sumTo R (nP N) := by
  rw [unr_len h hs 15 0 (nP N - 1) 1 (by omega) (by omega) (by omega) (Nat.one_dvd _), ← sum_row R h.1, show nP N - 1 - 0 + 1 = nP N by omega]
  exact sumTo_congr (fun e _ => by show R (rw (0 + e)) / 1 = R (rw e); rw [Nat.zero_add, Nat.div_one])
theorem gd_mem {l : List Nat} {t : Nat} (h : t < l.length) : l.getD t 0 ∈ l := by
  simp [List.getD, List.getElem?_eq_getElem h]
theorem mem_gd {l : List Nat} {x : Nat} (h : x ∈ l) : ∃ t, t < l.length ∧ l.getD t 0 = x := by
  obtain ⟨t, ht, e⟩ := List.mem_iff_getElem.mp h
  exact ⟨t, ht, by simp [List.getD, List.getElem?_eq_getElem ht, e]⟩
def kOnM : List Nat := [1230, 1238, 1239, 1240, 1242, 1244, 1245, 1246, 1254, 1255, 1256, 1257, 1258, 1259, 1261, 1262, 1263, 120043, 120060]
/-- the model from the row on -/
def m_rest (M14 : tM) : Option (Int32 × tM) :=
    (fX11_isRow M14).bind fun (x15, M17) =>
    if x15 = 0 then (
    some (((-9), M17))
    ) else (
    (fX11_divide M17).bind fun M20 =>
    (fX11_write M20).bind fun M22 =>
    (fX11_unfold M22).bind fun (x23, M25) =>
    (fX11_markFirst 0 M25).bind fun M27 =>
    (fX11_storeFirst M27).bind fun M29 =>
    Option.bind (fX11_once_l78 x23 FU 0 M29) fun M39 =>
    (fX11_settle x23 M39).bind fun (x40, M42) =>
    some ((x40, M42))
    )
def onE : (Int32 × tM) ⊕ tM → Option (Int32 × tM)
  | Sum.inl q43 => some q43
  | Sum.inr M14 => m_rest M14
theorem once_eq (M : tM) : fX11_once M = (fX11_barred 0 M).bind fun (x1, M3) => if 0 ≤ x1 then Option.bind (fX11_once_l14 FU 0 M3) onE else some ((x1, M3)) := rfl
theorem unr_congr {N : NG} {R rw : Nat → Nat} {sp sp' : Nat → Nat → Nat} (hs : SPok N sp') (he : ∀ i j, i < j → j < nP N → sp i j = sp' i j) : ∀ f i j a, i ≤ j → j < nP N → unr R rw sp f i j a = unr R rw sp' f i j a := by
  intro f
  induction f with
  | zero => intro i j a _ _; rfl
  | succ f ih =>
    intro i j a hij hj
    rw [unr, unr]
    by_cases e : i = j
    · rw [if_pos e, if_pos e]
    · have h := hs i j (by omega) hj
      rw [if_neg e, if_neg e, he i j (by omega) hj, ih i (sp' i j) _ (by omega) (by omega), ih (sp' i j + 1) j _ (by omega) hj]
theorem its_congr {N : NG} {R rw : Nat → Nat} {sp sp' : Nat → Nat → Nat} (hs : SPok N sp') (he : ∀ i j, i < j → j < nP N → sp i j = sp' i j) : ∀ f i j a, i ≤ j → j < nP N → its R rw sp f i j a = its R rw sp' f i j a := by
  intro f
  induction f with
  | zero => intro i j a _ _; rfl
  | succ f ih =>
    intro i j a hij hj
    rw [its, its]
    by_cases e : i = j
    · rw [if_pos e, if_pos e]
    · have h := hs i j (by omega) hj
      rw [if_neg e, if_neg e, he i j (by omega) hj, ih i (sp' i j) _ (by omega) (by omega), ih (sp' i j + 1) j _ (by omega) hj]
theorem m_rst {X : tM} {N : NG} {R rw0 : Nat → Nat} (hN : NOK N) (hl : Len X) (hG : Gr X N) (hr : rndOf N = .inl R) (p0 : 0 < nP N) (hR : ∀ p, p < nP N → mI X 1235 0 p = nI (R p)) (h0 : (∃ rw, isRw N rw (nP N)) → isRw N rw0 (nP N)) :
    Ok (m_rest X) (fun w => (w.1 = (-9) ∧ Fr [1254, 1255] X w.2 ∧ ∃ rw k, k < nP N ∧ isRw N rw k ∧ ∀ q, ¬ fre N rw k q) ∨ (Fr kOnM X w.2 ∧ isRw N rw0 (nP N) ∧ ∃ M0, TB M0 1257 1258 N R rw0 (nP N) 0 ∧ ∀ sp, (∀ i j, i < j → j < nP N → sp i j = DM M0 1258 i j) → ∀ od : Nat → Nat, (od = fun t => (unr R rw0 sp 15 0 (nP N - 1) 1).getD t 0) → w.1 = nI (sumTo (fun l => i2n (stO N od l (sumTo R (nP N)))) (nL N)) ∧ mI w.2 11 0 43 = nI (sumTo R (nP N)) ∧ (∀ i, i < sumTo R (nP N) → mI w.2 1242 0 i = nI (od i)) ∧ (∀ l, l < nL N → mI w.2 1244 0 l = stO N od l (sumTo R (nP N))) ∧ (∀ t, t < 4 → mI w.2 1230 0 t = 0) ∧ IX w.2 (its R rw0 sp 15 0 (nP N - 1) 1))) := by
  have hb := hN.1
  have hB := RB_0 hN hr
  have hB2 := hB.2.2
  rw [m_rest]
  refine ok_call (m_row hN hl hG) ?_
  rintro ⟨x, X1⟩ ⟨F1, ⟨rfl, rw', hw1, hw2⟩ | ⟨rfl, rw', k, hk⟩⟩
  rotate_left
  · show Ok (if (0 : Int32) = 0 then _ else _) _
    rw [if_pos rfl]
    exact ok_some (Or.inl ⟨rfl, F1, rw', k, hk⟩)
  show Ok (if (1 : Int32) = 0 then _ else _) _
  have F1 : Fr [1254, 1255] X X1 := F1
  have hw2 : RwX X1 N rw' (nP N) := hw2
  rw [if_neg (by decide)]
  have hw0 := h0 ⟨rw', hw1⟩
  have hx : ∀ i, i < nP N → mI X1 1254 0 i = nI (rw0 i) := fun i hi => by rw [hw2.1 i hi, rw_uniq hw1 hw0 i hi hi]
  have hK : ROK N R rw0 := ⟨hw0, fun p hp => ⟨rnd_pos hN hr p hp, hB.1 p hp⟩⟩
  refine ok_call (m_table hN (hl.fr F1) (hG.fr F1 (by decide)) hK hx (fun p hp => (F1.aI (by decide)).trans (hR p hp)) p0) ?_
  rintro X2 ⟨F2, g1, t1⟩
  have G2 : Fr [1254, 1255, 1256, 1257, 1258] X X2 := (F1.mono (by decide)).step F2 (by decide)
  have hs := SP_of t1
  have hlen := z_sum hK hs hb.1 p0
  have hil := its_len (R := R) (rw := rw0) hs 15 0 (nP N - 1) 1 (by omega) (by omega)
  have gen : Ok ((fX11_write X2).bind fun M22 => (fX11_unfold M22).bind fun (x23, M25) => (fX11_markFirst 0 M25).bind fun M27 => (fX11_storeFirst M27).bind fun M29 => Option.bind (fX11_once_l78 x23 FU 0 M29) fun M39 => (fX11_settle x23 M39).bind fun (x40, M42) => some ((x40, M42))) (fun w => Fr kOnM X w.2 ∧ w.1 = nI (sumTo (fun l => i2n (stO N (fun t => (unr R rw0 (DM X2 1258) 15 0 (nP N - 1) 1).getD t 0) l (sumTo R (nP N)))) (nL N)) ∧ mI w.2 11 0 43 = nI (sumTo R (nP N)) ∧ (∀ i, i < sumTo R (nP N) → mI w.2 1242 0 i = nI ((unr R rw0 (DM X2 1258) 15 0 (nP N - 1) 1).getD i 0)) ∧ (∀ l, l < nL N → mI w.2 1244 0 l = stO N (fun t => (unr R rw0 (DM X2 1258) 15 0 (nP N - 1) 1).getD t 0) l (sumTo R (nP N))) ∧ (∀ t, t < 4 → mI w.2 1230 0 t = 0) ∧ IX w.2 (its R rw0 (DM X2 1258) 15 0 (nP N - 1) 1)) := by
    refine ok_call (P := fun m => Fr kWr X2 m ∧ IX m (its R rw0 (DM X2 1258) 15 0 (nP N - 1) 1)) ?_ ?_
    · rw [fX11_write, bnd_eq]
      have E1 : Fr [120060] X2 (sI X2 11 0 60 0) := Fr.refl.wIo (by decide)
      have a1 : mI (sI X2 11 0 60 0) 11 0 60 = 0 := by rw [mI_sI, if_pos ⟨rfl, rfl, rfl⟩]
      generalize sI X2 11 0 60 0 = Y1 at *
      have H1 : Fr [1254, 1255, 1256, 1257, 1258, 120060] X Y1 := (G2.mono (by decide)).step E1 (by decide)
      rw [L32 0, L32 1, L32 2, H1.n, ln1261 hl, chk_nI (by omega) (by omega), bnd_eq, mN_sI, H1.n, ln1261 hl, chk_nI (by omega) (by omega), bnd_eq, mN_sI, mN_sI, H1.n, ln1261 hl, chk_nI (by omega) (by omega), bnd_eq, nI_clamp (by omega), nI_clamp (by omega), nI_clamp (by omega), mI_sI, if_neg (by simp), H1.oI (by decide), hG.1.1, pk_sub (by omega)]
      have E4 : Fr [1261] Y1 (sI (sI (sI Y1 1261 0 0 (nI 0)) 1261 0 1 (nI (nP N - 1))) 1261 0 2 (nI 1)) := ((Fr.refl.wI (by decide)).wI (by decide)).wI (by decide)
      have b0 : mI (sI (sI (sI Y1 1261 0 0 (nI 0)) 1261 0 1 (nI (nP N - 1))) 1261 0 2 (nI 1)) 1261 0 0 = nI 0 := by simp [mI_sI]
      have b1 : mI (sI (sI (sI Y1 1261 0 0 (nI 0)) 1261 0 1 (nI (nP N - 1))) 1261 0 2 (nI 1)) 1261 0 1 = nI (nP N - 1) := by simp [mI_sI]
      have b2 : mI (sI (sI (sI Y1 1261 0 0 (nI 0)) 1261 0 1 (nI (nP N - 1))) 1261 0 2 (nI 1)) 1261 0 2 = nI 1 := by simp [mI_sI]
      generalize sI (sI (sI Y1 1261 0 0 (nI 0)) 1261 0 1 (nI (nP N - 1))) 1261 0 2 (nI 1) = Y4 at *
      have H4 : Fr [1261, 120060] X2 Y4 := (E1.mono (by decide)).step E4 (by decide)
      have tx : TX Y4 N R rw0 (DM X2 1258) := ⟨fun i hi => (H4.aI (by decide)).trans ((F2.aI (by decide)).trans (hx i hi)), fun i j a b c => (H4.aI (by decide)).trans (g1 i j a b c), fun i j hij hj => (H4.aI (by decide)).trans (t1.2 i j hij hj (Or.inl (by omega))).2.1⟩
      refine ok_call (P := fun m => Fr kWr X2 m ∧ IX m (its R rw0 (DM X2 1258) 15 0 (nP N - 1) 1)) ?_ (fun m h => ok_some h)
      refine m_write hN hK hs _ 15 0 (nP N - 1) 1 0 [] FU Y4 (by omega) (by omega) (by omega) (by omega) (Nat.one_dvd _) (by show 0 + 5 * (nP N - 1 - 0) + 3 ≤ 190; omega) (Nat.le_of_lt (FU_lt (by omega))) ((hl.fr H1).fr E4) tx ⟨(E4.oI (by decide)).trans a1, fun t ht => by cases ht⟩ b0 b1 b2 ?_
      intro n' X' hn' F' hI' _
      cases n' with
      | zero => exfalso; have : 100 < FU := FU_lt (by omega); omega
      | succ n' =>
        rw [fX11_write_l33, if_pos (by decide)]
        exact ok_some ⟨(H4.mono (by decide)).step F' (by decide), hI'⟩
    rintro X3 ⟨F3, i3⟩
    have G3 : Fr ([1254, 1255, 1256, 1257, 1258] ++ kWr) X X3 := (G2.mono (by decide)).step F3 (by decide)
    refine ok_call (P := fun w => Fr kUn X3 w.2 ∧ w.1 = nI (sumTo R (nP N)) ∧ OX w.2 (unr R rw0 (DM X2 1258) 15 0 (nP N - 1) 1)) ?_ ?_
    · rw [fX11_unfold]
      refine ok_call (P := fun w => Fr kUn X3 w.2 ∧ w.1 = nI (sumTo R (nP N)) ∧ OX w.2 (unr R rw0 (DM X2 1258) 15 0 (nP N - 1) 1)) ?_ (fun w h => ok_some h)
      have hc := cst_le hK hs 15 0 (nP N - 1) 1 (by omega) (by omega) (by omega) (Nat.one_dvd _)
      have hc2 : cst R rw0 (DM X2 1258) 15 0 (nP N - 1) 1 ≤ 25 * 2000 := Nat.le_trans hc (Nat.mul_le_mul (by omega) (by omega))
      have hfu : 100000 < FU := FU_lt (by omega)
      obtain ⟨n, hn⟩ : ∃ n, FU = (n + 1) + cst R rw0 (DM X2 1258) 15 0 (nP N - 1) 1 := ⟨FU - 1 - cst R rw0 (DM X2 1258) 15 0 (nP N - 1) 1, by omega⟩
      rw [hn]
      refine m_unf hN hK hs _ (m := (its R rw0 (DM X2 1258) 15 0 (nP N - 1) 1).length) (by omega) 15 0 (nP N - 1) 1 0 0 [] (n + 1) X3 (by omega) (by omega) (by omega) (Nat.one_dvd _) (by omega) (by omega) (by show 0 + _ ≤ 2000; omega) (hl.fr G3) i3.1 (fun t ht => by rw [Nat.zero_add]; exact i3.2 t ht) (fun t ht => by cases ht) ?_
      intro X' F' o' _
      rw [fX11_unfold_l6, F'.oI (by decide), i3.1, Nat.zero_add, if_pos (nI_le (Nat.le_refl _) (by omega))]
      exact ok_some ⟨F', by rw [List.nil_append, hlen], o'⟩
    rintro ⟨x23, X4⟩ ⟨F4, rfl, o4⟩
    have F4 : Fr kUn X3 X4 := F4
    have o4 : OX X4 (unr R rw0 (DM X2 1258) 15 0 (nP N - 1) 1) := o4
    have G4 : Fr ([1254, 1255, 1256, 1257, 1258] ++ kWr ++ kUn) X X4 := (G3.mono (by decide)).step F4 (by decide)
    refine ok_call (m_first (R := R) (fs := nS N) (y := 0) hN (hl.fr G4) (hG.fr G4 (by decide)) (fun p hp => (G4.aI (by decide)).trans (hR p hp)) (fun l _ => Or.inl ⟨rfl, rfl⟩)) ?_
    rintro X5 ⟨F5, k5⟩
    have G5 : Fr ([1254, 1255, 1256, 1257, 1258] ++ kWr ++ kUn ++ kM) X X5 := (G4.mono (by decide)).step F5 (by decide)
    refine ok_call (m_storeF (m := nS N) hN (hl.fr G5) (hG.fr G5 (by decide)) (fun l hl' => by rw [k5.1 l hl', mk_0])) ?_
    rintro X6 ⟨F6, k6⟩
    have G6 : Fr ([1254, 1255, 1256, 1257, 1258] ++ kWr ++ kUn ++ kM ++ [1246]) X X6 := (G5.mono (by decide)).step F6 (by decide)
    have ho : ∀ i, i < sumTo R (nP N) → (fun t => (unr R rw0 (DM X2 1258) 15 0 (nP N - 1) 1).getD t 0) i < nP N ∧ mI X6 1245 0 i = nI ((fun t => (unr R rw0 (DM X2 1258) 15 0 (nP N - 1) 1).getD t 0) i) := fun i hi => by
      refine ⟨(unr_mem hK hs 15 0 (nP N - 1) 1 (by omega) (by omega) (by omega) (Nat.one_dvd _)).1 _ (gd_mem (by omega)), ?_⟩
      rw [F6.aI (by decide), F5.aI (by decide)]
      exact o4 i (by omega)
    refine ok_call (m_l78 hN (hl.fr G6) (hG.fr G6 (by decide)) hB2 ho (fun l hl' => by rw [F6.aI (by decide), k5.1 l hl', mk_0]) (fun p hp => by rw [F6.aI (by decide), (k5.2 p hp).1, Nat.zero_mod]; rfl) k6) ?_
    rintro X7 ⟨F7, k7⟩
    have G7 : Fr ([1254, 1255, 1256, 1257, 1258] ++ kWr ++ kUn ++ kM ++ [1246]) X X7 := G6.step F7 (by decide)
    refine ok_call (m_settle (z := sumTo R (nP N)) hN (hl.fr G7) (hG.fr G7 (by decide)) k7 hB2 (fun i hi => (F7.aI (by decide)).trans (ho i hi).2)) ?_
    rintro ⟨x40, X8⟩ ⟨F8, q1, q2, q3, q4, q5⟩
    have F8 : Fr [1230, 1242, 1244, 120043] X7 X8 := F8
    refine ok_some ⟨(G7.mono (by decide)).step F8 (by decide), q1, q2, q3, fun l hl' => (q4 l hl').trans (i2n_nI _), q5, ?_, ?_⟩
    · rw [F8.oI (by decide), F7.oI (by decide), F6.oI (by decide), F5.oI (by decide), F4.oI (by decide)]; exact i3.1
    · intro t ht
      rw [F8.aI (by decide), F7.aI (by decide), F6.aI (by decide), F5.aI (by decide), F4.aI (by decide)]; exact i3.2 t ht
  refine gen.mono ?_
  rintro ⟨v, X9⟩ ⟨F9, q1, q2, q3, q4, q5, q6⟩
  refine Or.inr ⟨F9, hw0, X2, t1, ?_⟩
  intro sp hsp od hod
  have hun := unr_congr (R := R) (rw := rw0) (sp := sp) (sp' := DM X2 1258) (N := N) hs hsp 15 0 (nP N - 1) 1 (by omega) (by omega)
  have hit := its_congr (R := R) (rw := rw0) (sp := sp) (sp' := DM X2 1258) (N := N) hs hsp 15 0 (nP N - 1) 1 (by omega) (by omega)
  rw [hun] at hod
  subst hod
  rw [hit]
  exact ⟨q1, q2, q3, q4, q5, q6⟩
theorem c19 : call19 Rel := by
  rintro M ⟨N, hA⟩
  obtain ⟨v, M2, e, F, hA2, hv⟩ := nor_both hA
  obtain ⟨⟨hN, hl, hG⟩, hC, hT, hV, hF, hR0, hD, hO, hS, hk1, hk2, hk3⟩ := id hA2
  have hb := hN.1
  -- no ROUND
  have bad : ∀ x, ¬ (if v = (-9) then (-4) else v) = (0 : Int32) → x = (if v = (-9) then (-4) else v) → ¬ (0 : Int32) ≤ x → (∀ y M3, fX11_barred 0 M2 = some (y, M3) → y = x) → ∃ v M1 M2, fX10_once M = some (v, M1) ∧ fX11_once M1 = some (v, M2) ∧ Rel M2 := fun x hx hx2 hx3 hm => by
    obtain ⟨⟨y, M3⟩, e3, F3, -⟩ := m_barred (y := 0) hN hl hG (Or.inl rfl)
    have F3 : Fr kBM M2 M3 := F3
    have hy := hm y M3 e3
    refine ⟨x, M2, M3, ?_, ?_, N, hA2.fr F3 (by decide)⟩
    · rw [fX10_once, fX10_noRound, e, Option.bind_some]
      show Option.bind (if v = (-9) then some (((-4), M2)) else some ((v, M2))) _ = _
      by_cases q : v = (-9)
      · rw [if_pos q, Option.bind_some]
        rw [if_pos q] at hx2
        show (if (-4 : Int32) = 0 then _ else _) = _
        rw [if_neg (by decide), hx2]
      · rw [if_neg q, Option.bind_some]
        rw [if_neg q] at hx hx2
        show (if v = 0 then _ else _) = _
        rw [if_neg hx, hx2]
    · rw [once_eq, e3, Option.bind_some]
      show (if 0 ≤ y then _ else _) = _
      rw [hy, if_neg hx3]
  rcases hv with ⟨p0, rfl⟩ | ⟨p0, ⟨R, r1, rfl, hR, h4⟩ | ⟨l, r1, rfl⟩ | ⟨r1, rfl⟩⟩
  · refine bad (-4) (by decide) (by decide) (by decide) (fun y M3 e3 => ?_)
    obtain ⟨⟨y', M3'⟩, e3', -, hy⟩ := m_barred (y := 0) hN hl hG (Or.inl rfl)
    rw [e3] at e3'; obtain ⟨q1, -⟩ := Prod.mk.inj (Option.some.inj e3')
    rcases hy with ⟨-, h⟩ | ⟨h, -⟩
    · rw [q1]; exact h
    · omega
  rotate_left
  · refine bad (-4) (by decide) (by decide) (by decide) (fun y M3 e3 => ?_)
    obtain ⟨⟨y', M3'⟩, e3', -, hy⟩ := m_barred (y := 0) hN hl hG (Or.inl rfl)
    rw [e3] at e3'; obtain ⟨q1, -⟩ := Prod.mk.inj (Option.some.inj e3')
    rcases hy with ⟨h, -⟩ | ⟨-, ⟨R', r2, -⟩ | ⟨l, r2, w1⟩ | ⟨r2, -⟩⟩
    · omega
    · rw [r1] at r2; cases r2
    · rw [q1]; exact w1
    · rw [r1] at r2; cases r2
  · refine bad (-6) (by decide) (by decide) (by decide) (fun y M3 e3 => ?_)
    obtain ⟨⟨y', M3'⟩, e3', -, hy⟩ := m_barred (y := 0) hN hl hG (Or.inl rfl)
    rw [e3] at e3'; obtain ⟨q1, -⟩ := Prod.mk.inj (Option.some.inj e3')
    rcases hy with ⟨h, -⟩ | ⟨-, ⟨R', r2, -⟩ | ⟨l, r2, w1⟩ | ⟨r2, w1⟩⟩
    · omega
    · rw [r1] at r2; cases r2
    · rw [r1] at r2; cases r2
    · rw [q1]; exact w1
  clear bad
  have hB := RB_0 hN r1
  have hB2 := hB.2.2
  have sp1 := sumR_pos hN r1 p0
  -- the model's beginning, behind any class memory
  have model : ∀ Mx, Len Mx → Gr Mx N → ∃ M3, Fr kBM Mx M3 ∧ (∀ p, p < nP N → mI M3 1235 0 p = nI (R p)) ∧ fX11_once Mx = Option.bind (fX11_once_l14 FU 0 M3) onE := fun Mx hlx hGx => by
    obtain ⟨⟨y, M3⟩, e3, F3, hy⟩ := m_barred (y := 0) hN hlx hGx (Or.inl rfl)
    rcases hy with ⟨h', -⟩ | ⟨-, ⟨R', r2, w2, w3, w1⟩ | ⟨l, r2, -⟩ | ⟨r2, -⟩⟩
    · omega
    · rw [r1] at r2
      cases r2
      have y0 : y = 0 := by
        rcases w1 with ⟨w, -⟩ | ⟨-, w, -⟩
        · exact w
        · exact absurd w (by decide)
      refine ⟨M3, F3, w3, ?_⟩
      rw [once_eq, e3, Option.bind_some]
      show (if 0 ≤ y then _ else _) = _
      rw [y0, if_pos (by decide)]
    · rw [r1] at r2; cases r2
    · rw [r1] at r2; cases r2
  have prc : fX10_once M = (fX1_hasPhased M2).bind fun x5 => if x5 = 0 then (fX6_arrange M2).bind fun (x8, M10) => if x8 = 0 then some (((-9), M10)) else (fX6_unrollInto 902 0 M10).bind fun M13 => (fX8_adopt 902 0 (mI M13 1 0 4) M13).bind fun (x14, M16) => some ((x14, M16)) else (fX10_meets 3 M2).bind fun (x17, M19) => some ((x17, M19)) := by
    rw [fX10_once, fX10_noRound, e, Option.bind_some]
    show Option.bind (if (0 : Int32) = (-9) then some (((-4), M2)) else some ((0, M2))) _ = _
    rw [if_neg (by decide), Option.bind_some]
    show (if (0 : Int32) = 0 then _ else _) = _
    rw [if_pos rfl]
  by_cases ph : phd N
  · -- PHASED
    have e5 : fX1_hasPhased M2 = some 1 := by
      rcases c_phd hN hl hC with ⟨-, h⟩ | ⟨h, -⟩
      · exact h
      · exact absurd ph h
    have em := cMeets (f := 3) hl (by omega)
    have em : fX10_meets 3 M2 = _ := em
    have F1 : Fr [1110, 110009] M2 (sI (sI M2 10 0 9 (nI 3)) 1110 0 3 (mI M2 1110 0 3 + 1)) := (Fr.refl.wIo (by decide)).wI (by decide)
    generalize sI (sI M2 10 0 9 (nI 3)) 1110 0 3 (mI M2 1110 0 3 + 1) = M3 at *
    obtain ⟨M4, F4, -, em4⟩ := model M3 (hl.fr F1) (hG.fr F1 (by decide))
    obtain ⟨M5, e6, hA5⟩ := meets3 hA2 em F4
    refine ⟨-3, M3, M5, ?_, ?_, N, hA5⟩
    · rw [prc, e5, Option.bind_some, if_neg (by decide), em]; rfl
    · have G4 : Fr (kBM ++ [1110, 110009]) M2 M4 := (F1.mono (by decide)).step F4 (by decide)
      rcases m_phd hN (hl.fr G4) (hG.fr G4 (by decide)) with ⟨-, h⟩ | ⟨h, -⟩
      · rw [em4, h, e6]; rfl
      · exact absurd ph h
  have h1 : ∀ p, p < nP N → nH N p = 1 := fun p hp => (hN.2.1 p hp).2.2.2 (fun q => ph ⟨p, hp, q⟩)
  have e5 : fX1_hasPhased M2 = some 0 := by
    rcases c_phd hN hl hC with ⟨h, -⟩ | ⟨-, h⟩
    · exact absurd h ph
    · exact h
  have model2 : ∀ Mx, Len Mx → Gr Mx N → ∃ M3, Fr kBM Mx M3 ∧ (∀ p, p < nP N → mI M3 1235 0 p = nI (R p)) ∧ fX11_once Mx = m_rest M3 := fun Mx hlx hGx => by
    obtain ⟨M3, F3, w, em⟩ := model Mx hlx hGx
    refine ⟨M3, F3, w, ?_⟩
    rcases m_phd hN (hlx.fr F3) (hGx.fr F3 (by decide)) with ⟨h, -⟩ | ⟨-, h⟩
    · exact absurd h ph
    · rw [em, h]; rfl
  have prc2 : fX10_once M = (fX6_arrange M2).bind fun (x8, M10) => if x8 = 0 then some (((-9), M10)) else (fX6_unrollInto 902 0 M10).bind fun M13 => (fX8_adopt 902 0 (mI M13 1 0 4) M13).bind fun (x14, M16) => some ((x14, M16)) := by
    rw [prc, e5, Option.bind_some, if_pos rfl]
  obtain ⟨⟨x8, M3⟩, e3, h3⟩ := c_arr hN hl hC r1 p0 hR h1
  rcases h3 with ⟨z, F3, rw0, k0, hk, hrw, hst⟩ | ⟨z, F3, rw0, sp, M0, hK, hs, t0, rfl, tc, ic⟩
  · -- no row
    have z : x8 = 0 := z
    have F3 : Fr [701, 702] M2 M3 := F3
    obtain ⟨M4, F4, w4, em⟩ := model2 M3 (hl.fr F3) (hG.fr F3 (by decide))
    have G4 : Fr (kBM ++ [701, 702]) M2 M4 := (F3.mono (by decide)).step F4 (by decide)
    obtain ⟨⟨u, M5⟩, e5', h5⟩ := m_rst (rw0 := rw0) hN (hl.fr G4) (hG.fr G4 (by decide)) r1 p0 w4 (fun ⟨rw1, h⟩ => (rw_stuck hrw h hk hst).elim)
    rcases h5 with ⟨u1, F5, -⟩ | ⟨-, hrw1, -⟩
    · have u1 : u = (-9) := u1
      have F5 : Fr [1254, 1255] M4 M5 := F5
      refine ⟨-9, M3, M5, ?_, ?_, N, (hA2.fr G4 (by decide)).fr F5 (by decide)⟩
      · rw [prc2, e3, Option.bind_some]
        show (if x8 = 0 then _ else _) = _
        rw [z, if_pos rfl]
      · rw [em, e5', u1]
    · exact (rw_stuck hrw hrw1 hk hst).elim
  have z : x8 = 1 := z
  have F3 : Fr kAr M2 M3 := F3
  have tc : TC M3 N R rw0 (DM M0 705) := tc
  have ic : IC M3 (its R rw0 (DM M0 705) 15 0 (nP N - 1) 1) := ic
  have hlen := z_sum hK hs hb.1 p0
  have F4 : Fr [70008] M3 (sI M3 6 0 8 0) := Fr.refl.wIo (by decide)
  have v4 : mI (sI M3 6 0 8 0) 6 0 8 = 0 := by rw [mI_sI, if_pos ⟨rfl, rfl, rfl⟩]
  have eU : fX6_unrollInto 902 0 M3 = (fX6_unrollRow 15 902 0 0 (nI (nP N - 1)) 1 0 (sI M3 6 0 8 0)).bind fun M3 => some M3 := by
    rw [fX6_unrollInto, bnd_eq, F4.oI (by decide), F3.oI (by decide), hC.1.1]
    rw [show nI (nP N) - 1 = nI (nP N - 1) by rw [L32 1, pk_sub (by omega)]]
  generalize sI M3 6 0 8 0 = M4 at *
  have G4 : Fr (70008 :: kAr) M2 M4 := (F3.mono (by decide)).step F4 (by decide)
  obtain ⟨M5, e5', F5, o5⟩ := c_unroll hN hK hs 15 0 (nP N - 1) 1 0 [] M4 (by omega) (by omega) (by omega) (by omega) (Nat.one_dvd _) (by show 0 + _ ≤ 2000; omega) (hl.fr G4) (tc.fr F4 (by decide)) ⟨v4, fun t ht => by cases ht⟩
  have e5' : fX6_unrollRow 15 902 0 0 (nI (nP N - 1)) 1 0 M4 = some M5 := e5'
  have o5 : OC M5 (unr R rw0 (DM M0 705) 15 0 (nP N - 1) 1) := o5
  have G5 : Fr (902 :: 70008 :: kAr) M2 M5 := (G4.mono (by decide)).step F5 (by decide)
  have ho : ∀ i, i < sumTo R (nP N) → (fun t => (unr R rw0 (DM M0 705) 15 0 (nP N - 1) 1).getD t 0) i < nP N ∧ mI M5 902 0 i = nI ((fun t => (unr R rw0 (DM M0 705) 15 0 (nP N - 1) 1).getD t 0) i) := fun i hi => ⟨(unr_mem hK hs 15 0 (nP N - 1) 1 (by omega) (by omega) (by omega) (Nat.one_dvd _)).1 _ (gd_mem (by omega)), o5.2 i (by omega)⟩
  have h45 : mI M5 1 0 4 = nI (sumTo R (nP N)) := (G5.oI (by decide)).trans h4
  obtain ⟨⟨g, M6⟩, e6, F6, g1, g2, g3, g4, g5⟩ := c_adoptR hN (hl.fr G5) (hC.fr G5 (by decide)) (fun p hp => (G5.oI (by decide)).trans (hR p hp)) h45 hB2 ho
  have F6 : Fr kAd M5 M6 := F6
  have G6 : Fr (kAd ++ (70008 :: kAr)) M2 M6 := (G5.mono (by decide)).step F6 (by decide)
  obtain ⟨M7, F7, w7, em⟩ := model2 M6 (hl.fr G6) (hG.fr G6 (by decide))
  have G7 : Fr (kBM ++ (kAd ++ (70008 :: kAr))) M2 M7 := (G6.mono (by decide)).step F7 (by decide)
  obtain ⟨⟨u, M8⟩, e8, h8⟩ := m_rst hN (hl.fr G7) (hG.fr G7 (by decide)) r1 p0 w7 (fun _ => hK.1)
  rcases h8 with ⟨-, -, rw1, k1, hk1', hrw1, hst⟩ | ⟨F8, -, M0', t1, hall⟩
  · exact (rw_stuck hrw1 hK.1 hk1' hst).elim
  have F8 : Fr kOnM M7 M8 := F8
  have G8 : Fr (kOnM ++ (kBM ++ (kAd ++ (70008 :: kAr)))) M2 M8 := (G7.mono (by decide)).step F8 (by decide)
  obtain ⟨q1, q2, q3, q4, q5, q6⟩ := hall (DM M0 705) (fun i j hij hj => (TB_uniq t0 t1 _ i j (Nat.le_refl _) (by omega) hj).2 hij) _ rfl
  have q1 : u = _ := q1
  have g1 : g = _ := g1
  have q6 : IX M8 (its R rw0 (DM M0 705) 15 0 (nP N - 1) 1) := q6
  have hil := its_len (R := R) (rw := rw0) hs 15 0 (nP N - 1) 1 (by omega) (by omega)
  refine ⟨u, M6, M8, ?_, by rw [em, e8], N, Al_once hA2 G8 (by decide) ?_ ?_⟩
  · rw [prc2, e3, Option.bind_some]
    show (if x8 = 0 then _ else _) = _
    rw [z, if_neg (by decide), eU, e5', Option.bind_some, Option.bind_some, h45, e6, q1, ← g1]; rfl
  · have H : Fr (kOnM ++ (kBM ++ (kAd ++ [902, 70008]))) M3 M8 := ((((F4.mono (by decide)).step F5 (by decide)).step F6 (by decide)).step F7 (by decide)).step F8 (by decide)
    refine Or.inr ⟨_, by omega, q6.1, ?_, fun j hj => ?_⟩
    · rw [H.oI (k := 6) (j := 7) (by decide)]; exact ic.1
    · rw [q6.2 j hj, H.aI (k := 706) (by decide)]; exact ic.2 j hj
  · refine Cs_new (st := fun l => i2n (stO N (fun t => (unr R rw0 (DM M0 705) 15 0 (nP N - 1) 1).getD t 0) l (sumTo R (nP N)))) (od := fun t => (unr R rw0 (DM M0 705) 15 0 (nP N - 1) 1).getD t 0) (z := sumTo R (nP N)) sp1 hB2 q2 ?_ (fun i hi => ⟨(ho i hi).1, q3 i hi, ?_⟩) (fun p hp => ?_) (fun l hl' => ⟨?_, ?_⟩) (fun t ht => ⟨?_, q5 t ht⟩)
    · rw [F8.oI (k := 8) (j := 3) (by decide), F7.oI (k := 8) (j := 3) (by decide)]; exact g2
    · rw [F8.aI (k := 902) (by decide), F7.aI (k := 902) (by decide)]; exact g3 i hi
    · obtain ⟨k, hk, ek⟩ := rw_sur hK.1 p hp
      obtain ⟨t, ht, et⟩ := mem_gd ((unr_mem hK hs 15 0 (nP N - 1) 1 (by omega) (by omega) (by omega) (Nat.one_dvd _)).2 k (by omega) (by omega))
      exact ⟨t, by omega, by rw [← ek]; exact et⟩
    · rw [F8.aI (k := 904) (by decide), F7.aI (k := 904) (by decide)]; exact (g4 l hl').trans (i2n_nI _).symm
    · exact (q4 l hl').trans (i2n_nI _).symm
    · rw [F8.aI (k := 905) (by decide), F7.aI (k := 905) (by decide)]; exact g5 t ht
