/-! stuck -/
theorem rnd_le {N : NG} {R : Nat → Nat} (h : rndOf N = .inl R) : (∀ p, p < nP N → R p ≤ 1000) ∧ sumTo R (nP N) ≤ 2000 := by
  unfold rndOf at h
  split at h
  · rename_i s hs
    by_cases q : cntOK N s
    · rw [if_pos q] at h
      cases h
      exact ⟨fun p hp => (q.1 p hp).2, q.2⟩
    · rw [if_neg q] at h; cases h
  · cases h
theorem RB_0 {N : NG} {R : Nat → Nat} (hN : NOK N) (h : rndOf N = .inl R) : RB N R (nS N) := by
  have := rnd_le h
  exact ⟨this.1, fun l hl => by have := (hN.2.2.1 l hl).2.2; omega, this.2⟩
theorem c_begin {M : tM} {N : NG} {R : Nat → Nat} (hN : NOK N) (hl : Len M) (hC : Cg M M N) (hR : ∀ p, p < nP N → mI M 7 p 6 = nI (R p)) (h4 : mI M 1 0 4 = nI (sumTo R (nP N))) :
    Ok (fX5_begin M) (fun m => Fr kK M m ∧ MC m N R (nS N) (fun _ => 0) ∧ SC m N (nS N) 0 (fun _ => 0)) := by
  have hb := hN.1
  rw [fX5_begin, bnd_eq, bnd_eq, mI_sI, if_neg (by simp), h4]
  have F0 : Fr [60006, 60008] M (sI (sI M 5 0 8 0) 5 0 6 (nI (sumTo R (nP N)))) := (Fr.refl.wIo (by decide)).wIo (by decide)
  have u6 : mI (sI (sI M 5 0 8 0) 5 0 6 (nI (sumTo R (nP N)))) 5 0 6 = nI (sumTo R (nP N)) := by simp [mI_sI]
  have u8 : mI (sI (sI M 5 0 8 0) 5 0 6 (nI (sumTo R (nP N)))) 5 0 8 = 0 := by simp [mI_sI]
  generalize sI (sI M 5 0 8 0) 5 0 6 (nI (sumTo R (nP N))) = M0 at *
  have key1 : Ok (fX5_begin_l18 FU 0 M0) (fun m => Fr [603, 604, 605] M0 m ∧ ∀ p, p < nP N → mI m 603 0 p = nI (R p) ∧ mI m 604 0 p = 0 ∧ mI m 605 0 p = 0) := by
    refine loop0 (fun n i m => fX5_begin_l18 n i m) (nP N) (fun i m => Fr [603, 604, 605] M0 m ∧ ∀ p, p < i → mI m 603 0 p = nI (R p) ∧ mI m 604 0 p = 0 ∧ mI m 605 0 p = 0) _ (by omega) ?_ ?_ M0 ⟨Fr.refl, fun p hp => by omega⟩
    · rintro n m ⟨F, h⟩
      have G : Fr kK M m := (F0.mono (by decide)).step F (by decide)
      rw [fX5_begin_l18, G.oI (by decide), hC.1.1, if_pos (nI_le (Nat.le_refl _) (by omega))]
      exact ok_some ⟨F, h⟩
    · rintro n i m hi ⟨F, h⟩ kk
      have G : Fr kK M m := (F0.mono (by decide)).step F (by decide)
      rw [fX5_begin_l18, G.oI (by decide), hC.1.1, if_neg (nI_ge hi (by omega)), G.n, ln200 hl, chk_nI (by omega) (by omega), bnd_eq, nI_clamp (by omega), G.aR (by decide), (hC.2.1 i hi).1.1, Option.bind_some, G.n, ln603 hl, chk_nI (by omega) (by omega), bnd_eq, G.oI (by decide), hR i hi, mN_sI, G.n, ln604 hl, chk_nI (by omega) (by omega), bnd_eq, mN_sI, mN_sI, G.n, ln605 hl, chk_nI (by omega) (by omega), bnd_eq, bnd_eq, nI_1]
      refine kk _ ⟨((F.wI (by decide)).wI (by decide)).wI (by decide), fun p hp => ?_⟩
      by_cases e : p = i
      · subst e; simp [mI_sI]
      · have := h p (by omega)
        simp [mI_sI, e, this]
  refine ok_call key1 ?_
  rintro M1 ⟨F1, k1⟩
  rw [bnd_eq]
  have F2 : Fr [60007] M1 (sI M1 5 0 7 0) := Fr.refl.wIo (by decide)
  have u7 : mI (sI M1 5 0 7 0) 5 0 7 = 0 := by simp [mI_sI]
  generalize sI M1 5 0 7 0 = M2 at *
  have G2 : Fr kK M M2 := ((F0.mono (by decide)).step F1 (by decide)).step F2 (by decide)
  have key2 : Ok (fX5_begin_l74 FU 0 M2) (fun m => Fr [601, 602, 60007] M2 m ∧ (∀ l, l < nL N → mI m 601 0 l = nI (nS N l) ∧ mI m 602 0 l = nI (nS N l)) ∧ mI m 5 0 7 = nI (sumTo (nS N) (nL N))) := by
    refine loop0 (fun n i m => fX5_begin_l74 n i m) (nL N) (fun i m => Fr [601, 602, 60007] M2 m ∧ (∀ l, l < i → mI m 601 0 l = nI (nS N l) ∧ mI m 602 0 l = nI (nS N l)) ∧ mI m 5 0 7 = nI (sumTo (nS N) i)) _ (by omega) ?_ ?_ M2 ⟨Fr.refl, fun l hl => by omega, by rw [u7]; rfl⟩
    · rintro n m ⟨F, h⟩
      have G : Fr kK M m := G2.step F (by decide)
      rw [fX5_begin_l74, G.oI (by decide), hC.1.2, if_pos (nI_le (Nat.le_refl _) (by omega))]
      exact ok_some ⟨F, h⟩
    · rintro n i m hi ⟨F, h, h7⟩ kk
      have G : Fr kK M m := G2.step F (by decide)
      have cl := (hC.2.2.1 i hi).1
      rw [fX5_begin_l74, G.oI (by decide), hC.1.2, if_neg (nI_ge hi (by omega)), G.n, ln201 hl, chk_nI (by omega) (by omega), bnd_eq, nI_clamp (by omega), G.aR (by decide), cl.1, Option.bind_some, G.n, ln601 hl, chk_nI (by omega) (by omega), bnd_eq, G.oI (by decide), cl.2.2.2.2.1, mN_sI, G.n, ln601 hl, chk_nI (by omega) (by omega), mN_sI, G.n, ln602 hl, chk_nI (by omega) (by omega), bnd_eq, mN_sI, mN_sI, G.n, ln601 hl, chk_nI (by omega) (by omega), bnd_eq, bnd_eq, nI_1]
      have e1 : mI (sI m 601 0 i (nI (nS N i))) 601 0 i = nI (nS N i) := by rw [mI_sI, if_pos ⟨rfl, rfl, rfl⟩]
      rw [e1]
      have e2 : mI (sI (sI m 601 0 i (nI (nS N i))) 602 0 i (nI (nS N i))) 601 0 i = nI (nS N i) := by rw [mI_sI, if_neg (by simp)]; exact e1
      have e3 : mI (sI (sI m 601 0 i (nI (nS N i))) 602 0 i (nI (nS N i))) 5 0 7 = nI (sumTo (nS N) i) := by rw [mI_sI, if_neg (by simp), mI_sI, if_neg (by simp)]; exact h7
      rw [e2, e3, nI_add]
      refine kk _ ⟨((F.wI (by decide)).wI (by decide)).wIo (by decide), fun l hl' => ?_, by rw [mI_sI, if_pos ⟨rfl, rfl, rfl⟩, sumTo]⟩
      by_cases e : l = i
      · subst e; simp [mI_sI]
      · have := h l (by omega)
        simp [mI_sI, e, this]
  refine ok_call key2 ?_
  rintro M3 ⟨F3, k3, k4⟩
  refine ok_some ⟨G2.step F3 (by decide), ⟨fun l hl' => ?_, fun p hp => ?_, ?_⟩, fun l hl' => ⟨(k3 l hl').2, ?_⟩, k4, ?_, fun p hp => ?_⟩
  · rw [mk_0]; exact (k3 l hl').1
  · rw [F3.aI (by decide), F2.aI (by decide), (k1 p hp).1, F3.aI (by decide), F2.aI (by decide), (k1 p hp).2.1, Nat.zero_mod]
    exact ⟨rfl, rfl⟩
  · rw [F3.oI (by decide), F2.oI (by decide), F1.oI (by decide)]; exact u6
  · have := (hN.2.2.1 l hl').2.2; omega
  · rw [F3.oI (by decide), F2.oI (by decide), F1.oI (by decide)]; exact u8
  · rw [F3.aI (by decide), F2.aI (by decide), (k1 p hp).2.2]; rfl
theorem left_0 {N : NG} {R fs c : Nat → Nat} (hB : RB N R fs) : sumTo (fun q => R q - c q) (nP N) ≤ 0 ↔ ∀ p, p < nP N → ¬ c p < R p := by
  constructor
  · intro h p hp
    have := sumTo_zero.mp (show sumTo (fun q => R q - c q) (nP N) = 0 by omega) p hp
    have h2 : R p - c p = 0 := this
    omega
  · intro h
    have : sumTo (fun q => R q - c q) (nP N) = 0 := sumTo_zero.mpr (fun p hp => by have := h p hp; show R p - c p = 0; omega)
    omega
/-- sticks with so many things more -/
theorem c_sticks {M : tM} {N : NG} {R lk : Nat → Nat} (hN : NOK N) (hl : Len M) (hC : Cg M M N) (hR : ∀ p, p < nP N → mI M 7 p 6 = nI (R p)) (h4 : mI M 1 0 4 = nI (sumTo R (nP N))) (hB : RB N R (fun l => nS N l + lk l)) (h2 : ∀ l, l < nL N → mI M 302 0 l = nI (lk l)) :
    Ok (fX2_sticks M) (fun w => Fr kK M w.2 ∧ ((w.1 = 1 ∧ stk N R (fun l => nS N l + lk l)) ∨ (w.1 = 0 ∧ ¬ stk N R (fun l => nS N l + lk l)))) := by
  have hb := hN.1
  rw [fX2_sticks]
  refine ok_call (c_begin hN hl hC hR h4) ?_
  rintro M1 ⟨F1, k1, k2⟩
  have key : Ok (fX2_sticks_l9 FU 0 M1) (fun m => Fr [601] M1 m ∧ ∀ l, l < nL N → mI m 601 0 l = nI (nS N l + lk l)) := by
    refine loop0 (fun n i m => fX2_sticks_l9 n i m) (nL N) (fun i m => Fr [601] M1 m ∧ ∀ l, l < nL N → mI m 601 0 l = nI (if l < i then nS N l + lk l else nS N l)) _ (by omega) ?_ ?_ M1 ⟨Fr.refl, fun l hl => by rw [if_neg (by omega), k1.1 l hl, mk_0]⟩
    · rintro n m ⟨F, h⟩
      have G : Fr kK M m := F1.step F (by decide)
      rw [fX2_sticks_l9, G.oI (by decide), hC.1.2, if_pos (nI_le (Nat.le_refl _) (by omega))]
      exact ok_some ⟨F, fun l hl => by rw [h l hl, if_pos hl]⟩
    · rintro n i m hi ⟨F, h⟩ kk
      have G : Fr kK M m := F1.step F (by decide)
      have hi' := h i hi
      rw [if_neg (Nat.lt_irrefl _)] at hi'
      rw [fX2_sticks_l9, G.oI (by decide), hC.1.2, if_neg (nI_ge hi (by omega)), G.n, ln601 hl, chk_nI (by omega) (by omega), G.n, ln302 hl, chk_nI (by omega) (by omega), chk_nI (by omega) (by omega), bnd_eq, bnd_eq, nI_1, nI_clamp (by omega), hi', G.aI (by decide), h2 i hi, nI_add]
      refine kk _ ⟨F.wI (by decide), fun l hl' => ?_⟩
      rw [mI_sI]
      by_cases e : l = i
      · rw [if_pos ⟨rfl, rfl, e⟩, if_pos (by omega), e]
      · rw [if_neg (fun z => e z.2.2), h l hl']
        by_cases q : l < i
        · rw [if_pos q, if_pos (by omega)]
        · rw [if_neg q, if_neg (by omega)]
  refine ok_call key ?_
  rintro M2 ⟨F2, k3⟩
  have G : Fr kK M M2 := F1.step F2 (by decide)
  have hM : MCS M2 N R (fun l => nS N l + lk l) (fun _ => 0) := ⟨⟨fun l hl => by rw [mk_0]; exact k3 l hl, fun p hp => by rw [F2.aI (by decide), F2.aI (by decide)]; exact k1.2.1 p hp, by rw [F2.oI (by decide)]; exact k1.2.2⟩, cOK_0 _ _ _, nS N, 0, fun _ => 0, fun l hl => by rw [F2.aI (by decide)]; exact k2.1 l hl, by rw [F2.oI (by decide)]; exact k2.2.1, by rw [F2.oI (by decide)]; exact k2.2.2.1, fun p hp => by rw [F2.aI (by decide)]; exact k2.2.2.2 p hp⟩
  refine ok_call (c_exhaust hN hB (hl.fr G) (hC.fr G (by decide)) hM) ?_
  rintro M3 ⟨F3, ps, g1, g2, g3⟩
  have so := stk_of hN g1 g2
  have lo := left_0 (c := toRun (fun _ => 0) ps) hB
  have sr := sumR_le (c := toRun (fun _ => 0) ps) hB
  rw [g3.1.2.2]
  by_cases c : sumTo (fun q => R q - toRun (fun _ => 0) ps q) (nP N) ≤ 0
  · rw [if_pos (show nI _ ≤ (0 : Int32) from nI_le (b := 0) c (by omega))]
    exact ok_some ⟨G.step F3 (by decide), Or.inr ⟨rfl, fun z => by obtain ⟨p, hp, h⟩ := so.mp z; exact lo.mp c p hp h⟩⟩
  · rw [if_neg (nI_nle (by omega) (by omega))]
    refine ok_some ⟨G.step F3 (by decide), Or.inl ⟨rfl, so.mpr ?_⟩⟩
    refine Classical.byContradiction (fun h => c (lo.mpr (fun p hp z => h ⟨p, hp, z⟩)))
def kSt : List Nat := [302, 601, 602, 603, 604, 605, 30003, 30004, 60006, 60007, 60008]
theorem c_isStuck {M : tM} {N : NG} {R : Nat → Nat} (hN : NOK N) (hl : Len M) (hC : Cg M M N) (hr : rndOf N = .inl R) (p0 : 0 < nP N) (hR : ∀ p, p < nP N → mI M 7 p 6 = nI (R p)) (h4 : mI M 1 0 4 = nI (sumTo R (nP N))) (hk : Cc2 M N) :
    Ok (fX2_isStuck M) (fun w => Fr kSt M w.2 ∧ Cc2 w.2 N ∧ mI w.2 2 0 3 = 1 ∧ w.1 = mI w.2 2 0 4 ∧ ((w.1 = 1 ∧ stk N R (nS N)) ∨ (w.1 = 0 ∧ ¬ stk N R (nS N)))) := by
  rw [fX2_isStuck]
  rcases id hk with ⟨h3, h5⟩ | ⟨h3, ⟨R', r1, r2, r3⟩, hx⟩
  · rw [h3, if_pos rfl]
    refine ok_call (s_fill (k := 302) (i := 0) (n := 20) (v := 0) (by decide) (by decide) (by decide) (ln302 hl) (by decide)) ?_
    rintro M1 ⟨F1, k1, -⟩
    have hb := hN.1
    refine ok_call (c_sticks (lk := fun _ => 0) hN (hl.fr F1) (hC.fr F1 (by decide)) (fun p hp => (F1.oI (by decide)).trans (hR p hp)) ((F1.oI (by decide)).trans h4) (RB_0 hN hr) (fun l hl' => k1 l (by omega))) ?_
    rintro ⟨x, M2⟩ ⟨F2, hw⟩
    have F2 : Fr kK M1 M2 := F2
    have G : Fr [302, 601, 602, 603, 604, 605, 60006, 60007, 60008] M M2 := (F1.mono (by decide)).step F2 (by decide)
    have hw : (x = 1 ∧ stk N R (nS N)) ∨ (x = 0 ∧ ¬ stk N R (nS N)) := hw
    have tx : tb x = true := decide_eq_true (by rcases hw with ⟨e, -⟩ | ⟨e, -⟩ <;> simp [e])
    show Ok (chk (tb x) <| bnd (sI M2 2 0 4 x) fun M10 => bnd (sI M10 2 0 3 1) fun M11 => bnd (mI M11 2 0 4) fun x12 => chk (tb x12) <| some ((x12, M11))) _
    rw [chk_tr tx, bnd_eq, bnd_eq, bnd_eq]
    have e4 : mI (sI (sI M2 2 0 4 x) 2 0 3 1) 2 0 4 = x := by simp [mI_sI]
    have e3 : mI (sI (sI M2 2 0 4 x) 2 0 3 1) 2 0 3 = 1 := by simp [mI_sI]
    have G2 : Fr [30003, 30004] M2 (sI (sI M2 2 0 4 x) 2 0 3 1) := (Fr.refl.wIo (by decide)).wIo (by decide)
    rw [e4, chk_tr tx]
    refine ok_some ⟨(G.mono (by decide)).step G2 (by decide), Or.inr ⟨e3, ⟨R, hr, p0, ?_⟩, Or.inl ⟨?_, fun l hl' => ?_⟩⟩, e3, e4.symm, hw⟩
    · show (mI (sI (sI M2 2 0 4 x) 2 0 3 1) 2 0 4 = 1 ∧ _) ∨ (mI (sI (sI M2 2 0 4 x) 2 0 3 1) 2 0 4 = 0 ∧ _)
      rw [e4]; exact hw
    · exact (G2.oI (by decide)).trans ((G.oI (by decide)).trans h5)
    · show mI (sI (sI M2 2 0 4 x) 2 0 3 1) 302 0 l = 0
      rw [G2.aI (by decide), F2.aI (by decide)]; exact k1 l (by omega)
  · rw [h3, if_neg (by decide), bnd_eq]
    rw [hr] at r1
    cases r1
    have tx : tb (mI M 2 0 4) = true := decide_eq_true (by rcases r3 with ⟨e, -⟩ | ⟨e, -⟩ <;> simp [e])
    rw [chk_tr tx]
    exact ok_some ⟨Fr.refl, hk, h3, rfl, r3⟩
def kSt2 : List Nat := [302, 601, 602, 603, 604, 605, 30003, 30004, 30005, 60006, 60007, 60008]
theorem Al_stk {M M2 : tM} {N : NG} (hA : Al M N) (F : Fr kSt2 M M2) (h : Cc2 M2 N) : Al M2 N := by
  obtain ⟨⟨hN, hl, hG⟩, hC, hT, hV, hF, hR, hD, hO, hS, hk1, hk2, hk3⟩ := hA
  exact ⟨⟨hN, hl.fr F, hG.fr F (by decide)⟩, hC.fr F (by decide), hT.fr F (by decide), hV.fr F (by decide), hF.fr F (by decide), hR.fr F (by decide), hD.fr F (by decide), hO.fr F (by decide), hS.fr F (by decide), hk1.fr F (by decide), h, hk3.fr F (by decide)⟩
def kBM : List Nat := [1232, 1233, 1234, 1235, 1238, 1239, 1240, 120036, 120037]
theorem m_barred {X : tM} {N : NG} {y : Int32} (hN : NOK N) (hl : Len X) (hG : Gr X N) (hy : y = 0 ∨ y = 1) : Ok (fX11_barred y X) (fun w => Fr kBM X w.2 ∧ ((nP N = 0 ∧ w.1 = (-4)) ∨ (0 < nP N ∧ ((∃ R, rndOf N = .inl R ∧ mI w.2 11 0 36 = nI (sumTo R (nP N)) ∧ (∀ p, p < nP N → mI w.2 1235 0 p = nI (R p)) ∧ ((w.1 = 0 ∧ (y = 0 ∨ ¬ stk N R (nS N))) ∨ (w.1 = (-4) ∧ y = 1 ∧ stk N R (nS N)))) ∨ (∃ l, rndOf N = .inr (some l) ∧ w.1 = (-4)) ∨ (rndOf N = .inr none ∧ w.1 = (-6)))))) := by
  have hb := hN.1
  rw [fX11_barred, hG.1.1]
  by_cases p0 : nP N = 0
  · rw [if_pos (by rw [p0]; rfl)]
    exact ok_some ⟨Fr.refl, Or.inl ⟨p0, rfl⟩⟩
  rw [if_neg (nI_ne0 (by omega) (by omega))]
  refine ok_call (m_bal hN hl hG) ?_
  rintro ⟨x, M1⟩ ⟨F1, hw⟩
  have F1 : Fr kBal X M1 := F1
  show Ok (if x = (-9) then _ else _) _
  rcases hw with ⟨R, r1, w1, w2, w3, w4⟩ | ⟨l, hl', r1, w1, w2⟩ | ⟨r1, w1, w2⟩
  · have w1 : x = 1 := w1
    have w3 : mI M1 11 0 36 = nI (sumTo R (nP N)) := w3
    have w4 : ∀ p, p < nP N → mI M1 1235 0 p = nI (R p) := w4
    subst w1
    rw [if_neg (by decide), if_neg (by decide)]
    rcases hy with rfl | rfl
    · rw [if_pos rfl]
      exact ok_some ⟨F1.mono (by decide), Or.inr ⟨by omega, Or.inl ⟨R, r1, w3, w4, Or.inl ⟨rfl, Or.inl rfl⟩⟩⟩⟩
    · rw [if_neg (by decide)]
      refine ok_call (m_stuck (fs := nS N) (y := 0) hN (hl.fr F1) (hG.fr F1 (by decide)) (RB_0 hN r1) w4 (fun l _ => Or.inl ⟨rfl, rfl⟩)) ?_
      rintro ⟨v, M2⟩ ⟨F2, hv⟩
      have F2 : Fr kM M1 M2 := F2
      have G : Fr kBM X M2 := (F1.mono (by decide)).step F2 (by decide)
      have w3' : mI M2 11 0 36 = nI (sumTo R (nP N)) := (F2.oI (by decide)).trans w3
      have w4' : ∀ p, p < nP N → mI M2 1235 0 p = nI (R p) := fun p hp => (F2.aI (by decide)).trans (w4 p hp)
      show Ok (if v = 0 then _ else _) _
      rcases hv with ⟨v1, hs⟩ | ⟨v0, hs⟩
      · have v1 : v = 1 := v1
        rw [v1, if_neg (by decide)]
        exact ok_some ⟨G, Or.inr ⟨by omega, Or.inl ⟨R, r1, w3', w4', Or.inr ⟨rfl, rfl, hs⟩⟩⟩⟩
      · have v0 : v = 0 := v0
        rw [v0, if_pos rfl]
        exact ok_some ⟨G, Or.inr ⟨by omega, Or.inl ⟨R, r1, w3', w4', Or.inl ⟨rfl, Or.inr hs⟩⟩⟩⟩
  · have w1 : x = (-9) := w1
    rw [w1, if_pos rfl]
    exact ok_some ⟨F1.mono (by decide), Or.inr ⟨by omega, Or.inr (Or.inl ⟨l, r1, rfl⟩)⟩⟩
  · have w1 : x = (-6) := w1
    rw [w1, if_neg (by decide), if_pos rfl]
    exact ok_some ⟨F1.mono (by decide), Or.inr ⟨by omega, Or.inr (Or.inr ⟨r1, rfl⟩)⟩⟩
/-- both sides: is there a ROUND -/
theorem nor_both {M : tM} {N : NG} (hA : Al M N) : ∃ x M1, fX1_roundState M = some (x, M1) ∧ Fr kRnd M M1 ∧ Al M1 N ∧ ((nP N = 0 ∧ x = (-4)) ∨ (0 < nP N ∧ ((∃ R, rndOf N = .inl R ∧ x = 0 ∧ (∀ p, p < nP N → mI M1 7 p 6 = nI (R p)) ∧ mI M1 1 0 4 = nI (sumTo R (nP N))) ∨ (∃ l, rndOf N = .inr (some l) ∧ x = (-9)) ∨ (rndOf N = .inr none ∧ x = (-6))))) := by
  obtain ⟨x, M1, e, F, ex, hr, hA1⟩ := rnd_both hA
  refine ⟨x, M1, e, F, hA1, ?_⟩
  rcases hr with ⟨p0, h7⟩ | ⟨p0, ⟨R, q1, q2, q3, q4, q5⟩ | ⟨l, hl', q1, q2, q3⟩ | ⟨q1, q2, q3⟩⟩
  · exact Or.inl ⟨p0, ex.trans h7⟩
  · exact Or.inr ⟨p0, Or.inl ⟨R, q1, ex.trans q2, q5, q3⟩⟩
  · exact Or.inr ⟨p0, Or.inr (Or.inl ⟨l, q1, ex.trans q2⟩)⟩
  · exact Or.inr ⟨p0, Or.inr (Or.inr ⟨q1, ex.trans q2⟩)⟩
theorem c14 : call14 Rel := by
  rintro M ⟨N, hA⟩
  obtain ⟨x, M1, e, F, hA1, hx⟩ := nor_both hA
  obtain ⟨⟨hN, hl, hG⟩, hC, -, -, -, -, -, -, -, -, hk2, -⟩ := id hA1
  have pre : ∀ v, x = v → ¬ v = (-9) → ¬ v = 0 → fX10_stuck M = some (v, M1) := fun v e1 e2 e3 => by
    rw [fX10_stuck, fX10_noRound, e, Option.bind_some]
    show Option.bind (if x = (-9) then _ else _) _ = _
    rw [e1, if_neg e2, Option.bind_some]
    show (if v = 0 then _ else _) = _
    rw [if_neg e3]
  rcases hx with ⟨p0, x4⟩ | ⟨p0, ⟨R, r1, x0, hR, h4⟩ | ⟨l, r1, x9⟩ | ⟨r1, x6⟩⟩
  · obtain ⟨⟨y, M2⟩, e2, F2, hw⟩ := m_barred (y := 0) hN hl hG (Or.inl rfl)
    have F2 : Fr kBM M1 M2 := F2
    refine ⟨-4, M1, M2, pre _ x4 (by decide) (by decide), ?_, N, hA1.fr F2 (by decide)⟩
    rcases hw with ⟨-, w1⟩ | ⟨h, -⟩
    · have w1 : y = (-4) := w1
      rw [fX11_stuck, e2, Option.bind_some]
      show (if 0 ≤ y then _ else _) = _
      rw [w1, if_neg (by decide)]
    · omega
  · obtain ⟨⟨v, M2⟩, e2, F2, hk, h3, hv, hs⟩ := c_isStuck hN hl hC r1 p0 hR h4 hk2
    have F2 : Fr kSt M1 M2 := F2
    have hA2 := Al_stk hA1 (F2.mono (by decide)) hk
    obtain ⟨⟨hN, hl2, hG2⟩, -⟩ := id hA2
    have hs : (v = 1 ∧ stk N R (nS N)) ∨ (v = 0 ∧ ¬ stk N R (nS N)) := hs
    have prc : fX10_stuck M = if v = 0 then some (0, M2) else some (1, M2) := by
      rw [fX10_stuck, fX10_noRound, e, Option.bind_some]
      show Option.bind (if x = (-9) then _ else _) _ = _
      rw [x0, if_neg (by decide), Option.bind_some]
      show (if (0 : Int32) = 0 then _ else _) = _
      rw [if_pos rfl, e2, Option.bind_some]
    obtain ⟨⟨y, M3⟩, e3, F3, hw⟩ := m_barred (y := 0) hN hl2 hG2 (Or.inl rfl)
    have F3 : Fr kBM M2 M3 := F3
    rcases hw with ⟨h, -⟩ | ⟨-, ⟨R', r2, w2, w3, w1⟩ | ⟨l, r2, -⟩ | ⟨r2, -⟩⟩
    · omega
    · rw [r1] at r2
      cases r2
      have y0 : y = 0 := by
        rcases w1 with ⟨w, -⟩ | ⟨-, w, -⟩
        · exact w
        · exact absurd w (by decide)
      obtain ⟨⟨u, M4⟩, e4, F4, hu⟩ := m_stuck (fs := nS N) (y := 0) hN (hl2.fr F3) (hG2.fr F3 (by decide)) (RB_0 hN r1) w3 (fun l _ => Or.inl ⟨rfl, rfl⟩)
      have F4 : Fr kM M3 M4 := F4
      have hu : (u = 1 ∧ stk N R (nS N)) ∨ (u = 0 ∧ ¬ stk N R (nS N)) := hu
      have prm : fX11_stuck M2 = if u = 0 then some (0, M4) else some (1, M4) := by
        rw [fX11_stuck, e3, Option.bind_some]
        show (if 0 ≤ y then _ else _) = _
        rw [y0, if_pos (by decide), e4, Option.bind_some]
      have hA4 := (hA2.fr F3 (by decide)).fr F4 (by decide)
      rcases hs with ⟨v1, s1⟩ | ⟨v1, s1⟩ <;> rcases hu with ⟨u1, s2⟩ | ⟨u1, s2⟩
      · exact ⟨1, M2, M4, by rw [prc, v1, if_neg (by decide)], by rw [prm, u1, if_neg (by decide)], N, hA4⟩
      · exact absurd s1 s2
      · exact absurd s2 s1
      · exact ⟨0, M2, M4, by rw [prc, v1, if_pos rfl], by rw [prm, u1, if_pos rfl], N, hA4⟩
    · rw [r1] at r2; cases r2
    · rw [r1] at r2; cases r2
  · obtain ⟨⟨y, M2⟩, e2, F2, hw⟩ := m_barred (y := 0) hN hl hG (Or.inl rfl)
    have F2 : Fr kBM M1 M2 := F2
    refine ⟨-4, M1, M2, ?_, ?_, N, hA1.fr F2 (by decide)⟩
    · rw [fX10_stuck, fX10_noRound, e, Option.bind_some]
      show Option.bind (if x = (-9) then _ else _) _ = _
      rw [x9, if_pos rfl, Option.bind_some]
      rfl
    · rcases hw with ⟨h, -⟩ | ⟨-, ⟨R', r2, -⟩ | ⟨l, r2, w1⟩ | ⟨r2, -⟩⟩
      · omega
      · rw [r1] at r2; cases r2
      · have w1 : y = (-4) := w1
        rw [fX11_stuck, e2, Option.bind_some]
        show (if 0 ≤ y then _ else _) = _
        rw [w1, if_neg (by decide)]
      · rw [r1] at r2; cases r2
  · obtain ⟨⟨y, M2⟩, e2, F2, hw⟩ := m_barred (y := 0) hN hl hG (Or.inl rfl)
    have F2 : Fr kBM M1 M2 := F2
    refine ⟨-6, M1, M2, pre _ x6 (by decide) (by decide), ?_, N, hA1.fr F2 (by decide)⟩
    rcases hw with ⟨h, -⟩ | ⟨-, ⟨R', r2, -⟩ | ⟨l, r2, w1⟩ | ⟨r2, w1⟩⟩
    · omega
    · rw [r1] at r2; cases r2
    · rw [r1] at r2; cases r2
    · have w1 : y = (-6) := w1
      rw [fX11_stuck, e2, Option.bind_some]
      show (if 0 ≤ y then _ else _) = _
      rw [w1, if_neg (by decide)]
