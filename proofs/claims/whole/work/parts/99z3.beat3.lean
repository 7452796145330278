/-! beat: the class's nodes and own waits -/
def EC (M : tM) (E : List ED) : Prop := mI M 0 0 10 = nI E.length ∧ ∀ e, e < E.length → mI M 107 0 e = nI (E.getD e (0, 0, 0)).1 ∧ mI M 108 0 e = nI (E.getD e (0, 0, 0)).2.1 ∧ mI M 109 0 e = nI (E.getD e (0, 0, 0)).2.2
theorem EC.fr {ks : List Nat} {M M2 : tM} {E : List ED} (h : EC M E) (hF : Fr ks M M2) (hd : disj ks [0, 107, 108, 109, 10010] = true) : EC M2 E := by
  refine ⟨(hF.hI hd 0 10 (by decide) 0).trans h.1, fun e he => ?_⟩
  rw [hF.gI hd 107 (by decide), hF.gI hd 108 (by decide), hF.gI hd 109 (by decide)]
  exact h.2 e he
theorem gd_last {α : Type} {l : List α} {x d : α} : (l ++ [x]).getD l.length d = x := by simp [List.getD]
theorem c_wait {M : tM} {E : List ED} {a b r : Nat} (hl : Len M) (h : EC M E) (hE : E.length < 1260) (ha : a < 60) (hb : b < 60) : Ok (fX0_addWait (nI a) (nI b) (nI r) M) (fun m => Fr [107, 108, 109, 10010] M m ∧ EC m (E ++ [(a, b, r)])) := by
  obtain ⟨h1, h2⟩ := h
  rw [fX0_addWait, h1, if_neg (show ¬ (1260 : Int32) ≤ nI _ from nI_ge (b := 1260) hE (by omega)), if_neg (show ¬ (60 : Int32) ≤ nI _ from nI_ge (b := 60) ha (by omega)), if_neg (show ¬ (60 : Int32) ≤ nI _ from nI_ge (b := 60) hb (by omega)), ln107 hl, chk_nI hE (by omega), bnd_eq, nI_clamp (by omega), mI_sI, if_neg (by simp), h1, mN_sI, ln108 hl, chk_nI hE (by omega), bnd_eq, mI_sI, if_neg (by simp), mI_sI, if_neg (by simp), h1, mN_sI, mN_sI, ln109 hl, chk_nI hE (by omega), bnd_eq, bnd_eq, mI_sI, if_neg (by simp), mI_sI, if_neg (by simp), mI_sI, if_neg (by simp), h1, nI_1, nI_clamp (by omega)]
  refine ok_some ⟨(((Fr.refl.wI (by decide)).wI (by decide)).wI (by decide)).wIo (by decide), ?_, fun e he => ?_⟩
  · rw [mI_sI, if_pos ⟨rfl, rfl, rfl⟩, List.length_append]; rfl
  · rw [List.length_append] at he
    have he : e < E.length + 1 := he
    by_cases q : e = E.length
    · subst q
      rw [gd_last]
      simp [mI_sI]
    · rw [gdl (show e < E.length by omega)]
      have := h2 e (by omega)
      simp [mI_sI, q, this]
def kN5 : List Nat := [105, 107, 108, 109, 10006, 10010]
theorem c_n45 {M : tM} {N : NG} {R tm : Nat → Nat} {p : Nat} {E0 : List ED} (hN : NOK N) (hl : Len M) (hp : p < nP N) (hR : mI M 7 p 6 = nI (R p)) (hT : mI M 7 p 4 = nI (tm p)) (hn : bs R (nP N) ≤ 60) (h104 : mI M 104 0 p = nI (bs R p)) (h6 : mI M 0 0 6 = nI (bs R p)) (hE : EC M E0) (hlen : E0.length = bs R p) :
    Ok (fX0_numberFirings_l45 (nI p) (some p) FU 0 M) (fun m => Fr kN5 M m ∧ mI m 0 0 6 = nI (bs R (p + 1)) ∧ EC m (E0 ++ own R p (R p)) ∧ (∀ v, v < bs R p → mI m 105 0 v = mI M 105 0 v) ∧ ∀ j, j < R p → mI m 105 0 (bs R p + j) = nI (tm p)) := by
  have hb := hN.1
  have h1 := bs_le (R := R) (show p + 1 ≤ nP N by omega)
  have h2 : bs R (p + 1) = bs R p + R p := rfl
  refine loop0 (fun n i m => fX0_numberFirings_l45 (nI p) (some p) n i m) (R p) (fun i m => Fr kN5 M m ∧ mI m 0 0 6 = nI (bs R p + i) ∧ EC m (E0 ++ own R p i) ∧ (∀ v, v < bs R p → mI m 105 0 v = mI M 105 0 v) ∧ ∀ j, j < i → mI m 105 0 (bs R p + j) = nI (tm p)) _ (by omega) ?_ ?_ M ⟨Fr.refl, h6, by rw [own, List.append_nil]; exact hE, fun _ _ => rfl, fun j hj => by omega⟩
  · rintro n m ⟨F, k1, k2, k3, k4⟩
    rw [fX0_numberFirings_l45, Option.bind_some, F.oI (by decide), hR, if_pos (nI_le (Nat.le_refl _) (by omega))]
    exact ok_some ⟨F, k1, k2, k3, k4⟩
  · rintro n i m hi ⟨F, k1, k2, k3, k4⟩ kk
    have u6 : mI (sI m 105 0 (bs R p + i) (nI (tm p))) 0 0 6 = nI (bs R p + i) := by rw [mI_sI, if_neg (by simp)]; exact k1
    rw [fX0_numberFirings_l45, Option.bind_some, F.oI (k := 7) (j := 6) (by decide), hR, if_neg (nI_ge hi (by omega)), k1, if_neg (show ¬ (60 : Int32) ≤ nI _ from nI_ge (b := 60) (by omega) (by omega)), F.n, ln105 hl, chk_nI (by omega) (by omega), bnd_eq, nI_clamp (by omega), F.oI (k := 7) (j := 4) (by decide), hT, bnd_eq, u6, nI_1 (bs R p + i)]
    have F1 : Fr [105, 10006] m (sI (sI m 105 0 (bs R p + i) (nI (tm p))) 0 0 6 (nI (bs R p + i + 1))) := (Fr.refl.wI (by decide)).wIo (by decide)
    have v6 : mI (sI (sI m 105 0 (bs R p + i) (nI (tm p))) 0 0 6 (nI (bs R p + i + 1))) 0 0 6 = nI (bs R p + i + 1) := by simp [mI_sI]
    have v5 : ∀ v, mI (sI (sI m 105 0 (bs R p + i) (nI (tm p))) 0 0 6 (nI (bs R p + i + 1))) 105 0 v = if v = bs R p + i then nI (tm p) else mI m 105 0 v := fun v => by
      by_cases e : v = bs R p + i
      · subst e; simp [mI_sI]
      · simp [mI_sI, e]
    generalize sI (sI m 105 0 (bs R p + i) (nI (tm p))) 0 0 6 (nI (bs R p + i + 1)) = m1 at *
    have G1 : Fr kN5 M m1 := F.step F1 (by decide)
    have E1 := k2.fr F1 (by decide)
    have len1 : (E0 ++ own R p i).length = bs R p + i := by rw [List.length_append, own_len, hlen]
    have e104 : mI m1 104 0 p = nI (bs R p) := (G1.aI (by decide)).trans h104
    have e76 : mI m1 7 p 6 = nI (R p) := (G1.oI (by decide)).trans hR
    refine ok_call (P := fun m2 => Fr [107, 108, 109, 10010] m1 m2 ∧ EC m2 (E0 ++ own R p (i + 1))) ?_ ?_
    · rw [own, ← List.append_assoc]
      by_cases z : i = 0
      · subst z
        rw [if_pos rfl, G1.n, ln104 hl, chk_nI (by omega) (by omega), chk_nI (by omega) (by omega), nI_clamp (by omega), e104, e76, nI_add, L32 1, pk_sub (by omega), show bs R p + R p - 1 = bs R p + (R p - 1) by omega]
        refine ok_call (c_wait (a := bs R p) (b := bs R p + (R p - 1)) (r := 1) (hl.fr G1) E1 (by omega) (by omega) (by omega)) ?_
        rintro m2 ⟨F2, e2⟩
        exact ok_some ⟨F2, e2⟩
      · rw [if_neg (nI_ne0 (by omega) (by omega)), G1.n, ln104 hl, chk_nI (by omega) (by omega), chk_nI (by omega) (by omega), nI_clamp (by omega), e104, nI_add, L32 1, pk_sub (by omega), show bs R p + i - 1 = bs R p + (i - 1) by omega]
        rw [if_neg z, if_neg z]
        refine ok_call (c_wait (a := bs R p + i) (b := bs R p + (i - 1)) (r := 0) (hl.fr G1) E1 (by omega) (by omega) (by omega)) ?_
        rintro m2 ⟨F2, e2⟩
        exact ok_some ⟨F2, e2⟩
    · rintro m2 ⟨F2, e2⟩
      rw [bnd_eq, nI_1]
      refine kk m2 ⟨G1.step F2 (by decide), (F2.oI (by decide)).trans v6, e2, fun v hv => ?_, fun j hj => ?_⟩
      · rw [F2.aI (by decide), v5, if_neg (by omega)]; exact k3 v hv
      · rw [F2.aI (by decide), v5]
        by_cases e : j = i
        · rw [if_pos (by omega)]
        · rw [if_neg (by omega)]; exact k4 j (by omega)
def kNm : List Nat := [104, 105, 107, 108, 109, 10006, 10010]
/-- the nodes' numbers and times -/
def VT (M : tM) (kb kt : Nat) (N : NG) (R tm : Nat → Nat) : Prop := (∀ p, p < nP N → mI M kb 0 p = nI (bs R p)) ∧ ∀ p j, p < nP N → j < R p → mI M kt 0 (bs R p + j) = nI (tm p)
theorem c_number {M : tM} {N : NG} {R tm : Nat → Nat} (hN : NOK N) (hl : Len M) (hC : Cg M M N) (hR : ∀ p, p < nP N → mI M 7 p 6 = nI (R p)) (hT : ∀ p, p < nP N → mI M 7 p 4 = nI (tm p)) (hn : bs R (nP N) ≤ 60) :
    Ok (fX0_numberFirings M) (fun m => Fr kNm M m ∧ mI m 0 0 6 = nI (bs R (nP N)) ∧ EC m (ownA R (nP N)) ∧ VT m 104 105 N R tm) := by
  have hb := hN.1
  rw [fX0_numberFirings, bnd_eq, bnd_eq]
  have F0 : Fr [10006, 10010] M (sI (sI M 0 0 6 0) 0 0 10 0) := (Fr.refl.wIo (by decide)).wIo (by decide)
  have v6 : mI (sI (sI M 0 0 6 0) 0 0 10 0) 0 0 6 = 0 := by simp [mI_sI]
  have v10 : mI (sI (sI M 0 0 6 0) 0 0 10 0) 0 0 10 = 0 := by simp [mI_sI]
  generalize sI (sI M 0 0 6 0) 0 0 10 0 = M0 at *
  have key : Ok (fX0_numberFirings_l12 FU 0 M0) (fun m => Fr kNm M m ∧ mI m 0 0 6 = nI (bs R (nP N)) ∧ EC m (ownA R (nP N)) ∧ VT m 104 105 N R tm) := by
    refine loop0 (fun n i m => fX0_numberFirings_l12 n i m) (nP N) (fun i m => Fr kNm M m ∧ mI m 0 0 6 = nI (bs R i) ∧ EC m (ownA R i) ∧ (∀ q, q < i → mI m 104 0 q = nI (bs R q)) ∧ ∀ q j, q < i → j < R q → mI m 105 0 (bs R q + j) = nI (tm q)) _ (by omega) ?_ ?_ M0 ⟨F0.mono (by decide), v6, ⟨v10, fun e he => by cases he⟩, fun q hq => by omega, fun q j hq => by omega⟩
    · rintro n m ⟨F, k1, k2, k3, k4⟩
      rw [fX0_numberFirings_l12, F.oI (by decide), hC.1.1, if_pos (nI_le (Nat.le_refl _) (by omega))]
      exact ok_some ⟨F, k1, k2, k3, k4⟩
    · rintro n i m hi ⟨F, k1, k2, k3, k4⟩ kk
      have hCm := hC.fr F (by decide)
      rw [fX0_numberFirings_l12, hCm.1.1, if_neg (nI_ge hi (by omega)), F.n, ln200 hl, chk_nI (by omega) (by omega), bnd_eq, nI_clamp (by omega), (hCm.2.1 i hi).1.1, F.n, ln104 hl, chk_nI (by omega) (by omega), bnd_eq, k1]
      have F1 : Fr [104] m (sI m 104 0 i (nI (bs R i))) := Fr.refl.wI (by decide)
      have v4 : ∀ q, mI (sI m 104 0 i (nI (bs R i))) 104 0 q = if q = i then nI (bs R i) else mI m 104 0 q := fun q => by
        by_cases e : q = i
        · subst e; simp [mI_sI]
        · simp [mI_sI, e]
      generalize sI m 104 0 i (nI (bs R i)) = m1 at *
      have G1 : Fr kNm M m1 := F.step F1 (by decide)
      refine ok_call (c_n45 (tm := tm) hN (hl.fr G1) hi ((G1.oI (by decide)).trans (hR i hi)) ((G1.oI (by decide)).trans (hT i hi)) hn (by rw [v4, if_pos rfl]) ((F1.oI (by decide)).trans k1) (k2.fr F1 (by decide)) (ownA_len i)) ?_
      rintro m2 ⟨F2, g1, g2, g3, g4⟩
      rw [bnd_eq, nI_1]
      refine kk m2 ⟨G1.step F2 (by decide), g1, g2, fun q hq => ?_, fun q j hq hj => ?_⟩
      · rw [F2.aI (by decide), v4]
        by_cases e : q = i
        · rw [if_pos e, e]
        · rw [if_neg e]; exact k3 q (by omega)
      · by_cases e : q = i
        · subst e; exact g4 j hj
        · rw [g3 _ (bs_lt (show q < i by omega) hj), F1.aI (by decide)]; exact k4 q j (by omega) hj
  exact ok_call key (fun m h => ok_some h)
