/-! fire: is there room -/
def rm (X : tM) (N : NG) (p : Nat) : Prop := ∀ l, l < nL N → nF N l = p → (mI X 1221 0 l).toNatClampNeg - (if nT N l = p then nK N l (mI X 1219 0 p).toNatClampNeg else 0) + nG N l (mI X 1219 0 p).toNatClampNeg ≤ 400
theorem cRoom {M X : tM} {N : NG} (hN : NOK N) (hC : Cg M X N) (hV : Cv M X N) {p : Nat} (hp : p < nP N) (hr : rdy X N p) : (fX9_wouldOverflow (some p) M = some 0 ∧ rm X N p) ∨ (fX9_wouldOverflow (some p) M = some 1 ∧ ¬ rm X N p) := by
  have hb := hN.1
  obtain ⟨a, ha, ha4, a1, a2, a3⟩ := hV.ph hN hp
  have key : Ok (fX9_wouldOverflow_l5 p M FU (nx (nF N) p (nL N) 0)) (fun w => (w = .inr () ∧ rm X N p) ∨ (w = .inl 1 ∧ ¬ rm X N p)) := by
    refine loopC0 (fun n r (_ : Unit) => fX9_wouldOverflow_l5 p M n r) (nF N) p (nL N) (fun i _ => ∀ l, l < i → nF N l = p → (mI X 1221 0 l).toNatClampNeg - (if nT N l = p then nK N l (mI X 1219 0 p).toNatClampNeg else 0) + nG N l (mI X 1219 0 p).toNatClampNeg ≤ 400) _ hb.2 ?_ ?_ ?_ () (fun l hl => by omega)
    · intro n _ h
      rw [fX9_wouldOverflow_l5, if_pos rfl]
      exact ok_some (Or.inl ⟨rfl, h⟩)
    · intro i _ hi hne h l hl ht
      by_cases e : l = i
      · subst e; exact absurd ht hne
      · exact h l (by omega) ht
    · intro n i _ hi he h kk
      obtain ⟨o, ho, o1, o2, o3⟩ := hV.on hi
      have hg := (hN.2.2.2 i a hi ha4).1
      have hk : nT N i = p → nK N i a ≤ o := fun q => by have := hr i hi q; rwa [a3, o3] at this
      have hc := (hC.2.2.1 i hi).1
      have e7 : (if mR M 4 i 2 = some p then (fX4_takesIn i (mI M 7 p 7) M).bind fun x7 => some x7 else some (0 : Int32)) = some (nI (if nT N i = p then nK N i a else 0)) := by
        rw [hc.2.2.2.1]
        by_cases q : nT N i = p
        · rw [if_pos (by rw [q]), if_pos q, a2, cTakes hN hC hi (by rw [q]; exact ha)]; rfl
        · rw [if_neg (by simpa using q), if_neg q]; rfl
      have hkk : (if nT N i = p then nK N i a else 0) ≤ o := by
        by_cases q : nT N i = p
        · rw [if_pos q]; exact hk q
        · rw [if_neg q]; omega
      rw [fX9_wouldOverflow_l5, if_neg (by simp), Option.bind_some, bnd_eq, e7, Option.bind_some, a2, cGives hN hC hi (by rw [he]; exact ha), Option.bind_some, o2, pk_sub hkk, nI_add]
      by_cases q : o - (if nT N i = p then nK N i a else 0) + nG N i a ≤ 400
      · rw [if_pos (show nI _ ≤ (400 : Int32) from nI_le (b := 400) q (by omega)), bnd_eq, hc.2.2.2.2.2.2, he]
        refine kk () (fun l hl ht => ?_)
        by_cases e : l = i
        · subst e; rw [a3, o3]; exact q
        · exact h l (by omega) ht
      · rw [if_neg (show ¬ nI _ ≤ (400 : Int32) from nI_ge (b := _) (a := 400) (by omega) (by omega))]
        refine ok_some (Or.inr ⟨rfl, fun hr => q ?_⟩)
        have := hr i hi he
        rw [a3, o3] at this
        exact this
  obtain ⟨w, e, k⟩ := key
  rw [fX9_wouldOverflow, Option.bind_some, bnd_eq, (hC.2.1 p hp).1.2.2.2.2.2.2.2.1, e]
  rcases k with ⟨rfl, k⟩ | ⟨rfl, k⟩
  · exact Or.inl ⟨rfl, k⟩
  · exact Or.inr ⟨rfl, k⟩
theorem mRoom {M X : tM} {N : NG} (hN : NOK N) (hl : Len X) (hG : Gr X N) (hV : Cv M X N) {p : Nat} (hp : p < nP N) (hr : rdy X N p) : (fX11_isRoom (nI p) X = some 1 ∧ rm X N p) ∨ (fX11_isRoom (nI p) X = some 0 ∧ ¬ rm X N p) := by
  have hb := hN.1
  obtain ⟨a, ha, ha4, a1, a2, a3⟩ := hV.ph hN hp
  have key : Ok (fX11_isRoom_l4 (nI p) X FU 1 0) (fun w => (w = 1 ∧ rm X N p) ∨ (w = 0 ∧ ¬ rm X N p)) := by
    refine loop0 (fun n i s => fX11_isRoom_l4 (nI p) X n s i) (nL N) (fun i s => (s = 1 ∧ ∀ l, l < i → nF N l = p → (mI X 1221 0 l).toNatClampNeg - (if nT N l = p then nK N l (mI X 1219 0 p).toNatClampNeg else 0) + nG N l (mI X 1219 0 p).toNatClampNeg ≤ 400) ∨ (s = 0 ∧ ¬ rm X N p)) _ (by omega) ?_ ?_ 1 (Or.inl ⟨rfl, fun l hl => by omega⟩)
    · intro n s h
      rw [fX11_isRoom_l4, hG.1.2, if_pos (nI_le (Nat.le_refl _) (by omega))]
      exact ok_some h
    · intro n i s hi h kk
      obtain ⟨o, ho, o1, o2, o3⟩ := hV.on hi
      have hg' := (hN.2.2.2 i a hi ha4).1
      have hk : nT N i = p → nK N i a ≤ o := fun q => by have := hr i hi q; rwa [a3, o3] at this
      have hg := hG.2.2.1 i hi
      have hq := hG.2.2.2 i a hi ha4
      have hti := (hN.2.2.1 i hi).2.1
      have hfi := (hN.2.2.1 i hi).1
      rw [fX11_isRoom_l4, hG.1.2, if_neg (nI_ge hi (by omega))]
      have e7 : (if nT N i = p then some (nI (nK N i a)) else some (nI 0)) = some (nI (if nT N i = p then nK N i a else 0)) := by split <;> rfl
      have e8 : (if nF N i = p then some (nI (nG N i a)) else some (nI 0)) = some (nI (if nF N i = p then nG N i a else 0)) := by split <;> rfl
      have hkk : (if nT N i = p then nK N i a else 0) ≤ o := by
        by_cases q : nT N i = p
        · rw [if_pos q]; exact hk q
        · rw [if_neg q]; omega
      have hgg : (if nF N i = p then nG N i a else 0) ≤ 50 := by split <;> omega
      rcases h with ⟨rfl, h⟩ | ⟨rfl, h⟩
      · simp only [show ((1 : Int32) = 0) = False from eq_false (by decide), if_false]
        simp (disch := omega) only [ln1214 hl, ln1213 hl, ln1221 hl, ln1219 hl, ln1216 hl, ln1215 hl, chk_nI, nI_clamp, hg.2.1, hg.1, a1, L32, pk_mul, nI_add, hq.1, hq.2, o1, nI_eq, bnd_eq]
        rw [e7, Option.bind_some, e8, Option.bind_some, pk_sub hkk, nI_add]
        generalize hkt : (if nT N i = p then nK N i a else 0) = kt at hkk ⊢
        generalize hgf : (if nF N i = p then nG N i a else 0) = gf at hgg ⊢
        simp (disch := omega) only [nI_ltI]
        by_cases q : 400 < o - kt + gf
        · rw [if_pos q, Option.bind_some]
          refine kk 0 (Or.inr ⟨rfl, fun hr' => ?_⟩)
          by_cases e : nF N i = p
          · have := hr' i hi e
            rw [if_pos e] at hgf
            rw [a3, o3, hkt, hgf] at this
            omega
          · rw [if_neg e] at hgf; omega
        · rw [if_neg q, Option.bind_some]
          refine kk 1 (Or.inl ⟨rfl, fun l hl ht => ?_⟩)
          by_cases e2 : l = i
          · subst e2; rw [if_pos ht] at hgf; rw [a3, o3, hkt, hgf]; omega
          · exact h l (by omega) ht
      · simp only [if_true]
        simp (disch := omega) only [ln1214 hl, ln1213 hl, ln1221 hl, ln1219 hl, ln1216 hl, ln1215 hl, chk_nI, nI_clamp, hg.2.1, hg.1, a1, L32, pk_mul, nI_add, hq.1, hq.2, o1, nI_eq, bnd_eq]
        rw [e7, Option.bind_some, e8, Option.bind_some, Option.bind_some]
        exact kk 0 (Or.inr ⟨rfl, h⟩)
  obtain ⟨w, e, k⟩ := key
  rw [fX11_isRoom, e, Option.bind_some]
  rcases k with ⟨rfl, k⟩ | ⟨rfl, k⟩
  · exact Or.inl ⟨rfl, k⟩
  · exact Or.inr ⟨rfl, k⟩
/-! the sum of the things taken -/
def lineS (v : Nat → Int64) : Nat → Int64
  | 0 => 0
  | n + 1 => lineS v n + v n
def totS (T : Nat → Nat) (p : Nat) (K : Nat → Nat) (v : Nat → Nat → Int64) : Nat → Int64
  | 0 => 0
  | L + 1 => totS T p K v L + (if T L = p then lineS (v L) (K L) else 0)
theorem cSum {M X : tM} {N : NG} (hN : NOK N) (hC : Cg M X N) (hV : Cv M X N) {p : Nat} (hp : p < nP N) (hr : rdy X N p) : fX9_sumTaken (some p) M = some (totS (nT N) p (fun l => nK N l (mI X 1219 0 p).toNatClampNeg) (fun l i => mL X 1222 0 (450 * l + i)) (nL N)) := by
  have hb := hN.1
  obtain ⟨a, ha, ha4, a1, a2, a3⟩ := hV.ph hN hp
  have key : Ok (fX9_sumTaken_l8 p M FU 0 (nx (nT N) p (nL N) 0)) (fun w => w = totS (nT N) p (fun l => nK N l (mI X 1219 0 p).toNatClampNeg) (fun l i => mL X 1222 0 (450 * l + i)) (nL N)) := by
    refine loopC0 (fun n r s => fX9_sumTaken_l8 p M n s r) (nT N) p (nL N) (fun i s => s = totS (nT N) p (fun l => nK N l (mI X 1219 0 p).toNatClampNeg) (fun l i => mL X 1222 0 (450 * l + i)) i) _ hb.2 ?_ ?_ ?_ 0 rfl
    · intro n s h
      rw [fX9_sumTaken_l8, if_pos rfl]
      exact ok_some h
    · intro i s hi hne h
      rw [totS, if_neg hne, Int64.add_zero]; exact h
    · intro n i s hi he h kk
      have hk : nK N i a ≤ (mI X 1221 0 i).toNatClampNeg := by have := hr i hi he; rwa [a3] at this
      have hk50 := (hN.2.2.2 i a hi ha4).2.1
      obtain ⟨f, -, -, -, -, hv⟩ := id hV
      obtain ⟨o, h8, g, ho, hh, -, e1, e2, e3, e4, -⟩ := hv i hi
      rw [e1, nI_clamp (by omega)] at hk
      rw [fX9_sumTaken_l8, if_neg (by simp), Option.bind_some, a2, cTakes hN hC hi (by rw [he]; exact ha), Option.bind_some]
      have inner : Ok (fX9_sumTaken_l27 p i (nI (nK N i a)) M FU s 0) (fun w => w = s + lineS (fun j => mL X 1222 0 (450 * i + j)) (nK N i a)) := by
        refine loop0 (fun n j y => fX9_sumTaken_l27 p i (nI (nK N i a)) M n y j) (nK N i a) (fun j y => y = s + lineS (fun j => mL X 1222 0 (450 * i + j)) j) _ (by omega) ?_ ?_ s (by rw [lineS, Int64.add_zero])
        · intro n y hy
          rw [fX9_sumTaken_l27, if_pos (nI_le (Nat.le_refl _) (by omega))]
          exact ok_some hy
        · intro n j y hj hy kk
          rw [fX9_sumTaken_l27, if_neg (nI_ge hj (by omega)), cThing ho hh e2 e3 (hC.2.2.1 i hi).2.2.2.2.1 (by omega), Option.bind_some, bnd_eq, bnd_eq, nI_1, e4 j (by omega)]
          refine kk _ ?_
          rw [hy, lineS, Int64.add_assoc]
      refine ok_call inner ?_
      rintro w rfl
      rw [bnd_eq, (hC.2.2.1 i hi).1.2.2.2.2.2.1, he]
      refine kk _ ?_
      rw [totS, if_pos he, a3, h, a3]
  obtain ⟨w, e, rfl⟩ := key
  rw [fX9_sumTaken, Option.bind_some, bnd_eq, (hC.2.1 p hp).1.2.2.2.2.2.1, e]; rfl
theorem mSum {M X : tM} {N : NG} (hN : NOK N) (hl : Len X) (hG : Gr X N) (hV : Cv M X N) {p : Nat} (hp : p < nP N) : fX11_summed (nI p) X = some (mL X 1204 0 p + totS (nT N) p (fun l => nK N l (mI X 1219 0 p).toNatClampNeg) (fun l i => mL X 1222 0 (450 * l + i)) (nL N)) := by
  have hb := hN.1
  obtain ⟨a, ha, ha4, a1, a2, a3⟩ := hV.ph hN hp
  have key : Ok (fX11_summed_l10 (nI p) X FU (mL X 1204 0 p) 0) (fun w => w = mL X 1204 0 p + totS (nT N) p (fun l => nK N l (mI X 1219 0 p).toNatClampNeg) (fun l i => mL X 1222 0 (450 * l + i)) (nL N)) := by
    refine loop0 (fun n i s => fX11_summed_l10 (nI p) X n s i) (nL N) (fun i s => s = mL X 1204 0 p + totS (nT N) p (fun l => nK N l (mI X 1219 0 p).toNatClampNeg) (fun l i => mL X 1222 0 (450 * l + i)) i) _ (by omega) ?_ ?_ _ (by rw [totS, Int64.add_zero])
    · intro n s h
      rw [fX11_summed_l10, hG.1.2, if_pos (nI_le (Nat.le_refl _) (by omega))]
      exact ok_some h
    · intro n i s hi h kk
      have hk50 := (hN.2.2.2 i a hi ha4).2.1
      have hg := hG.2.2.1 i hi
      have hq := hG.2.2.2 i a hi ha4
      have hti := (hN.2.2.1 i hi).2.1
      rw [fX11_summed_l10, hG.1.2, if_neg (nI_ge hi (by omega))]
      have inner : Ok (fX11_summed_l22 (nI p) (nI i) X FU s 0) (fun w => w = s + (if nT N i = p then lineS (fun j => mL X 1222 0 (450 * i + j)) (nK N i a) else 0)) := by
        by_cases e : nT N i = p
        · refine loop0 (fun n j y => fX11_summed_l22 (nI p) (nI i) X n y j) (nK N i a) (fun j y => y = s + lineS (fun j => mL X 1222 0 (450 * i + j)) j) _ (by omega) ?_ ?_ s (by rw [lineS, Int64.add_zero])
          · intro n y hy
            rw [fX11_summed_l22]
            simp (disch := omega) only [ln1219 hl, ln1216 hl, chk_nI, nI_clamp, a1, L32, pk_mul, nI_add, hq.2]
            rw [if_pos (nI_le (Nat.le_refl _) (by omega)), if_pos e]
            exact ok_some hy
          · intro n j y hj hy kk
            rw [fX11_summed_l22]
            simp (disch := omega) only [ln1219 hl, ln1216 hl, ln1214 hl, ln1222 hl, chk_nI, nI_clamp, a1, L32, pk_mul, nI_add, hq.2, hg.2.1, bnd_eq]
            rw [if_neg (nI_ge hj (by omega)), if_pos (by rw [e])]
            refine kk _ ?_
            rw [hy, lineS, Int64.add_assoc]
        · rw [if_neg e, Int64.add_zero]
          obtain ⟨m, hm⟩ : ∃ m, FU = m + 1 := ⟨FU - 1, by have := FU_lt (n := 0) (by omega); omega⟩
          rw [hm, fX11_summed_l22]
          simp (disch := omega) only [ln1219 hl, ln1216 hl, ln1214 hl, chk_nI, nI_clamp, a1, L32, pk_mul, nI_add, hq.2, hg.2.1, nI_eq, if_neg e]
          split <;> exact ok_some rfl
      refine ok_call inner ?_
      rintro w rfl
      rw [bnd_eq, nI_1]
      refine kk _ ?_
      rw [totS, h, a3, Int64.add_assoc]
  obtain ⟨w, e, rfl⟩ := key
  rw [fX11_summed, ln1204 hl, chk_nI (by omega) (by omega), bnd_eq, nI_clamp (by omega), e]; rfl
