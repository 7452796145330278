/-! fire: the move, all LINES -/
def pt (z : Int64) (c : Nat) (u : Nat → Int64) (i : Nat) : Int64 := if i < c then u i else z + (nI (i - c)).toInt64
def xO (N : NG) (p : Nat) (K o : Nat → Nat) (l : Nat) : Nat := if nT N l = p then o l - K l else o l
def xV (N : NG) (p : Nat) (K : Nat → Nat) (v : Nat → Nat → Int64) (l i : Nat) : Int64 := if nT N l = p then v l (i + K l) else v l i
def yO (N : NG) (p : Nat) (G o : Nat → Nat) (l : Nat) : Nat := if nF N l = p then o l + G l else o l
def yV (N : NG) (p : Nat) (z : Int64) (o : Nat → Nat) (v : Nat → Nat → Int64) (l i : Nat) : Int64 := if nF N l = p then pt z (o l) (v l) i else v l i
theorem LC.congr {M : tM} {l o o' : Nat} {v v' : Nat → Int64} (h : LC M l o v) (e : o = o') (hv : ∀ i, i < o → v i = v' i) : LC M l o' v' := by
  subst e
  obtain ⟨h, h1, h2, h3, h4, h5⟩ := h
  exact ⟨h, h1, h2, h3, h4, fun i hi => (h5 i hi).trans (hv i hi)⟩
theorem GC.congr {M : tM} {l o o' : Nat} {v v' : Nat → Int64} (h : GC M l o v) (e : o = o') (hv : ∀ i, i < min o 200 → v i = v' i) : GC M l o' v' := by
  subst e
  exact ⟨h.1, fun i hi => (h.2 i hi).trans (hv i hi)⟩
theorem LC.same {M M' : tM} {l o : Nat} {v : Nat → Int64} (h : LC M l o v) (h9 : mI M' 4 l 9 = mI M 4 l 9) (h8 : mI M' 4 l 8 = mI M 4 l 8) (h7 : ∀ j, mL M' 507 l j = mL M 507 l j) : LC M' l o v := by
  obtain ⟨h, h1, h2, h3, h4, h5⟩ := h
  exact ⟨h, h1, h2, h9.trans h3, h8.trans h4, fun i hi => (h7 _).trans (h5 i hi)⟩
theorem GC.same {M M' : tM} {l o : Nat} {v : Nat → Int64} (h : GC M l o v) (h9 : mI M' 4 l 11 = mI M 4 l 11) (h7 : ∀ j, mL M' 510 l j = mL M 510 l j) : GC M' l o v :=
  ⟨h9.trans h.1, fun i hi => (h7 _).trans (h.2 i hi)⟩
theorem c_in {M : tM} {N : NG} {p a : Nat} {o : Nat → Nat} {v : Nat → Nat → Int64} (z : Int64) (hN : NOK N) (hC : Cg M M N) (ha : a < nH N p) (h7 : mI M 7 p 7 = nI a) (hL : ∀ l, l < nL N → LC M l (o l) (v l)) (hk : ∀ l, l < nL N → nT N l = p → nK N l a ≤ o l) :
    Ok (fX9_move_l6 p z FU (nx (nT N) p (nL N) 0) M) (fun M' => Fr [50008, 50009] M M' ∧ ∀ l, l < nL N → LC M' l (xO N p (fun l => nK N l a) o l) (xV N p (fun l => nK N l a) v l)) := by
  refine loopC0 (fun n r s => fX9_move_l6 p z n r s) (nT N) p (nL N) (fun i s => Fr [50008, 50009] M s ∧ ∀ l, l < nL N → (l < i → LC s l (xO N p (fun l => nK N l a) o l) (xV N p (fun l => nK N l a) v l)) ∧ (i ≤ l → LC s l (o l) (v l))) _ hN.1.2 ?_ ?_ ?_ M ⟨Fr.refl, fun l hl => ⟨fun q => by omega, fun _ => hL l hl⟩⟩
  · rintro n s ⟨F, h⟩
    rw [fX9_move_l6, if_pos rfl]
    exact ok_some ⟨F, fun l hl => (h l hl).1 hl⟩
  · rintro i s hi hne ⟨F, h⟩
    refine ⟨F, fun l hl => ⟨fun q => ?_, fun q => (h l hl).2 (by omega)⟩⟩
    by_cases e : l = i
    · subst e
      exact ((h l hl).2 (Nat.le_refl _)).congr (by rw [xO, if_neg hne]) (fun i _ => by rw [xV, if_neg hne])
    · exact (h l hl).1 (by omega)
  · rintro n i s hi he ⟨F, h⟩ kk
    have hCs : Cg s s N := hC.fr F (by decide)
    rw [fX9_move_l6, if_neg (by simp), Option.bind_some, F.oI (k := 7) (j := 7) (by decide), h7, cTakes hN hCs hi (by rw [he]; exact ha), Option.bind_some]
    refine ok_call (s_drop ((h i hi).2 (Nat.le_refl _)) (hk i hi he)) ?_
    rintro s2 ⟨F2, L2, O2⟩
    have F3 : Fr [50008, 50009] M s2 := F.step F2 (by decide)
    rw [bnd_eq, ((hC.fr F3 (by decide)).2.2.1 i hi).1.2.2.2.2.2.1, he]
    refine kk s2 ⟨F3, fun l hl => ?_⟩
    by_cases e : l = i
    · subst e
      exact ⟨fun _ => L2.congr (by rw [xO, if_pos he]) (fun i _ => by rw [xV, if_pos he]), fun q => by omega⟩
    · have hs := O2 l e
      exact ⟨fun q => ((h l hl).1 (by omega)).same hs.2 hs.1 (fun j => F2.aL (by decide)), fun q => ((h l hl).2 (by omega)).same hs.2 hs.1 (fun j => F2.aL (by decide))⟩
def Oth (M M' : tM) (l : Nat) : Prop := ∀ q, ¬ q = l → mI M' 4 q 9 = mI M 4 q 9 ∧ mI M' 4 q 11 = mI M 4 q 11 ∧ ∀ j, mL M' 507 q j = mL M 507 q j ∧ mL M' 510 q j = mL M 510 q j
theorem c_l60 {M : tM} {l o g c q : Nat} {v w : Nat → Int64} (z : Int64) (h : LC M l o v) (hg : GC M l g w) (ho : o + c ≤ 400) (n7 : mN M 507 l = 400) (n10 : mN M 510 l = 200) (hc : c ≤ 50) :
    Ok (fX9_move_l60 q z l (nI c) FU 0 M) (fun M' => Fr [507, 510, 50009, 50011] M M' ∧ LC M' l (o + c) (pt z o v) ∧ GC M' l (g + c) (pt z g w) ∧ Oth M M' l) := by
  refine loop0 (fun n i s => fX9_move_l60 q z l (nI c) n i s) c (fun i s => Fr [507, 510, 50009, 50011] M s ∧ LC s l (o + i) (pt z o v) ∧ GC s l (g + i) (pt z g w) ∧ Oth M s l) _ (by omega) ?_ ?_ M ⟨Fr.refl, h.congr rfl (fun i hi => by rw [pt, if_pos hi]), hg.congr rfl (fun i hi => by rw [pt, if_pos (by omega)]), fun q _ => ⟨rfl, rfl, fun j => ⟨rfl, rfl⟩⟩⟩
  · intro n s h
    rw [fX9_move_l60, if_pos (nI_le (Nat.le_refl _) (by omega))]
    exact ok_some h
  · rintro n i s hi ⟨F, L1, G1, O1⟩ kk
    rw [fX9_move_l60, if_neg (nI_ge hi (by omega))]
    refine ok_call (s_put (x := z + (nI i).toInt64) L1 G1 (by omega) (by rw [F.n]; exact n7) (by rw [F.n]; exact n10)) ?_
    rintro s2 ⟨F2, L2, G2, O2⟩
    rw [bnd_eq, nI_1]
    refine kk s2 ⟨F.step F2 (by decide), L2.congr rfl (fun j hj => ?_), G2.congr rfl (fun j hj => ?_), fun q hq => ⟨(O2 q hq).1.trans (O1 q hq).1, (O2 q hq).2.1.trans (O1 q hq).2.1, fun j => ⟨((O2 q hq).2.2 j).1.trans ((O1 q hq).2.2 j).1, ((O2 q hq).2.2 j).2.trans ((O1 q hq).2.2 j).2⟩⟩⟩
    · show (if j = o + i then z + (nI i).toInt64 else pt z o v j) = pt z o v j
      by_cases e : j = o + i
      · rw [if_pos e, pt, if_neg (by omega), show j - o = i by omega]
      · rw [if_neg e]
    · show (if j = g + i then z + (nI i).toInt64 else pt z g w j) = pt z g w j
      by_cases e : j = g + i
      · rw [if_pos e, pt, if_neg (by omega), show j - g = i by omega]
      · rw [if_neg e]
theorem c_out {M : tM} {N : NG} {p a : Nat} {o g : Nat → Nat} {v w : Nat → Nat → Int64} (z : Int64) (hN : NOK N) (hC : Cg M M N) (ha : a < nH N p) (ha4 : a < 4) (h7 : mI M 7 p 7 = nI a) (hL : ∀ l, l < nL N → LC M l (o l) (v l) ∧ GC M l (g l) (w l)) (hk : ∀ l, l < nL N → nF N l = p → o l + nG N l a ≤ 400) :
    Ok (fX9_move_l41 p z FU (nx (nF N) p (nL N) 0) M) (fun M' => Fr [507, 510, 50009, 50011] M M' ∧ ∀ l, l < nL N → LC M' l (yO N p (fun l => nG N l a) o l) (yV N p z o v l) ∧ GC M' l (yO N p (fun l => nG N l a) g l) (yV N p z g w l)) := by
  refine loopC0 (fun n r s => fX9_move_l41 p z n r s) (nF N) p (nL N) (fun i s => Fr [507, 510, 50009, 50011] M s ∧ ∀ l, l < nL N → (l < i → LC s l (yO N p (fun l => nG N l a) o l) (yV N p z o v l) ∧ GC s l (yO N p (fun l => nG N l a) g l) (yV N p z g w l)) ∧ (i ≤ l → LC s l (o l) (v l) ∧ GC s l (g l) (w l))) _ hN.1.2 ?_ ?_ ?_ M ⟨Fr.refl, fun l hl => ⟨fun q => by omega, fun _ => hL l hl⟩⟩
  · rintro n s ⟨F, h⟩
    rw [fX9_move_l41, if_pos rfl]
    exact ok_some ⟨F, fun l hl => (h l hl).1 hl⟩
  · rintro i s hi hne ⟨F, h⟩
    refine ⟨F, fun l hl => ⟨fun q => ?_, fun q => (h l hl).2 (by omega)⟩⟩
    by_cases e : l = i
    · subst e
      have hh := (h l hl).2 (Nat.le_refl _)
      exact ⟨hh.1.congr (by rw [yO, if_neg hne]) (fun i _ => by rw [yV, if_neg hne]), hh.2.congr (by rw [yO, if_neg hne]) (fun i _ => by rw [yV, if_neg hne])⟩
    · exact (h l hl).1 (by omega)
  · rintro n i s hi he ⟨F, h⟩ kk
    have hCs : Cg s s N := hC.fr F (by decide)
    rw [fX9_move_l41, if_neg (by simp), Option.bind_some, F.oI (k := 7) (j := 7) (by decide), h7, cGives hN hCs hi (by rw [he]; exact ha), Option.bind_some]
    have hh := (h i hi).2 (Nat.le_refl _)
    have hn := (hCs.2.2.1 i hi).2
    refine ok_call (c_l60 (q := p) z hh.1 hh.2 (hk i hi he) hn.2.2.2.1 hn.2.2.2.2.1 (hN.2.2.2 i a hi ha4).1) ?_
    rintro s2 ⟨F2, L2, G2, O2⟩
    have F3 : Fr [507, 510, 50009, 50011] M s2 := F.step F2 (by decide)
    rw [bnd_eq, ((hC.fr F3 (by decide)).2.2.1 i hi).1.2.2.2.2.2.2, he]
    refine kk s2 ⟨F3, fun l hl => ?_⟩
    by_cases e : l = i
    · subst e
      exact ⟨fun _ => ⟨L2.congr (by rw [yO, if_pos he]) (fun i _ => by rw [yV, if_pos he]), G2.congr (by rw [yO, if_pos he]) (fun i _ => by rw [yV, if_pos he])⟩, fun q => by omega⟩
    · have hs := O2 l e
      have h8 : mI s2 4 l 8 = mI s 4 l 8 := F2.oI (by decide)
      exact ⟨fun q => ⟨((h l hl).1 (by omega)).1.same hs.1 h8 (fun j => (hs.2.2 j).1), ((h l hl).1 (by omega)).2.same hs.2.1 (fun j => (hs.2.2 j).2)⟩, fun q => ⟨((h l hl).2 (by omega)).1.same hs.1 h8 (fun j => (hs.2.2 j).1), ((h l hl).2 (by omega)).2.same hs.2.1 (fun j => (hs.2.2 j).2)⟩⟩
/-! the same, the model's -/
def LX (X : tM) (l o : Nat) (v : Nat → Int64) : Prop := mI X 1221 0 l = nI o ∧ ∀ i, i < o → mL X 1222 0 (450 * l + i) = v i
def GX (X : tM) (l g : Nat) (w : Nat → Int64) : Prop := mI X 1223 0 l = nI g ∧ ∀ i, i < min g 200 → mL X 1224 0 (200 * l + i) = w i
theorem LX.congr {M : tM} {l o o' : Nat} {v v' : Nat → Int64} (h : LX M l o v) (e : o = o') (hv : ∀ i, i < o → v i = v' i) : LX M l o' v' := by
  subst e
  exact ⟨h.1, fun i hi => (h.2 i hi).trans (hv i hi)⟩
theorem GX.congr {M : tM} {l o o' : Nat} {v v' : Nat → Int64} (h : GX M l o v) (e : o = o') (hv : ∀ i, i < min o 200 → v i = v' i) : GX M l o' v' := by
  subst e
  exact ⟨h.1, fun i hi => (h.2 i hi).trans (hv i hi)⟩
theorem m_l45 {X : tM} {l o k : Nat} {v : Nat → Int64} (q : Int32) (z : Int64) (hl : Len X) (h20 : l < 20) (ho : o ≤ 400) (hk : k ≤ o) (h : LX X l o v) :
    Ok (fX11_moves_l45 q z (nI l) (nI k) FU (nI k) X) (fun X' => Fr [1222] X X' ∧ (∀ i, i < o - k → mL X' 1222 0 (450 * l + i) = v (i + k)) ∧ ∀ j, (j < 450 * l ∨ 450 * l + 450 ≤ j) → mL X' 1222 0 j = mL X 1222 0 j) := by
  refine loopG (fun n i s => fX11_moves_l45 q z (nI l) (nI k) n i s) o (fun i s => (Fr [1222] X s ∧ k ≤ i) ∧ (∀ j, j < i - k → mL s 1222 0 (450 * l + j) = v (j + k)) ∧ (∀ j, (j < 450 * l ∨ 450 * l + 450 ≤ j) → mL s 1222 0 j = mL X 1222 0 j) ∧ ∀ j, i ≤ j → j < o → mL s 1222 0 (450 * l + j) = v j) _ ?_ ?_ FU k X hk (FU_lt (by omega)) ⟨⟨Fr.refl, Nat.le_refl _⟩, fun j hj => by omega, fun _ _ => rfl, fun j _ hj => h.2 j hj⟩
  · rintro n s ⟨⟨F, i1⟩, h1, h2, h3⟩
    rw [fX11_moves_l45, F.n, ln1221 hl, chk_nI (by omega) (by omega), nI_clamp (by omega), F.aI (by decide), h.1, if_pos (nI_le (Nat.le_refl _) (by omega))]
    exact ok_some ⟨F, h1, h2⟩
  · rintro n i s hi ⟨⟨F, i1⟩, h1, h2, h3⟩ kk
    have e1 : 450 * nI l + nI i = nI (450 * l + i) := by rw [L32 450, pk_mul, nI_add]
    have e2 : nI (450 * l + i) - nI k = nI (450 * l + i - k) := by rw [pk_sub (by omega)]
    rw [fX11_moves_l45, F.n, ln1221 hl, chk_nI (by omega) (by omega), nI_clamp (by omega), F.aI (by decide), h.1, if_neg (nI_ge hi (by omega)), F.n, ln1222 hl, e1, e2, chk_nI (by omega) (by omega), chk_nI (by omega) (by omega), nI_clamp (by omega), nI_clamp (by omega), bnd_eq, bnd_eq, nI_1]
    refine kk _ ⟨⟨F.wL (by decide), by omega⟩, fun j hj => ?_, fun j hj => ?_, fun j hj hj2 => ?_⟩
    · rw [mL_sL]
      by_cases e : j + k = i
      · rw [if_pos ⟨rfl, rfl, by omega⟩, h3 i (Nat.le_refl _) hi, e]
      · rw [if_neg (by omega)]; exact h1 j (by omega)
    · rw [mL_sL, if_neg (by omega)]; exact h2 j hj
    · rw [mL_sL]
      by_cases e : k = 0 ∧ j = i
      · omega
      · rw [if_neg (by omega)]; exact h3 j (by omega) hj2
theorem m_in {X : tM} {N : NG} {p a : Nat} {o : Nat → Nat} {v : Nat → Nat → Int64} (z : Int64) (hN : NOK N) (hl : Len X) (hG : Gr X N) (hp : p < nP N) (ha4 : a < 4) (a1 : mI X 1219 0 p = nI a) (hL : ∀ l, l < nL N → LX X l (o l) (v l)) (ho : ∀ l, l < nL N → o l ≤ 400) (hk : ∀ l, l < nL N → nT N l = p → nK N l a ≤ o l) :
    Ok (fX11_moves_l3 (nI p) z FU 0 X) (fun M' => Fr [1221, 1222] X M' ∧ ∀ l, l < nL N → LX M' l (xO N p (fun l => nK N l a) o l) (xV N p (fun l => nK N l a) v l)) := by
  have hb := hN.1
  refine loop0 (fun n i s => fX11_moves_l3 (nI p) z n i s) (nL N) (fun i s => Fr [1221, 1222] X s ∧ ∀ l, l < nL N → (l < i → LX s l (xO N p (fun l => nK N l a) o l) (xV N p (fun l => nK N l a) v l)) ∧ (i ≤ l → LX s l (o l) (v l))) _ (by omega) ?_ ?_ X ⟨Fr.refl, fun l hl => ⟨fun q => by omega, fun _ => hL l hl⟩⟩
  · rintro n s ⟨F, h⟩
    rw [fX11_moves_l3, F.oI (by decide), hG.1.2, if_pos (nI_le (Nat.le_refl _) (by omega))]
    exact ok_some ⟨F, fun l hl => (h l hl).1 hl⟩
  · rintro n i s hi ⟨F, h⟩ kk
    have hg := hG.2.2.1 i hi
    have hq := hG.2.2.2 i a hi ha4
    have hti := (hN.2.2.1 i hi).2.1
    have ho' := ho i hi
    have e4 : 4 * nI i + nI a = nI (4 * i + a) := by rw [L32 4, pk_mul, nI_add]
    rw [fX11_moves_l3, F.oI (by decide), hG.1.2, if_neg (nI_ge hi (by omega)), F.n, ln1214 hl, chk_nI (by omega) (by omega), nI_clamp (by omega), F.aI (by decide), hg.2.1]
    by_cases e : nT N i = p
    · rw [if_pos (by rw [e]), F.n, ln1219 hl, chk_nI (by omega) (by omega), nI_clamp (by omega), F.aI (by decide), a1, e4, F.n, ln1216 hl, chk_nI (by omega) (by omega), nI_clamp (by omega), F.aI (by decide), hq.2, bnd_eq]
      refine ok_call (P := fun s2 => Fr [1221, 1222] s s2 ∧ LX s2 i (o i - nK N i a) (fun j => v i (j + nK N i a)) ∧ ∀ l, ¬ l = i → mI s2 1221 0 l = mI s 1221 0 l ∧ ∀ j, j < 450 → mL s2 1222 0 (450 * l + j) = mL s 1222 0 (450 * l + j)) ?_ ?_
      · refine ok_call (m_l45 (nI p) z (hl.fr F) (by omega) ho' (hk i hi e) ((h i hi).2 (Nat.le_refl _))) ?_
        rintro s2 ⟨F2, k1, k2⟩
        rw [F2.n, F.n, ln1221 hl, chk_nI (by omega) (by omega), chk_nI (by omega) (by omega), bnd_eq, F2.aI (by decide), ((h i hi).2 (Nat.le_refl _)).1, pk_sub (hk i hi e)]
        refine ok_some ⟨(F2.mono (by decide)).wI (by decide), ⟨?_, fun j hj => ?_⟩, fun l hl' => ⟨?_, fun j hj => ?_⟩⟩
        · rw [mI_sI, if_pos ⟨rfl, rfl, rfl⟩]
        · rw [mL_sI]; exact k1 j hj
        · rw [mI_sI, if_neg (fun q => hl' q.2.2), F2.aI (by decide)]
        · rw [mL_sI]; exact k2 _ (by omega)
      · rintro s2 ⟨F2, L2, O2⟩
        rw [bnd_eq, nI_1]
        refine kk s2 ⟨F.step F2 (by decide), fun l hl' => ?_⟩
        by_cases e2 : l = i
        · subst e2
          exact ⟨fun _ => L2.congr (by rw [xO, if_pos e]) (fun i _ => by rw [xV, if_pos e]), fun q => by omega⟩
        · have hs := O2 l e2
          have ho2 := ho l hl'
          have hx : xO N p (fun l => nK N l a) o l ≤ 400 := by rw [xO]; split <;> omega
          exact ⟨fun q => ⟨hs.1.trans ((h l hl').1 (by omega)).1, fun j hj => (hs.2 j (by omega)).trans (((h l hl').1 (by omega)).2 j hj)⟩, fun q => ⟨hs.1.trans ((h l hl').2 (by omega)).1, fun j hj => (hs.2 j (by omega)).trans (((h l hl').2 (by omega)).2 j hj)⟩⟩
    · rw [if_neg (fun q => e ((nI_eq (by omega) (by omega)).mp q)), Option.bind_some, bnd_eq, nI_1]
      refine kk s ⟨F, fun l hl' => ⟨fun q => ?_, fun q => (h l hl').2 (by omega)⟩⟩
      by_cases e2 : l = i
      · subst e2
        exact ((h l hl').2 (Nat.le_refl _)).congr (by rw [xO, if_neg e]) (fun i _ => by rw [xV, if_neg e])
      · exact (h l hl').1 (by omega)
def OthX (M M' : tM) (l : Nat) : Prop := ∀ q, ¬ q = l → mI M' 1221 0 q = mI M 1221 0 q ∧ mI M' 1223 0 q = mI M 1223 0 q ∧ (∀ j, j < 450 → mL M' 1222 0 (450 * q + j) = mL M 1222 0 (450 * q + j)) ∧ ∀ j, j < 200 → mL M' 1224 0 (200 * q + j) = mL M 1224 0 (200 * q + j)
theorem m_l127 {X : tM} {N : NG} {p a l o g : Nat} {v w : Nat → Int64} (z : Int64) (hN : NOK N) (hl : Len X) (hG : Gr X N) (hp : p < nP N) (ha4 : a < 4) (a1 : mI X 1219 0 p = nI a) (hi : l < nL N) (he : nF N l = p) (h : LX X l o v) (hg : GX X l g w) (ho : o + nG N l a ≤ 400) (hg2 : g < 1000000) :
    Ok (fX11_moves_l127 (nI p) z (nI l) FU 0 X) (fun X' => Fr [1221, 1222, 1223, 1224] X X' ∧ LX X' l (o + nG N l a) (pt z o v) ∧ GX X' l (g + nG N l a) (pt z g w) ∧ OthX X X' l) := by
  have hb := hN.1
  have hq := (hG.2.2.2 l a hi ha4).1
  have hgg := hG.2.2.1 l hi
  have hfi := (hN.2.2.1 l hi).1
  have h50 := (hN.2.2.2 l a hi ha4).1
  have e4 : 4 * nI l + nI a = nI (4 * l + a) := by rw [L32 4, pk_mul, nI_add]
  refine loop0 (fun n i s => fX11_moves_l127 (nI p) z (nI l) n i s) (nG N l a) (fun i s => Fr [1221, 1222, 1223, 1224] X s ∧ LX s l (o + i) (pt z o v) ∧ GX s l (g + i) (pt z g w) ∧ OthX X s l) _ (by omega) ?_ ?_ X ⟨Fr.refl, h.congr rfl (fun i hi => by rw [pt, if_pos hi]), hg.congr rfl (fun i hi => by rw [pt, if_pos (by omega)]), fun q _ => ⟨rfl, rfl, fun j _ => rfl, fun j _ => rfl⟩⟩
  · rintro n s ⟨F, h⟩
    rw [fX11_moves_l127, F.n, ln1219 hl, chk_nI (by omega) (by omega), nI_clamp (by omega), F.aI (by decide), a1, e4, F.n, ln1215 hl, chk_nI (by omega) (by omega), nI_clamp (by omega), F.aI (by decide), hq, if_pos (nI_le (Nat.le_refl _) (by omega))]
    exact ok_some ⟨F, h⟩
  · rintro n i s hi' ⟨F, L1, G1, O1⟩ kk
    have e5 : 450 * nI l + nI (o + i) = nI (450 * l + (o + i)) := by rw [L32 450, pk_mul, nI_add]
    have e6 : 200 * nI l + nI (g + i) = nI (200 * l + (g + i)) := by rw [L32 200, pk_mul, nI_add]
    rw [fX11_moves_l127, F.n, ln1219 hl, chk_nI (by omega) (by omega), nI_clamp (by omega), F.aI (by decide), a1, e4, F.n, ln1215 hl, chk_nI (by omega) (by omega), nI_clamp (by omega), F.aI (by decide), hq, if_neg (nI_ge hi' (by omega)), F.n, ln1213 hl, chk_nI (by omega) (by omega), nI_clamp (by omega), F.aI (by decide), hgg.1, if_pos (by rw [he]), F.n, ln1221 hl, chk_nI (by omega) (by omega), L1.1, e5, F.n, ln1222 hl, chk_nI (by omega) (by omega), nI_clamp (by omega), bnd_eq, mN_sL, F.n, ln1221 hl, chk_nI (by omega) (by omega), chk_nI (by omega) (by omega), mI_sL, L1.1, nI_1, bnd_eq]
    generalize hs3 : sI (sL s 1222 0 (450 * l + (o + i)) (z + (nI i).toInt64)) 1221 0 l (nI (o + i + 1)) = s3
    have F3 : Fr [1221, 1222] s s3 := by rw [← hs3]; exact (Fr.refl.wL (by decide)).wI (by decide)
    have L3 : LX s3 l (o + (i + 1)) (pt z o v) := by
      rw [← hs3]
      refine ⟨by rw [mI_sI, if_pos ⟨rfl, rfl, rfl⟩]; rfl, fun j hj => ?_⟩
      rw [mL_sI, mL_sL]
      by_cases e : j = o + i
      · rw [if_pos ⟨rfl, rfl, by rw [e]⟩, pt, if_neg (by omega), show j - o = i by omega]
      · rw [if_neg (by omega)]; exact L1.2 j (by omega)
    have O3 : OthX s s3 l := by
      rw [← hs3]
      refine fun q hq => ⟨by rw [mI_sI, if_neg (fun y => hq y.2.2), mI_sL], by rw [mI_sI, if_neg (fun y => by simp at y), mI_sL], fun j hj => ?_, fun j hj => ?_⟩
      · rw [mL_sI, mL_sL, if_neg (by omega)]
      · rw [mL_sI, mL_sL, if_neg (by simp)]
    have G3 : GX s3 l (g + i) (pt z g w) := ⟨(F3.aI (by decide)).trans G1.1, fun j hj => (F3.aL (by decide)).trans (G1.2 j hj)⟩
    rw [F3.n, F.n, ln1223 hl, chk_nI (by omega) (by omega)]
    refine ok_call (P := fun s4 => Fr [1224] s3 s4 ∧ (∀ j, j < min (g + (i + 1)) 200 → mL s4 1224 0 (200 * l + j) = pt z g w j) ∧ ∀ q, ¬ q = l → ∀ j, j < 200 → mL s4 1224 0 (200 * q + j) = mL s3 1224 0 (200 * q + j)) ?_ ?_
    · rw [G3.1]
      by_cases c : 200 ≤ g + i
      · rw [if_pos (show (200 : Int32) ≤ nI (g + i) from nI_le (a := 200) c (by omega))]
        exact ok_some ⟨Fr.refl, fun j hj => G3.2 j (by omega), fun _ _ _ _ => rfl⟩
      · rw [if_neg (show ¬ (200 : Int32) ≤ nI (g + i) from nI_ge (b := 200) (by omega) (by decide)), chk_nI (by omega) (by omega), e6, F3.n, F.n, ln1224 hl, chk_nI (by omega) (by omega), bnd_eq, nI_clamp (by omega)]
        refine ok_some ⟨Fr.refl.wL (by decide), fun j hj => ?_, fun q hq j hj => ?_⟩
        · rw [mL_sL]
          by_cases e : j = g + i
          · rw [if_pos ⟨rfl, rfl, by rw [e]⟩, pt, if_neg (by omega), show j - g = i by omega]
          · rw [if_neg (by omega)]; exact G3.2 j (by omega)
        · rw [mL_sL, if_neg (by omega)]
    · rintro s4 ⟨F4, g4, q4⟩
      rw [F4.n, F3.n, F.n, ln1223 hl, chk_nI (by omega) (by omega), chk_nI (by omega) (by omega), F4.aI (by decide), G3.1, nI_1, bnd_eq, bnd_eq, nI_1]
      have F5 : Fr [1223] s4 (sI s4 1223 0 l (nI (g + i + 1))) := Fr.refl.wI (by decide)
      refine kk _ ⟨((F.step F3 (by decide)).step F4 (by decide)).step F5 (by decide), ⟨(F5.aI (by decide)).trans ((F4.aI (by decide)).trans L3.1), fun j hj => (F5.aL (by decide)).trans ((F4.aL (by decide)).trans (L3.2 j hj))⟩, ⟨by rw [mI_sI, if_pos ⟨rfl, rfl, rfl⟩]; rfl, fun j hj => (F5.aL (by decide)).trans (g4 j hj)⟩, fun q hq => ⟨?_, ?_, fun j hj => ?_, fun j hj => ?_⟩⟩
      · rw [F5.aI (by decide), F4.aI (by decide), (O3 q hq).1]; exact (O1 q hq).1
      · rw [mI_sI, if_neg (fun y => hq y.2.2), F4.aI (by decide), (O3 q hq).2.1]; exact (O1 q hq).2.1
      · rw [F5.aL (by decide), F4.aL (by decide), (O3 q hq).2.2.1 j hj]; exact (O1 q hq).2.2.1 j hj
      · rw [F5.aL (by decide), q4 q hq j hj, (O3 q hq).2.2.2 j hj]; exact (O1 q hq).2.2.2 j hj
theorem m_out {X : tM} {N : NG} {p a : Nat} {o g : Nat → Nat} {v w : Nat → Nat → Int64} (z : Int64) (hN : NOK N) (hl : Len X) (hG : Gr X N) (hp : p < nP N) (ha4 : a < 4) (a1 : mI X 1219 0 p = nI a) (hL : ∀ l, l < nL N → LX X l (o l) (v l) ∧ GX X l (g l) (w l)) (ho : ∀ l, l < nL N → o l ≤ 400 ∧ g l < 1000000) (hk : ∀ l, l < nL N → nF N l = p → o l + nG N l a ≤ 400) :
    Ok (fX11_moves_l115 (nI p) z FU 0 X) (fun M' => Fr [1221, 1222, 1223, 1224] X M' ∧ ∀ l, l < nL N → LX M' l (yO N p (fun l => nG N l a) o l) (yV N p z o v l) ∧ GX M' l (yO N p (fun l => nG N l a) g l) (yV N p z g w l)) := by
  have hb := hN.1
  refine loop0 (fun n i s => fX11_moves_l115 (nI p) z n i s) (nL N) (fun i s => Fr [1221, 1222, 1223, 1224] X s ∧ ∀ l, l < nL N → (l < i → LX s l (yO N p (fun l => nG N l a) o l) (yV N p z o v l) ∧ GX s l (yO N p (fun l => nG N l a) g l) (yV N p z g w l)) ∧ (i ≤ l → LX s l (o l) (v l) ∧ GX s l (g l) (w l))) _ (by omega) ?_ ?_ X ⟨Fr.refl, fun l hl => ⟨fun q => by omega, fun _ => hL l hl⟩⟩
  · rintro n s ⟨F, h⟩
    rw [fX11_moves_l115, F.oI (by decide), hG.1.2, if_pos (nI_le (Nat.le_refl _) (by omega))]
    exact ok_some ⟨F, fun l hl => (h l hl).1 hl⟩
  · rintro n i s hi ⟨F, h⟩ kk
    have hh := (h i hi).2 (Nat.le_refl _)
    rw [fX11_moves_l115, F.oI (by decide), hG.1.2, if_neg (nI_ge hi (by omega))]
    by_cases e : nF N i = p
    · refine ok_call (m_l127 z hN (hl.fr F) (hG.fr F (by decide)) hp ha4 ((F.aI (by decide)).trans a1) hi e hh.1 hh.2 (hk i hi e) (ho i hi).2) ?_
      rintro s2 ⟨F2, L2, G2, O2⟩
      rw [bnd_eq, nI_1]
      refine kk s2 ⟨F.step F2 (by decide), fun l hl' => ?_⟩
      by_cases e2 : l = i
      · subst e2
        exact ⟨fun _ => ⟨L2.congr (by rw [yO, if_pos e]) (fun i _ => by rw [yV, if_pos e]), G2.congr (by rw [yO, if_pos e]) (fun i _ => by rw [yV, if_pos e])⟩, fun q => by omega⟩
      · have hs := O2 l e2
        have ho2 := ho l hl'
        have hk2 := hk l hl'
        have hx : yO N p (fun l => nG N l a) o l ≤ 400 := by
          rw [yO]; split
          · exact hk2 (by assumption)
          · omega
        have tr : ∀ {o' g' : Nat} {v' w' : Nat → Int64}, o' ≤ 400 → (LX s l o' v' ∧ GX s l g' w') → LX s2 l o' v' ∧ GX s2 l g' w' := fun h4 k => ⟨⟨hs.1.trans k.1.1, fun j hj => (hs.2.2.1 j (by omega)).trans (k.1.2 j hj)⟩, ⟨hs.2.1.trans k.2.1, fun j hj => (hs.2.2.2 j (by omega)).trans (k.2.2 j hj)⟩⟩
        exact ⟨fun q => tr hx ((h l hl').1 (by omega)), fun q => tr ho2.1 ((h l hl').2 (by omega))⟩
    · have hq := (hG.2.2.2 i a hi ha4).1
      have hgg := hG.2.2.1 i hi
      have hfi := (hN.2.2.1 i hi).1
      have e4 : 4 * nI i + nI a = nI (4 * i + a) := by rw [L32 4, pk_mul, nI_add]
      have en : fX11_moves_l127 (nI p) z (nI i) FU 0 s = some s := by
        obtain ⟨m, hm⟩ : ∃ m, FU = m + 1 := ⟨FU - 1, by have := FU_lt (n := 0) (by omega); omega⟩
        rw [hm, fX11_moves_l127, F.n, ln1219 hl, chk_nI (by omega) (by omega), nI_clamp (by omega), F.aI (by decide), a1, e4, F.n, ln1215 hl, chk_nI (by omega) (by omega), F.n, ln1213 hl, chk_nI (by omega) (by omega), nI_clamp (by omega), nI_clamp (by omega), F.aI (k := 1213) (by decide), hgg.1, if_neg (fun q => e ((nI_eq (by omega) (by omega)).mp q))]
        split <;> rfl
      rw [en, Option.bind_some, bnd_eq, nI_1]
      refine kk s ⟨F, fun l hl' => ⟨fun q => ?_, fun q => (h l hl').2 (by omega)⟩⟩
      by_cases e2 : l = i
      · subst e2
        exact ⟨hh.1.congr (by rw [yO, if_neg e]) (fun i _ => by rw [yV, if_neg e]), hh.2.congr (by rw [yO, if_neg e]) (fun i _ => by rw [yV, if_neg e])⟩
      · exact (h l hl').1 (by omega)
