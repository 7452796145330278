/-! beat: the model finds a slower RING -/
theorem l_w2 (a : Int) (q t p r : Nat) : Int64.ofInt a + lN t * lN q - lN r * lN p = Int64.ofInt (a + ((q : Int) * t - (p : Int) * r)) := by
  rw [Int64.mul_comm (lN t), Int64.mul_comm (lN r), l_w]
/-- the model's numbers for a search -/
def QX (M : tM) (n : Nat) (E : List ED) (t : Nat → Nat) (p q : Nat) : Prop := EX M E ∧ mI M 11 0 36 = nI n ∧ (∀ v, v < n → mI M 1267 0 v = nI (t v)) ∧ mL M 11 0 74 = lN p ∧ mL M 11 0 75 = lN q
theorem QX.fr {ks : List Nat} {M M2 : tM} {n : Nat} {E : List ED} {t : Nat → Nat} {p q : Nat} (h : QX M n E t p q) (hF : Fr ks M M2) (hd : disj ks [11, 1267, 1268, 1269, 1270, 120036, 120071, 120074, 120075] = true) : QX M2 n E t p q := by
  obtain ⟨h1, h2, h3, h4, h5⟩ := h
  exact ⟨h1.fr hF (disj_sub hd (by decide)), (hF.hI hd 11 36 (by decide) 0).trans h2, fun v hv => (hF.gI hd 1267 (by decide) _ _).trans (h3 v hv), (hF.hL hd 11 74 (by decide) 0).trans h4, (hF.hL hd 11 75 (by decide) 0).trans h5⟩
theorem m_pass {M : tM} {n : Nat} {E : List ED} {t : Nat → Nat} {p q s : Nat} {z2 : Int32} (hl : Len M) (hQ : QX M n E t p q) (hH : HB n E t p q) (hs : s ≤ 60) (hB : BP M 1272 1273 n E (wM E t p q) s 0 (-9)) :
    Ok (fX11_isLonger_l49 z2 FU (-9) 0 M) (fun w => Fr [1272, 1273] M w.2 ∧ BP w.2 1272 1273 n E (wM E t p q) s E.length w.1) := by
  obtain ⟨h60, hm, hE, hr, ht, hp, hq1, hq⟩ := hH
  refine loop0 (fun k i (x : Int32 × tM) => fX11_isLonger_l49 z2 k x.1 i x.2) E.length (fun i x => Fr [1272, 1273] M x.2 ∧ BP x.2 1272 1273 n E (wM E t p q) s i x.1) _ (by omega) ?_ ?_ (-9, M) ⟨Fr.refl, hB⟩
  · rintro k ⟨y, m⟩ ⟨F, h⟩
    have F : Fr [1272, 1273] M m := F
    show Ok (fX11_isLonger_l49 z2 (k + 1) y (nI E.length) m) _
    rw [fX11_isLonger_l49, (hQ.1.fr F (by decide)).1, if_pos (nI_le (Nat.le_refl _) (by omega))]
    exact ok_some ⟨F, h⟩
  · rintro k j ⟨y, m⟩ hj ⟨F, h⟩ kk
    have F : Fr [1272, 1273] M m := F
    obtain ⟨d, b, tt, z, c, b1, b2, b3, b4, b5⟩ := h
    have b2 : DB m 1272 1273 n d b := b2
    obtain ⟨qe, q6, q5, qp, qq⟩ := hQ.fr F (by decide)
    obtain ⟨e7, e8, e9⟩ := qe.2 j hj
    have e7 : mI m 1268 0 j = nI (eF E j) := e7
    have e8 : mI m 1269 0 j = nI (eA E j) := e8
    have e9 : mI m 1270 0 j = nI (eR E j) := e9
    obtain ⟨jf, ja⟩ := hE j hj
    have jr := hr j hj
    have jt := ht _ jf
    have hw : -3600000 ≤ wM E t p q j ∧ wM E t p q j ≤ 3600000 := w_b hq jt hp jr
    have da := b3 _ ja
    have df := b3 _ jf
    have da0 := (b1.1 _ ja).1
    have df0 := (b1.1 _ jf).1
    show Ok (fX11_isLonger_l49 z2 (k + 1) y (nI j) m) _
    rw [fX11_isLonger_l49, qe.1, if_neg (nI_ge hj (by omega)), F.n, ln1269 hl, chk_nI (by omega) (by omega), nI_clamp (show j < 2 ^ 31 by omega), e8, F.n, ln1272 hl, chk_nI (by omega) (by omega), F.n, ln1268 hl, chk_nI (by omega) (by omega), e7, F.n, ln1267 hl, chk_nI (by omega) (by omega), F.n, ln1270 hl, chk_nI (by omega) (by omega), bnd_eq, nI_clamp (show eA E j < 2 ^ 31 by omega), nI_clamp (show eF E j < 2 ^ 31 by omega), (b2 _ ja).1, qq, q5 _ jf, qp, e9, nI_l (by omega), nI_l (by omega), l_w2, chk_nI (by omega) (by omega), chk_nI (by omega) (by omega), (b2 _ jf).1]
    have ew : (q : Int) * (t (eF E j) : Int) - (p : Int) * (eR E j : Int) = wM E t p q j := rfl
    rw [ew]
    by_cases cc : d (eA E j) + wM E t p q j ≤ d (eF E j)
    · rw [if_pos ((l_cmp (by omega) (by omega)).mpr cc), Option.bind_some]
      show Ok (bnd (nI j + 1) fun x19 => fX11_isLonger_l49 z2 k y x19 m) _
      rw [bnd_eq, nI_1]
      exact kk (y, m) ⟨F, bp_no b1 b2 b3 b4 b5 cc⟩
    · rw [if_neg (fun x => cc ((l_cmp (by omega) (by omega)).mp x)), chk_nI (by omega) (by omega), chk_nI (by omega) (by omega), bnd_eq]
      have F1 : Fr [1272] m (sL m 1272 0 (eF E j) (Int64.ofInt (d (eA E j) + wM E t p q j))) := Fr.refl.wL (by decide)
      have v1 : ∀ v, mL (sL m 1272 0 (eF E j) (Int64.ofInt (d (eA E j) + wM E t p q j))) 1272 0 v = if v = eF E j then Int64.ofInt (d (eA E j) + wM E t p q j) else mL m 1272 0 v := fun v => by
        rw [mL_sL]
        by_cases e : v = eF E j
        · rw [if_pos ⟨rfl, rfl, e⟩, if_pos e]
        · rw [if_neg (fun x => e x.2.2), if_neg e]
      generalize sL m 1272 0 (eF E j) (Int64.ofInt (d (eA E j) + wM E t p q j)) = m1 at *
      have G1 : Fr [1272, 1273] M m1 := F.step F1 (by decide)
      have e71 : mI m1 1268 0 j = nI (eF E j) := (F1.aI (by decide)).trans e7
      rw [G1.n, ln1268 hl, chk_nI (by omega) (by omega), e71, G1.n, ln1273 hl, chk_nI (by omega) (by omega), bnd_eq, nI_clamp (show eF E j < 2 ^ 31 by omega)]
      have F2 : Fr [1273] m1 (sI m1 1273 0 (eF E j) (nI j)) := Fr.refl.wI (by decide)
      have v2 : ∀ v, mI (sI m1 1273 0 (eF E j) (nI j)) 1273 0 v = if v = eF E j then nI j else mI m1 1273 0 v := fun v => by
        rw [mI_sI]
        by_cases e : v = eF E j
        · rw [if_pos ⟨rfl, rfl, e⟩, if_pos e]
        · rw [if_neg (fun x => e x.2.2), if_neg e]
      generalize sI m1 1273 0 (eF E j) (nI j) = m2 at *
      have G2 : Fr [1272, 1273] M m2 := G1.step F2 (by decide)
      have e72 : mI m2 1268 0 j = nI (eF E j) := (F2.aI (by decide)).trans e71
      rw [G2.n, ln1268 hl, chk_nI (by omega) (by omega), bnd_eq, e72, Option.bind_some]
      show Ok (bnd (nI j + 1) fun x19 => fX11_isLonger_l49 z2 k (nI (eF E j)) x19 m2) _
      rw [bnd_eq, nI_1]
      refine kk (nI (eF E j), m2) ⟨G2, bp_yes hE hj hw.2 b1 b3 b4 (by omega) (fun v hv => ⟨?_, ?_⟩)⟩
      · show mL m2 1272 0 v = _
        rw [F2.aL (by decide), v1]
        by_cases e : v = eF E j
        · rw [if_pos e, e, up_same]
        · rw [if_neg e, up_ne e]; exact (b2 v hv).1
      · show mI m2 1273 0 v = _
        rw [v2]
        by_cases e : v = eF E j
        · rw [if_pos e, e, up_same]; rfl
        · rw [if_neg e, up_ne e, F1.aI (by decide)]; exact (b2 v hv).2
theorem m_l36 {M : tM} {n : Nat} {E : List ED} {t : Nat → Nat} {p q : Nat} (hl : Len M) (hQ : QX M n E t p q) (hH : HB n E t p q) (hB : BQ M 1272 1273 n E (wM E t p q) 0 (-9)) :
    Ok (fX11_isLonger_l36 FU (-9) 0 M) (fun w => (∃ m, w = .inl (0, m) ∧ Fr [1272, 1273] M m ∧ pot E t p q) ∨ ∃ y m, w = .inr (y, m) ∧ Fr [1272, 1273] M m ∧ BQ m 1272 1273 n E (wM E t p q) (n + 1) y) := by
  have h60 := hH.1
  have hm := hH.2.1
  refine loop0 (fun k i (x : Int32 × tM) => fX11_isLonger_l36 k x.1 i x.2) (n + 1) (fun i x => Fr [1272, 1273] M x.2 ∧ BQ x.2 1272 1273 n E (wM E t p q) i x.1) _ (by omega) ?_ ?_ (-9, M) ⟨Fr.refl, hB⟩
  · rintro k ⟨y, m⟩ ⟨F, h⟩
    have F : Fr [1272, 1273] M m := F
    show Ok (fX11_isLonger_l36 (k + 1) y (nI (n + 1)) m) _
    rw [fX11_isLonger_l36, (hQ.fr F (by decide)).2.1, if_pos (nI_lt (by omega) (by omega))]
    exact ok_some (Or.inr ⟨y, m, rfl, F, h⟩)
  · rintro k i ⟨y, m⟩ hi ⟨F, h⟩ kk
    have F : Fr [1272, 1273] M m := F
    have h : BQ m 1272 1273 n E (wM E t p q) i y := h
    show Ok (fX11_isLonger_l36 (k + 1) y (nI i) m) _
    rw [fX11_isLonger_l36, (hQ.fr F (by decide)).2.1, if_neg (nI_nlt (by omega) (by omega))]
    refine ok_call (m_pass (z2 := nI i) (hl.fr F) (hQ.fr F (by decide)) hH (by omega) (bq_bp h)) ?_
    rintro ⟨y2, m2⟩ ⟨F2, h2⟩
    have F2 : Fr [1272, 1273] m m2 := F2
    have h2 : BP m2 1272 1273 n E (wM E t p q) i E.length y2 := h2
    show Ok (if 0 ≤ y2 then _ else _) _
    rcases bp_end h60 hm h2 with ⟨k1, k2⟩ | ⟨k1, k2⟩
    · rw [k1, if_neg (by decide)]
      exact ok_some (Or.inl ⟨m2, rfl, F.step F2 (by decide), pot_m k2⟩)
    · rw [if_pos k1, bnd_eq, nI_1]
      exact kk (y2, m2) ⟨F.step F2 (by decide), k2⟩
theorem ts_le {t : Nat → Nat} {n : Nat} (h60 : n ≤ 60) (ht : ∀ v, v < n → t v ≤ 1000) : sumTo t n ≤ 60000 := by
  have : ∀ k, k ≤ n → sumTo t k ≤ 1000 * k := by
    intro k
    induction k with
    | zero => intro _; exact Nat.le_refl _
    | succ k ih =>
      intro hk
      have h1 := ih (by omega)
      have h2 := ht k (by omega)
      rw [sumTo]; omega
  have := this n (Nat.le_refl _); omega
theorem m_find {M : tM} {n : Nat} {E : List ED} {t ps : Nat → Nat} {p q : Nat} (hl : Len M) (hQ : QX M n E t p q) (hH : HB n E t p q) (hG : GE n ps E) :
    Ok (fX11_isLonger M) (fun w => (w.1 = 0 ∧ Fr [1272, 1273] M w.2 ∧ pot E t p q) ∨ (w.1 = 1 ∧ Fr [1272, 1273, 120074, 120075] M w.2 ∧ ∃ T r, rng E t T r ∧ T ≤ sumTo t n ∧ 1 ≤ r ∧ r ≤ 60 * n ∧ p * r < q * T ∧ mL w.2 11 0 74 = lN (T / Nat.gcd r T) ∧ mL w.2 11 0 75 = lN (r / Nat.gcd r T))) := by
  obtain ⟨h60, hm, hE, hr, ht, hp, hq1, hq⟩ := id hH
  have hts := ts_le h60 ht
  rw [fX11_isLonger]
  have fill : Ok (fX11_isLonger_l2 FU 0 M) (fun m => Fr [1272, 1273] M m ∧ ∀ v, v < n → mL m 1272 0 v = 0 ∧ mI m 1273 0 v = (-9)) := by
    refine loop0 (fun k i m => fX11_isLonger_l2 k i m) n (fun i m => Fr [1272, 1273] M m ∧ ∀ v, v < i → mL m 1272 0 v = 0 ∧ mI m 1273 0 v = (-9)) _ (by omega) ?_ ?_ M ⟨Fr.refl, fun v hv => by omega⟩
    · rintro k m ⟨F, h⟩
      rw [fX11_isLonger_l2, (hQ.fr F (by decide)).2.1, if_pos (nI_le (Nat.le_refl _) (by omega))]
      exact ok_some ⟨F, h⟩
    · rintro k i m hi ⟨F, h⟩ kk
      rw [fX11_isLonger_l2, (hQ.fr F (by decide)).2.1, if_neg (nI_ge hi (by omega)), F.n, ln1272 hl, chk_nI (by omega) (by omega), bnd_eq, mN_sL, F.n, ln1273 hl, chk_nI (by omega) (by omega), bnd_eq, bnd_eq, nI_clamp (by omega), nI_1]
      refine kk _ ⟨(F.wL (by decide)).wI (by decide), fun v hv => ?_⟩
      rw [mL_sI, mL_sL, mI_sI, mI_sL]
      by_cases e : v = i
      · rw [if_pos ⟨rfl, rfl, e⟩, if_pos ⟨rfl, rfl, e⟩]; exact ⟨rfl, rfl⟩
      · rw [if_neg (fun z => e z.2.2), if_neg (fun z => e z.2.2)]; exact h v (by omega)
  refine ok_call fill ?_
  rintro M2 ⟨G2, k2⟩
  refine ok_call (m_l36 (hl.fr G2) (hQ.fr G2 (by decide)) hH (bq_0 (fun v hv => (k2 v hv).1) (fun v hv => (k2 v hv).2))) ?_
  rintro w (⟨m, rfl, F, hpot⟩ | ⟨y, m, rfl, F, hBQ⟩)
  · exact ok_some (Or.inl ⟨rfl, G2.step F (by decide), hpot⟩)
  have G3 : Fr [1272, 1273] M m := G2.step F (by decide)
  obtain ⟨d, b, tt, z, c, b1, b2, -, -, b5⟩ := hBQ
  obtain ⟨v, hv, rfl, htv⟩ : ∃ v, v < n ∧ y = nI v ∧ tt v = n + 1 := by
    rcases b5 with h | h
    · omega
    · exact h
  obtain ⟨hall, k, v0, T, r, ev0, c1, c2, c3, c4, eT, er, hrng, hT, hr60, hpos⟩ := bf_rngs (t := t) hE hr b1 hv (by omega)
  obtain ⟨qe, q6, q5, qp, qq⟩ := hQ.fr G3 (by decide)
  have by12 : ∀ x, mI m 1273 0 (it (pr (eA E) b) x v) = nI (pe b (it (pr (eA E) b) x v)) := fun x => by
    have h := hall x
    rw [(b2 _ h.1).2, h.2.2.2]; rfl
  have wa8 : ∀ x, mI m 1269 0 (pe b (it (pr (eA E) b) x v)) = nI (it (pr (eA E) b) (x + 1) v) := fun x => by
    have h := hall x
    rw [it_succ]
    exact (qe.2 _ h.2.1).2.1
  show Ok (Option.bind (fX11_isLonger_l172 m FU (nI v) 0) _) _
  have walk : Ok (fX11_isLonger_l172 m FU (nI v) 0) (fun w => w = nI v0) := by
    refine loop0 (fun k i (x : Int32) => fX11_isLonger_l172 m k x i) n (fun i x => x = nI (it (pr (eA E) b) i v)) _ (by omega) ?_ ?_ (nI v) rfl
    · intro k x h
      rw [fX11_isLonger_l172, q6, if_pos (nI_le (Nat.le_refl _) (by omega)), h, ev0]
      exact ok_some rfl
    · intro k i x hi h kk
      have hx := hall i
      rw [fX11_isLonger_l172, q6, if_neg (nI_ge hi (by omega)), h, G3.n, ln1273 hl, chk_nI (by omega) (by omega), nI_clamp (by omega), by12, G3.n, ln1269 hl, chk_nI (by omega) (by omega), bnd_eq, bnd_eq, nI_clamp (by omega), wa8, nI_1]
      exact kk _ rfl
  refine ok_call walk ?_
  rintro _ rfl
  have e0 : ∀ x, it (pr (eA E) b) x v0 = it (pr (eA E) b) (n + x) v := fun x => by rw [ev0, ← it_add]
  have v0n : v0 < n := by rw [ev0]; exact (hall n).1
  have take : Ok (fX11_isLonger_l209 (nI v0) m FU 0 0 (nI v0) 1) (fun w => w = (lN T, lN r)) := by
    refine loop0 (fun k' _ (x : Int64 × Int64 × Int32 × Int32) => fX11_isLonger_l209 (nI v0) m k' x.1 x.2.1 x.2.2.1 x.2.2.2) k (fun i x => x.1 = lN (sm t (pr (eA E) b) i v0) ∧ x.2.1 = lN (sm (fun u => eR E (pe b u)) (pr (eA E) b) i v0) ∧ x.2.2.1 = nI (it (pr (eA E) b) i v0) ∧ x.2.2.2 = if i = k then 0 else 1) _ (by omega) ?_ ?_ (0, 0, nI v0, 1) ⟨rfl, rfl, rfl, by rw [if_neg (by omega)]⟩
    · rintro k' ⟨y3, y5, y7, y8⟩ ⟨h1, h2, h3, h4⟩
      have h1 : y3 = lN (sm t (pr (eA E) b) k v0) := h1
      have h2 : y5 = lN (sm (fun u => eR E (pe b u)) (pr (eA E) b) k v0) := h2
      have h4 : y8 = if k = k then 0 else 1 := h4
      rw [if_pos rfl] at h4
      show Ok (fX11_isLonger_l209 (nI v0) m (k' + 1) y3 y5 y7 y8) _
      rw [fX11_isLonger_l209, h4, if_pos rfl, h1, h2, ← eT, ← er]
      exact ok_some rfl
    · rintro k' i ⟨y2, y4, y6, y8⟩ hi ⟨h1, h2, h3, h4⟩ kk
      have h1 : y2 = lN (sm t (pr (eA E) b) i v0) := h1
      have h2 : y4 = lN (sm (fun u => eR E (pe b u)) (pr (eA E) b) i v0) := h2
      have h3 : y6 = nI (it (pr (eA E) b) i v0) := h3
      have h4 : y8 = 1 := h4.trans (if_neg (by omega))
      have hx := hall (n + i)
      have hx1 := hall (n + (i + 1))
      have bx := by12 (n + i)
      have wx := wa8 (n + i)
      rw [← e0] at hx hx1 bx wx
      rw [show n + i + 1 = n + (i + 1) by omega, ← e0] at wx
      have tx := ht _ hx.1
      have rx := hr _ hx.2.1
      have e9 : mI m 1270 0 (pe b (it (pr (eA E) b) i v0)) = nI (eR E (pe b (it (pr (eA E) b) i v0))) := (qe.2 _ hx.2.1).2.2
      show Ok (fX11_isLonger_l209 (nI v0) m (k' + 1) y2 y4 y6 y8) _
      rw [h1, h2, h3, h4]
      rw [fX11_isLonger_l209, if_neg (by decide), G3.n, ln1267 hl, chk_nI (by omega) (by omega), bnd_eq, nI_clamp (by omega), q5 _ hx.1, nI_l (by omega), lN_add, G3.n, ln1273 hl, chk_nI (by omega) (by omega), bx, G3.n, ln1270 hl, chk_nI (by omega) (by omega), bnd_eq, nI_clamp (by omega), e9, nI_l (by omega), lN_add, chk_nI (by omega) (by omega), G3.n, ln1269 hl, chk_nI (by omega) (by omega), bnd_eq, wx]
      have s1 : sm t (pr (eA E) b) i v0 + t (it (pr (eA E) b) i v0) = sm t (pr (eA E) b) (i + 1) v0 := by rw [sm_end]
      have s2 : sm (fun u => eR E (pe b u)) (pr (eA E) b) i v0 + eR E (pe b (it (pr (eA E) b) i v0)) = sm (fun u => eR E (pe b u)) (pr (eA E) b) (i + 1) v0 := by rw [sm_end]
      rw [s1, s2]
      by_cases e : i + 1 = k
      · rw [if_pos (by rw [e, c3]), Option.bind_some]
        exact kk (_, _, _, _) ⟨rfl, rfl, rfl, by rw [if_pos e]⟩
      · rw [if_neg (fun x => c4 (i + 1) (by omega) (by omega) ((nI_eq (by omega) (by omega)).mp x)), Option.bind_some]
        exact kk (_, _, _, _) ⟨rfl, rfl, rfl, by rw [if_neg e]⟩
  have r1 := rng_pos hG hrng
  have hg1 : 0 < Nat.gcd T r := Nat.gcd_pos_of_pos_right _ r1
  have hg2 : Nat.gcd T r ≤ r := Nat.le_of_dvd r1 (Nat.gcd_dvd_right _ _)
  have hlt : p * r < q * T := by
    have e : isum (fun u => wM E t p q (pe b u)) (pr (eA E) b) k v0 = (q : Int) * (T : Int) - (p : Int) * (r : Int) := by
      have h1 := isum_lin (g := t) (h := fun u => eR E (pe b u)) (f := pr (eA E) b) (p := p) (q := q) (k := k) (v := v0)
      rw [eT, er, ← h1]
      refine isum_congr (fun i hi => ?_)
      have hx := (hall (n + i)).2.2.1
      rw [← e0] at hx
      show (q : Int) * (t (eF E (pe b (it (pr (eA E) b) i v0))) : Int) - _ = (q : Int) * (t (it (pr (eA E) b) i v0) : Int) - _
      rw [hx]
    rw [e] at hpos
    have : (p : Int) * (r : Int) < (q : Int) * (T : Int) := by omega
    exact_mod_cast this
  refine ok_call take ?_
  rintro _ rfl
  show Ok ((fX11_divisor (lN T) (lN r) m).bind _) _
  rw [m_gcd (by omega) (by omega), Option.bind_some, chk_tr (nz_lN hg1 (by omega)), bnd_eq, chk_tr (nz_lN hg1 (by omega)), bnd_eq, lN_div2 (by omega) (by omega), lN_div2 (by omega) (by omega)]
  have F5 : Fr [120074, 120075] m (sL (sL m 11 0 74 (lN (T / Nat.gcd T r))) 11 0 75 (lN (r / Nat.gcd T r))) := (Fr.refl.wLo (by decide)).wLo (by decide)
  refine ok_some (Or.inr ⟨rfl, (G3.mono (by decide)).step F5 (by decide), T, r, hrng, hT, r1, hr60, hlt, ?_, ?_⟩)
  · rw [Nat.gcd_comm r T]; simp [mL_sL]
  · rw [Nat.gcd_comm r T]; simp [mL_sL]
