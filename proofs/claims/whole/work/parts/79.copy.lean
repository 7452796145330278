/-! is, copy -/
theorem is_c (M : tM) (n : Nat) : ∀ k, k < 6 → ∀ a, a < 6 → ∃ v w, fX10_is_l33 (nI a) M (n + 7) (nI k) 0 = some w ∧ (w = .inl 1 ∧ v = 1 ∨ w = .inr () ∧ v = 0) ∧ ∃ x, fX11_is_l26 (nI a) M (n + 7) (nI k) = some x ∧ (if x = nI a then (1 : Int32) else 0) = v := by
  intro k hk a ha
  rcases (show k = 0 ∨ k = 1 ∨ k = 2 ∨ k = 3 ∨ k = 4 ∨ k = 5 by omega) with rfl | rfl | rfl | rfl | rfl | rfl <;> rcases (show a = 0 ∨ a = 1 ∨ a = 2 ∨ a = 3 ∨ a = 4 ∨ a = 5 by omega) with rfl | rfl | rfl | rfl | rfl | rfl
  all_goals first
    | exact ⟨1, _, rfl, Or.inl ⟨rfl, rfl⟩, _, rfl, rfl⟩
    | exact ⟨0, _, rfl, Or.inr ⟨rfl, rfl⟩, _, rfl, rfl⟩
theorem c9 : call9 Rel := by
  rintro a1 a2 M ⟨N, hA⟩
  obtain ⟨⟨hN, hl, hG⟩, hC, -⟩ := id hA
  have hb := hN.1
  rcases ix_cases a1 (n := nP N) (by omega) with ⟨p, hp, rfl⟩ | ha
  · have h5 := (hN.2.1 p hp).1
    rcases ix_cases a2 (n := 5 + 1) (by decide) with ⟨a, h2, rfl⟩ | h2
    · obtain ⟨v, w, e1, e2, x, e3, e4⟩ := is_c M 999999993 (nD N p) (by omega) a (by omega)
      refine ⟨v, ?_, ?_, N, hA⟩
      · rw [fX10_is, cPart_in hN hl hC hp, Option.bind_some, if_neg (by simp), if_neg (nI_pos (by omega)), if_pos (show nI a ≤ (5 : Int32) from nI_le (b := 5) (by omega) (by decide)), Option.bind_some, bnd_eq, (hC.2.1 p hp).1.2.2.1, show FU = 999999993 + 7 from rfl, e1]
        rcases e2 with ⟨rfl, rfl⟩ | ⟨rfl, rfl⟩ <;> rfl
      · rw [fX11_is, mPart_in hN hG hp, Option.bind_some, if_neg (by decide), (in_nI (b := 5) (n := 5) rfl (show a ≤ 5 by omega) (by decide)).1, Option.bind_some, if_neg (by decide), ln1203 hl, chk_nI (by omega) (by omega), bnd_eq, nI_clamp (by omega), (hG.2.1 p hp).1, show FU = 999999993 + 7 from rfl, e3, Option.bind_some, ← e4]
        split <;> rfl
    · obtain ⟨i1, i2⟩ := out_nI (M := M) (b := 5) (n := 5) rfl (by decide) h2
      refine ⟨-1, ?_, ?_, N, hA⟩
      · rw [fX10_is, cPart_in hN hl hC hp, Option.bind_some, if_neg (by simp)]
        by_cases q : a2 < 0
        · rw [if_pos q]
        · rw [if_neg q, if_neg (i2.resolve_left q)]
      · rw [fX11_is, mPart_in hN hG hp, Option.bind_some, if_neg (by decide), i1]; rfl
  · rw [fX10_is, fX11_is, cPart_out hC ha, mPart_out hN hG ha]
    exact ⟨-1, rfl, rfl, N, hA⟩
theorem span_cases {M : tM} {p r : Nat} (hr : r ≤ 12) (hn : mN M 809 p = r) (a n : Int32) : (∃ i m, i + m ≤ r ∧ a = nI i ∧ n = nI m ∧ fX10_hasPlaces 809 p a n M = some 1 ∧ ∀ M', fX11_isSpan a n (nI r) M' = some 1) ∨ (fX10_hasPlaces 809 p a n M = some 0 ∧ ∀ M', fX11_isSpan a n (nI r) M' = some 0) := by
  by_cases h1 : a < 0
  · exact Or.inr ⟨by rw [fX10_hasPlaces, if_pos h1], fun M' => by rw [fX11_isSpan, if_pos h1]⟩
  · by_cases h2 : n < 0
    · exact Or.inr ⟨by rw [fX10_hasPlaces, if_neg h1, if_pos h2], fun M' => by rw [fX11_isSpan, if_neg h1, if_pos h2]⟩
    · obtain ⟨i, hi, rfl⟩ := nI_of h1
      obtain ⟨m, hm, rfl⟩ := nI_of h2
      have es : ∀ M', fX11_isSpan (nI i) (nI m) (nI r) M' = if r < i + m then some 0 else some 1 := fun M' => by
        rw [fX11_isSpan, if_neg h1, if_neg h2, nI_l hi, nI_l hm, nI_l (by omega), lN_add]
        simp only [lcmp_gt (show i + m < 2 ^ 63 by omega) (show r < 2 ^ 63 by omega)]
      have ec : fX10_hasPlaces 809 p (nI i) (nI m) M = if r < i then some 0 else if r - i < m then some 0 else some 1 := by
        rw [fX10_hasPlaces, if_neg h1, if_neg h2, chk_tr (show decide (tO 809 = none) = true from rfl), chk_tr (show (!tRO 809) = true from rfl), chk_tr (show decide (tO 809 = none) = true from rfl), chk_tr (show (!tRO 809) = true from rfl), hn]
        simp only [nI_ltI (show r < 2 ^ 31 by omega) hi]
        by_cases q : r < i
        · rw [if_pos q, if_pos q]
        · rw [if_neg q, if_neg q, pk_sub (by omega)]
          simp only [nI_ltI (show r - i < 2 ^ 31 by omega) hm]
      by_cases q : i + m ≤ r
      · exact Or.inl ⟨i, m, q, rfl, rfl, by rw [ec, if_neg (by omega), if_neg (by omega)], fun M' => by rw [es, if_neg (by omega)]⟩
      · refine Or.inr ⟨?_, fun M' => by rw [es, if_pos (by omega)]⟩
        rw [ec]
        by_cases q2 : r < i
        · rw [if_pos q2]
        · rw [if_neg q2, if_pos (by omega)]
theorem s_c108 {M : tM} {p i n : Nat} {b c : Int32} (hl : Len M) (hp : p < 12) (hi : i + n ≤ 12) : Ok (fX11_copy_l108 (nI p) (nI i) b c (nI n) FU 0 M) (fun M' => Fr [1231] M M' ∧ ∀ j, j < n → mL M' 1231 0 j = mL M 1207 0 (12 * p + i + j)) := by
  refine loop0 (fun m k s => fX11_copy_l108 (nI p) (nI i) b c (nI n) m k s) n (fun k s => Fr [1231] M s ∧ ∀ j, j < k → mL s 1231 0 j = mL M 1207 0 (12 * p + i + j)) _ (by omega) ?_ ?_ _ ⟨Fr.refl, fun j hj => by omega⟩
  · intro m s h
    rw [fX11_copy_l108, if_pos (nI_le (Nat.le_refl _) (by omega))]
    exact ok_some h
  · intro m k s hk h kk
    rw [fX11_copy_l108, if_neg (nI_ge hk (by omega))]
    simp (disch := omega) only [L32, nI_add, pk_mul, h.1.n, ln1207 hl, ln1231 hl, chk_nI, bnd_eq, nI_clamp]
    refine kk _ ⟨h.1.wL (by decide), fun j hj => ?_⟩
    rw [mL_sL, h.1.aL (by decide)]
    split
    · rename_i e; rw [show j = k by omega]
    · exact h.2 j (by omega)
theorem s_c145 {M : tM} {p i n : Nat} (hl : Len M) (hp : p < 12) (hi : i + n ≤ 12) : Ok (fX11_copy_l145 (nI p) (nI i) (nI n) FU 0 M) (fun M' => Fr [1207] M M' ∧ ∀ x, mL M' 1207 0 x = if 12 * p + i ≤ x ∧ x < 12 * p + i + n then mL M 1231 0 (x - (12 * p + i)) else mL M 1207 0 x) := by
  refine loop0 (fun m k s => fX11_copy_l145 (nI p) (nI i) (nI n) m k s) n (fun k s => Fr [1207] M s ∧ ∀ x, mL s 1207 0 x = if 12 * p + i ≤ x ∧ x < 12 * p + i + k then mL M 1231 0 (x - (12 * p + i)) else mL M 1207 0 x) _ (by omega) ?_ ?_ _ ⟨Fr.refl, fun x => by rw [if_neg (by omega)]⟩
  · intro m s h
    rw [fX11_copy_l145, if_pos (nI_le (Nat.le_refl _) (by omega))]
    exact ok_some h
  · intro m k s hk h kk
    rw [fX11_copy_l145, if_neg (nI_ge hk (by omega))]
    simp (disch := omega) only [L32, nI_add, pk_mul, h.1.n, ln1207 hl, ln1231 hl, chk_nI, bnd_eq, nI_clamp]
    refine kk _ ⟨h.1.wL (by decide), fun x => ?_⟩
    rw [mL_sL, h.1.aL (by decide), h.2 x]
    by_cases e : x = 12 * p + i + k
    · rw [if_pos ⟨rfl, rfl, e⟩, if_pos (by omega), e]
      congr 1
      omega
    · rw [if_neg (fun q => e q.2.2)]
      by_cases q : 12 * p + i ≤ x ∧ x < 12 * p + i + k
      · rw [if_pos q, if_pos (by omega)]
      · rw [if_neg q, if_neg (by omega)]
theorem cpok_of' {i j n a b : Nat} (h1 : i + n ≤ a) (h2 : j + n ≤ b) (ha : a ≤ 12) (hb : b ≤ 12) : cpok (nI i) (nI j) (nI n) a b = true := by
  have e1 := nI_clamp (n := i) (by omega)
  have e2 := nI_clamp (n := j) (by omega)
  have e3 := nI_clamp (n := n) (by omega)
  simp only [cpok, Bool.and_eq_true, Bool.not_eq_true', decide_eq_false_iff_not, decide_eq_true_eq, e1, e2, e3]
  exact ⟨⟨⟨⟨nI_pos (by omega), nI_pos (by omega)⟩, nI_pos (by omega)⟩, h1⟩, h2⟩
theorem c6 : call6 Rel := by
  rintro a1 a2 a3 a4 a5 M ⟨N, hA⟩
  obtain ⟨⟨hN, hl, hG⟩, hC, hT, hV, hF, hR, hD, hO, hS, hk1, hk2, hk3⟩ := id hA
  have hb := hN.1
  rcases ix_cases a1 (n := nP N) (by omega) with ⟨p, hp, rfl⟩ | ha
  · rcases ix_cases a3 (n := nP N) (by omega) with ⟨o, ho, rfl⟩ | ha3
    · have hp5 := (hN.2.1 p hp).1
      have ho5 := (hN.2.1 o ho).1
      by_cases hk : nD N p = 5
      · by_cases hko : nD N o = 5
        · rcases (hC.2.1 p hp).2 with ⟨w1, w2⟩ | ⟨r, w1, w2, w3, w4, w5, w6, w7⟩
          · obtain ⟨M1, M2, m1, F1, m2, m3⟩ := meets_ok hA (f := 1) (by decide)
            refine ⟨-3, M1, M2, ?_, ?_, N, m3⟩
            · rw [fX10_copy, cPart_in hN hl hC hp, cPart_in hN hl hC ho, Option.bind_some, Option.bind_some, if_neg (by simp), if_neg (by simp), Option.bind_some, (hC.2.1 p hp).1.2.2.1, hk, if_pos (show nI 5 = (5 : Int32) from rfl), Option.bind_some, (hC.2.1 o ho).1.2.2.1, hko, if_pos (show nI 5 = (5 : Int32) from rfl), bnd_eq, w2, if_pos rfl, show fX10_meets 1 M = _ from m1]; rfl
            · rw [fX11_copy, mPart_in hN (hG.fr F1 (by decide)) hp, Option.bind_some, if_neg (by decide), mPart_in hN (hG.fr F1 (by decide)) ho, Option.bind_some, if_neg (by decide), ln1203 (hl.fr F1), chk_nI (by omega) (by omega), nI_clamp (by omega), F1.aI (by decide), (hG.2.1 p hp).1, hk, if_pos (show nI 5 = (5 : Int32) from rfl), chk_nI (by omega) (by omega), nI_clamp (by omega), F1.aI (by decide), (hG.2.1 o ho).1, hko, if_pos (show nI 5 = (5 : Int32) from rfl), ln1206 (hl.fr F1), chk_nI (by omega) (by omega), F1.aI (by decide), w1, if_pos (by decide), show fX11_meets 1 M1 = _ from m2]; rfl
          · rcases (hC.2.1 o ho).2 with ⟨x1, x2⟩ | ⟨t, x1, x2, x3, x4, x5, x6, x7⟩
            · obtain ⟨M1, M2, m1, F1, m2, m3⟩ := meets_ok hA (f := 1) (by decide)
              refine ⟨-3, M1, M2, ?_, ?_, N, m3⟩
              · rw [fX10_copy, cPart_in hN hl hC hp, cPart_in hN hl hC ho, Option.bind_some, Option.bind_some, if_neg (by simp), if_neg (by simp), Option.bind_some, (hC.2.1 p hp).1.2.2.1, hk, if_pos (show nI 5 = (5 : Int32) from rfl), Option.bind_some, (hC.2.1 o ho).1.2.2.1, hko, if_pos (show nI 5 = (5 : Int32) from rfl), bnd_eq, w4, if_neg (by simp), bnd_eq, x2, if_pos rfl, show fX10_meets 1 M = _ from m1]; rfl
              · rw [fX11_copy, mPart_in hN (hG.fr F1 (by decide)) hp, Option.bind_some, if_neg (by decide), mPart_in hN (hG.fr F1 (by decide)) ho, Option.bind_some, if_neg (by decide), ln1203 (hl.fr F1), chk_nI (by omega) (by omega), nI_clamp (by omega), F1.aI (by decide), (hG.2.1 p hp).1, hk, if_pos (show nI 5 = (5 : Int32) from rfl), chk_nI (by omega) (by omega), nI_clamp (by omega), F1.aI (by decide), (hG.2.1 o ho).1, hko, if_pos (show nI 5 = (5 : Int32) from rfl), ln1206 (hl.fr F1), chk_nI (by omega) (by omega), F1.aI (by decide), w3, if_neg (nI_pos (by omega)), chk_nI (by omega) (by omega), F1.aI (by decide), x1, if_neg (by decide), show fX11_meets 1 M1 = _ from m2]; rfl
            · rcases span_cases w2 w5 a2 a5 with ⟨i, m, s1, rfl, rfl, s2, s3⟩ | ⟨s2, s3⟩
              · rcases span_cases x2 x5 a4 (nI m) with ⟨j, m', s4, rfl, s5, s6, s7⟩ | ⟨s6, s7⟩
                · have hmm : m' = m := by
                    have := congrArg Int32.toNatClampNeg s5
                    rw [nI_clamp (by omega), nI_clamp (by omega)] at this
                    exact this.symm
                  subst hmm
                  have F0 : Fr [809] M (cL M 809 o (va_cpy (mL M 809 p) (mL M 809 o) i j m')) := Fr.refl.vL (by decide)
                  obtain ⟨M1, e1, F1, T1, z1⟩ := s_toFirst (M := cL M 809 o (va_cpy (mL M 809 p) (mL M 809 o) i j m')) hN (hl.fr F0) ((Cgs.of hC hV).fr F0 (by decide))
                  have F01 : Fr [507, 809, 810, 905, 50008, 50009, 50011, 80007, 80008, 100001] M M1 := (F0.mono (by decide)).step F1 (by decide)
                  obtain ⟨Ma, ea, Fa, va⟩ := s_c108 (M := M1) (p := p) (i := i) (n := m') (b := nI o) (c := nI j) (hl.fr F01) (by omega) (by omega)
                  have F0a : Fr [507, 809, 810, 905, 1231, 50008, 50009, 50011, 80007, 80008, 100001] M Ma := (F01.mono (by decide)).step Fa (by decide)
                  obtain ⟨Mb, eb, Fb, vb⟩ := s_c145 (M := Ma) (p := o) (i := j) (n := m') (hl.fr F0a) (by omega) (by omega)
                  have F0b : Fr [507, 809, 810, 905, 1207, 1231, 50008, 50009, 50011, 80007, 80008, 100001] M Mb := (F0a.mono (by decide)).step Fb (by decide)
                  obtain ⟨M2, e2, F3, T2, z2⟩ := s_begins (M := Mb) hN (hl.fr F0b) (hG.fr F0b (by decide))
                  have FF : Fr [507, 809, 810, 905, 1207, 1208, 1209, 1219, 1220, 1221, 1222, 1223, 1230, 1231, 50008, 50009, 50011, 80007, 80008, 100001, 120025] M M2 := (F0b.mono (by decide)).step F3 (by decide)
                  have F23 : Fr [1207, 1208, 1209, 1219, 1220, 1221, 1222, 1223, 1230, 1231, 120025] M1 M2 := ((Fa.mono (by decide)).step Fb (by decide)).step F3 (by decide)
                  have hG2 := hG.fr FF (by decide)
                  have a5 : ∀ q x, mL M2 809 q x = if q = o then va_cpy (mL M 809 p) (mL M 809 o) i j m' x else mL M 809 q x := fun q x => by
                    rw [F23.aL (by decide), F1.aL (by decide), mL_cL]; simp
                  have a8 : ∀ x, mL M2 1207 0 x = if 12 * o + j ≤ x ∧ x < 12 * o + j + m' then mL M 1207 0 (12 * p + i + (x - (12 * o + j))) else mL M 1207 0 x := fun x => by
                    rw [F3.aL (by decide), vb x]
                    by_cases q : 12 * o + j ≤ x ∧ x < 12 * o + j + m'
                    · rw [if_pos q, if_pos q, va _ (by omega), F01.aL (by decide)]
                    · rw [if_neg q, if_neg q, Fa.aL (by decide), F01.aL (by decide)]
                  have hC2 : Cg M2 M2 N := by
                    refine ⟨by rw [FF.oI (by decide), FF.oI (by decide)]; exact hC.1, fun q hq => ⟨(hC.2.1 q hq).1.fr FF (by decide), ?_⟩, fun q hq => ⟨(hC.2.2.1 q hq).1.fr FF (by decide), (hC.2.2.1 q hq).2.fr FF (by decide)⟩, hC.2.2.2.fr FF⟩
                    rcases (hC.2.1 q hq).2 with ⟨w1, w2⟩ | ⟨r', w1', w2', w3', w4', w5', w6', w7'⟩
                    · exact Or.inl ⟨by rw [FF.aI (by decide)]; exact w1, by rw [FF.oR (by decide)]; exact w2⟩
                    · refine Or.inr ⟨r', w1', w2', by rw [FF.aI (by decide)]; exact w3', by rw [FF.oR (by decide)]; exact w4', by rw [FF.n]; exact w5', by rw [FF.n]; exact w6', fun x hx => ?_⟩
                      rw [a5, a8]
                      by_cases e : q = o
                      · subst e
                        have hrt : r' = t := by omega
                        subst hrt
                        rw [if_pos rfl]
                        by_cases q2 : j ≤ x ∧ x < j + m'
                        · rw [if_pos (by omega), pk_cpy_in q2.1 q2.2, w7 _ (by omega)]
                          congr 1
                          omega
                        · rw [if_neg (by omega), pk_cpy_out (by omega), w7' x hx]
                      · rw [if_neg e, if_neg (by omega), w7' x hx]
                  refine ⟨1, M1, M2, ?_, ?_, N, ⟨⟨hN, hl.fr FF, hG2⟩, hC2, hT.fr FF (by decide), Cv_new hN hG2 hC2 (T1.fr F23 (by decide)) T2, hF.fr FF (by decide), hR.fr FF (by decide), hD.fr FF (by decide), hO.fr FF (by decide), Cs_thr hS FF (by decide) (fun t ht => by rw [F23.aI (by decide)]; exact z1 t ht) z2, hk1.fr FF (by decide), hk2.fr FF (by decide), hk3.fr FF (by decide)⟩⟩
                  · rw [fX10_copy, cPart_in hN hl hC hp, cPart_in hN hl hC ho, Option.bind_some, Option.bind_some, if_neg (by simp), if_neg (by simp), Option.bind_some, (hC.2.1 p hp).1.2.2.1, hk, if_pos (show nI 5 = (5 : Int32) from rfl), Option.bind_some, (hC.2.1 o ho).1.2.2.1, hko, if_pos (show nI 5 = (5 : Int32) from rfl), bnd_eq, w4, if_neg (by simp), bnd_eq, x4, if_neg (by simp), bnd_eq, Option.bind_some, s2, Option.bind_some, if_neg (by decide), bnd_eq, Option.bind_some, s6, Option.bind_some, if_neg (by decide), bnd_eq, bnd_eq, Option.bind_some, Option.bind_some, w5, x5, chk_tr (cpok_of' s1 s4 w2 x2), bnd_eq, nI_clamp (by omega), nI_clamp (by omega), nI_clamp (by omega), e1]; rfl
                  · rw [fX11_copy, mPart_in hN (hG.fr F01 (by decide)) hp, Option.bind_some, if_neg (by decide), mPart_in hN (hG.fr F01 (by decide)) ho, Option.bind_some, if_neg (by decide), ln1203 (hl.fr F01), chk_nI (by omega) (by omega), nI_clamp (by omega), F01.aI (by decide), (hG.2.1 p hp).1, hk, if_pos (show nI 5 = (5 : Int32) from rfl), chk_nI (by omega) (by omega), nI_clamp (by omega), F01.aI (by decide), (hG.2.1 o ho).1, hko, if_pos (show nI 5 = (5 : Int32) from rfl), ln1206 (hl.fr F01), chk_nI (by omega) (by omega), F01.aI (by decide), w3, if_neg (nI_pos (by omega)), chk_nI (by omega) (by omega), F01.aI (by decide), x3, if_pos (nI_pos' (by omega)), chk_nI (by omega) (by omega), s3, Option.bind_some, if_neg (by decide), chk_nI (by omega) (by omega), s7, Option.bind_some, if_neg (by decide), ea, Option.bind_some, eb, Option.bind_some, e2]; rfl
                · obtain ⟨M1, M2, m1, F1, m2, m3⟩ := meets_ok hA (f := 2) (by decide)
                  refine ⟨-3, M1, M2, ?_, ?_, N, m3⟩
                  · rw [fX10_copy, cPart_in hN hl hC hp, cPart_in hN hl hC ho, Option.bind_some, Option.bind_some, if_neg (by simp), if_neg (by simp), Option.bind_some, (hC.2.1 p hp).1.2.2.1, hk, if_pos (show nI 5 = (5 : Int32) from rfl), Option.bind_some, (hC.2.1 o ho).1.2.2.1, hko, if_pos (show nI 5 = (5 : Int32) from rfl), bnd_eq, w4, if_neg (by simp), bnd_eq, x4, if_neg (by simp), bnd_eq, Option.bind_some, s2, Option.bind_some, if_neg (by decide), bnd_eq, Option.bind_some, s6, Option.bind_some, if_pos rfl, show fX10_meets 2 M = _ from m1]; rfl
                  · rw [fX11_copy, mPart_in hN (hG.fr F1 (by decide)) hp, Option.bind_some, if_neg (by decide), mPart_in hN (hG.fr F1 (by decide)) ho, Option.bind_some, if_neg (by decide), ln1203 (hl.fr F1), chk_nI (by omega) (by omega), nI_clamp (by omega), F1.aI (by decide), (hG.2.1 p hp).1, hk, if_pos (show nI 5 = (5 : Int32) from rfl), chk_nI (by omega) (by omega), nI_clamp (by omega), F1.aI (by decide), (hG.2.1 o ho).1, hko, if_pos (show nI 5 = (5 : Int32) from rfl), ln1206 (hl.fr F1), chk_nI (by omega) (by omega), F1.aI (by decide), w3, if_neg (nI_pos (by omega)), chk_nI (by omega) (by omega), F1.aI (by decide), x3, if_pos (nI_pos' (by omega)), chk_nI (by omega) (by omega), s3, Option.bind_some, if_neg (by decide), chk_nI (by omega) (by omega), s7, Option.bind_some, if_pos rfl, show fX11_meets 2 M1 = _ from m2]; rfl
              · obtain ⟨M1, M2, m1, F1, m2, m3⟩ := meets_ok hA (f := 2) (by decide)
                refine ⟨-3, M1, M2, ?_, ?_, N, m3⟩
                · rw [fX10_copy, cPart_in hN hl hC hp, cPart_in hN hl hC ho, Option.bind_some, Option.bind_some, if_neg (by simp), if_neg (by simp), Option.bind_some, (hC.2.1 p hp).1.2.2.1, hk, if_pos (show nI 5 = (5 : Int32) from rfl), Option.bind_some, (hC.2.1 o ho).1.2.2.1, hko, if_pos (show nI 5 = (5 : Int32) from rfl), bnd_eq, w4, if_neg (by simp), bnd_eq, x4, if_neg (by simp), bnd_eq, Option.bind_some, s2, Option.bind_some, if_pos rfl, show fX10_meets 2 M = _ from m1]; rfl
                · rw [fX11_copy, mPart_in hN (hG.fr F1 (by decide)) hp, Option.bind_some, if_neg (by decide), mPart_in hN (hG.fr F1 (by decide)) ho, Option.bind_some, if_neg (by decide), ln1203 (hl.fr F1), chk_nI (by omega) (by omega), nI_clamp (by omega), F1.aI (by decide), (hG.2.1 p hp).1, hk, if_pos (show nI 5 = (5 : Int32) from rfl), chk_nI (by omega) (by omega), nI_clamp (by omega), F1.aI (by decide), (hG.2.1 o ho).1, hko, if_pos (show nI 5 = (5 : Int32) from rfl), ln1206 (hl.fr F1), chk_nI (by omega) (by omega), F1.aI (by decide), w3, if_neg (nI_pos (by omega)), chk_nI (by omega) (by omega), F1.aI (by decide), x3, if_pos (nI_pos' (by omega)), chk_nI (by omega) (by omega), s3, Option.bind_some, if_pos rfl, show fX11_meets 2 M1 = _ from m2]; rfl
        · obtain ⟨M1, M2, m1, F1, m2, m3⟩ := meets_ok hA (f := 3) (by decide)
          have hk5 : ¬ nI (nD N o) = (5 : Int32) := fun e => hko ((nI_eq (b := 5) (by omega) (by decide)).mp e)
          refine ⟨-3, M1, M2, ?_, ?_, N, m3⟩
          · rw [fX10_copy, cPart_in hN hl hC hp, cPart_in hN hl hC ho, Option.bind_some, Option.bind_some, if_neg (by simp), if_neg (by simp), Option.bind_some, (hC.2.1 p hp).1.2.2.1, hk, if_pos (show nI 5 = (5 : Int32) from rfl), Option.bind_some, (hC.2.1 o ho).1.2.2.1, if_neg hk5, show fX10_meets 3 M = _ from m1]; rfl
          · rw [fX11_copy, mPart_in hN (hG.fr F1 (by decide)) hp, Option.bind_some, if_neg (by decide), mPart_in hN (hG.fr F1 (by decide)) ho, Option.bind_some, if_neg (by decide), ln1203 (hl.fr F1), chk_nI (by omega) (by omega), nI_clamp (by omega), F1.aI (by decide), (hG.2.1 p hp).1, hk, if_pos (show nI 5 = (5 : Int32) from rfl), chk_nI (by omega) (by omega), nI_clamp (by omega), F1.aI (by decide), (hG.2.1 o ho).1, if_neg hk5, show fX11_meets 3 M1 = _ from m2]; rfl
      · obtain ⟨M1, M2, m1, F1, m2, m3⟩ := meets_ok hA (f := 3) (by decide)
        have hk5 : ¬ nI (nD N p) = (5 : Int32) := fun e => hk ((nI_eq (b := 5) (by omega) (by decide)).mp e)
        refine ⟨-3, M1, M2, ?_, ?_, N, m3⟩
        · rw [fX10_copy, cPart_in hN hl hC hp, cPart_in hN hl hC ho, Option.bind_some, Option.bind_some, if_neg (by simp), if_neg (by simp), Option.bind_some, (hC.2.1 p hp).1.2.2.1, if_neg hk5, show fX10_meets 3 M = _ from m1]; rfl
        · rw [fX11_copy, mPart_in hN (hG.fr F1 (by decide)) hp, Option.bind_some, if_neg (by decide), mPart_in hN (hG.fr F1 (by decide)) ho, Option.bind_some, if_neg (by decide), ln1203 (hl.fr F1), chk_nI (by omega) (by omega), nI_clamp (by omega), F1.aI (by decide), (hG.2.1 p hp).1, if_neg hk5, show fX11_meets 3 M1 = _ from m2]; rfl
    · refine ⟨-1, M, M, ?_, ?_, N, hA⟩
      · rw [fX10_copy, cPart_in hN hl hC hp, cPart_out hC ha3]; rfl
      · rw [fX11_copy, mPart_in hN hG hp, Option.bind_some, if_neg (by decide), mPart_out hN hG ha3]; rfl
  · refine ⟨-1, M, M, ?_, ?_, N, hA⟩
    · rcases ix_cases a3 (n := nP N) (by omega) with ⟨o, ho, rfl⟩ | ha3
      · rw [fX10_copy, cPart_out hC ha, cPart_in hN hl hC ho]; rfl
      · rw [fX10_copy, cPart_out hC ha, cPart_out hC ha3]; rfl
    · rw [fX11_copy, mPart_out hN hG ha]; rfl
