/-! the round, the class's: all LINES, counts; round, firings, uneven -/
theorem RC.fr {ks : List Nat} {M M2 : tM} {N : NG} {s : RS} (h : RC M N s) (hF : Fr ks M M2) (hd : disj ks [208, 209] = true) : RC M2 N s := by
  simp only [RC] at h ⊢
  simp only [hF.gI hd 208 (by decide), hF.gL hd 209 (by decide)]
  exact h
def kF : List Nat := [208, 209, 20005]
def QF (M : tM) (N : NG) (w : (Int32 × tM) ⊕ tM) : Prop := (∃ m s, w = .inr m ∧ Fr kF M m ∧ RSI (nP N) s ∧ RC m N s ∧ mI m 1 0 5 = (-9) ∧ goR N (nL N) r0 = .inl s) ∨ (∃ m l, w = .inl ((-9), m) ∧ Fr kF M m ∧ l < nL N ∧ mI m 1 0 5 = nI l ∧ goR N (nL N) r0 = .inr (some l)) ∨ (∃ m, w = .inl ((-6), m) ∧ Fr kF M m ∧ mI m 1 0 5 = (-9) ∧ goR N (nL N) r0 = .inr none)
theorem c_fl53 {M : tM} {N : NG} (hN : NOK N) (hl : Len M) (hC : Cg M M N) (hx : RC M N r0) (h5 : mI M 1 0 5 = (-9)) : Ok (fX1_findRound_l53 FU 0 M) (QF M N) := by
  have hb := hN.1
  refine loop0 (fun n i m => fX1_findRound_l53 n i m) (nL N) (fun i m => ∃ s, RSI (nP N) s ∧ RC m N s ∧ Fr kF M m ∧ mI m 1 0 5 = (-9) ∧ goR N (nL N) r0 = goR N (nL N - i) s) _ (by omega) ?_ ?_ M ⟨r0, r0_ok _, hx, Fr.refl, h5, rfl⟩
  · rintro n m ⟨s, k1, k2, F, k3, k4⟩
    rw [fX1_findRound_l53, F.oI (by decide), hC.1.2, if_pos (nI_le (Nat.le_refl _) (by omega))]
    rw [Nat.sub_self] at k4
    exact ok_some (Or.inl ⟨m, s, rfl, F, k1, k2, k3, k4⟩)
  · rintro n i m hi ⟨s, k1, k2, F, k3, k4⟩ kk
    rw [goR_step hi] at k4
    rw [fX1_findRound_l53, F.oI (by decide), hC.1.2, if_neg (nI_ge hi (by omega)), F.n, ln201 hl, chk_nI (by omega) (by omega), bnd_eq, nI_clamp (by omega), F.aR (by decide), (hC.2.2.1 i hi).1.1]
    refine ok_call (c_tie hN (hl.fr F) (hC.fr F (by decide)) k2 k1 hi) ?_
    rintro ⟨x, m2⟩ ⟨F2, hw⟩
    have F2 : Fr [208, 209] m m2 := F2
    have F3 : Fr kF M m2 := F.step F2 (by decide)
    have h5' : mI m2 1 0 5 = (-9) := (F2.oI (by decide)).trans k3
    show Ok (Option.bind (α := tM) (if x = (-9) then _ else _) _) _
    rcases hw with ⟨s', e, x0, hc⟩ | ⟨e, x9⟩ | ⟨e, x6⟩
    · have x0 : x = 0 := x0
      subst x0
      rw [if_neg (by decide), Option.bind_some, if_pos rfl, bnd_eq, nI_1]
      have ok2 := stepR_ok hN hi k1 e
      rw [e] at k4
      exact kk m2 ⟨s', ok2, hc, F3, h5', k4⟩
    · have x9 : x = (-9) := x9
      subst x9
      rw [if_pos rfl, bnd_eq, Option.bind_some, if_neg (by decide)]
      rw [e] at k4
      exact ok_some (Or.inr (Or.inl ⟨_, i, rfl, F3.wIo (by decide), hi, by rw [mI_sI, if_pos ⟨rfl, rfl, rfl⟩], k4⟩))
    · have x6 : x = (-6) := x6
      subst x6
      rw [if_neg (by decide), Option.bind_some, if_neg (by decide)]
      rw [e] at k4
      exact ok_some (Or.inr (Or.inr ⟨m2, rfl, F3, h5', k4⟩))
theorem Pr0 (p q : Nat) : Pr r0 p q = 1 := by
  show red (1 * 1) (1 * 1) = 1
  decide
theorem c_fl23 {M : tM} {N : NG} (hN : NOK N) (hl : Len M) (hP : mI M 1 0 2 = nI (nP N)) : Ok (fX1_findRound_l23 FU 0 M) (fun m => Fr [208, 209] M m ∧ RC m N r0) := by
  have hb := hN.1
  refine loop0 (fun n i m => fX1_findRound_l23 n i m) (nP N) (fun i m => Fr [208, 209] M m ∧ ∀ p, p < i → mI m 208 0 p = nI p ∧ mL m 209 0 (p * 12 + p) = 1) _ (by omega) ?_ ?_ M ⟨Fr.refl, fun p hp => by omega⟩
  · rintro n m ⟨F, h⟩
    rw [fX1_findRound_l23, F.oI (by decide), hP, if_pos (nI_le (Nat.le_refl _) (by omega))]
    refine ok_some ⟨F, fun p hp => (h p hp).1, fun p q hp hq e => ?_⟩
    have e : p = q := e
    subst e
    rw [(h p hp).2, Pr0]; rfl
  · rintro n i m hi ⟨F, h⟩ kk
    have F1 : Fr [208, 209] M (sI m 208 0 i (nI i)) := F.wI (by decide)
    rw [fX1_findRound_l23, F.oI (by decide), hP, if_neg (nI_ge hi (by omega)), F.n, ln208 hl, chk_nI (by omega) (by omega), bnd_eq, nI_clamp (by omega), c_setp hN (hl.fr F1) hi hi, Option.bind_some, bnd_eq, nI_1]
    refine kk _ ⟨F1.wL (by decide), fun p hp => ?_⟩
    rw [mI_sL, mI_sI, mL_sL]
    by_cases e : p = i
    · rw [if_pos ⟨rfl, rfl, e⟩, if_pos ⟨rfl, rfl, by rw [e]⟩, e]
      exact ⟨rfl, rfl⟩
    · rw [if_neg (fun z => e z.2.2), if_neg (by omega), mL_sI]
      exact h p (by omega)
theorem Pr_root {P : Nat} {s : RS} (h : RSI P s) {r q : Nat} (hq : q < P) (e : rg s q = r) : Pr s r q = rl s q ∧ Pr s q r = ru s q := by
  obtain ⟨-, -, j3, j4, -, -, j7, j8, j9⟩ := h.1 q hq
  rw [e] at j8 j9
  unfold Pr
  rw [j8, j9, Nat.one_mul, Nat.one_mul, Nat.mul_one, Nat.mul_one]
  exact ⟨(red_one j4 j7.symm).1, (red_one j3 j7).1⟩
theorem lcmp_nlt {a b : Nat} (ha : a < 2 ^ 63) (hb : b < 2 ^ 63) (h : b ≤ a) : ¬ lg_cmp (lN a) (lN b) < 0 := by
  unfold lg_cmp
  by_cases c : b < a
  · rw [if_pos (show lN a > lN b from (lN_lt2 hb ha).mpr c)]; decide
  · have e : a = b := by omega
    subst e
    rw [if_neg (fun q : lN a > lN a => by have := (lN_lt2 ha ha).mp q; omega), if_pos rfl]; decide
theorem c_l5 {M : tM} {N : NG} {s : RS} {r : Nat} (hN : NOK N) (hl : Len M) (hP : mI M 1 0 2 = nI (nP N)) (h : RSI (nP N) s) (hc : RC M N s) (hr : r < nP N) (er : rg s r = r) : Ok (fX1_fewestRows_l5 (nI r) M FU 1 0) (LQ s r (nP N)) := by
  have hb := hN.1
  have hpos : ∀ q, q < nP N → 0 < rl s q := fun q hq => (h.1 q hq).2.2.2.1
  refine loop0 (fun n i v => fX1_fewestRows_l5 (nI r) M n v i) (nP N) (fun i v => v = lN (lcmTo s r i) ∧ lcmTo s r i ≤ 1000000000) _ (by omega) ?_ ?_ 1 ⟨rfl, show 1 ≤ 1000000000 by omega⟩
  · rintro n v ⟨hv, hv2⟩
    rw [fX1_fewestRows_l5, hP, if_pos (nI_le (Nat.le_refl _) (by omega))]
    refine ok_some ?_
    by_cases c : lcmTo s r (nP N) ≤ 1000
    · exact Or.inl ⟨c, hv⟩
    · exact Or.inr ⟨by omega, _, by omega, by omega, hv⟩
  · rintro n i v hi ⟨rfl, hv2⟩ kk
    have hm := lcm_mono (s := s) (g := r) hpos (nP N - i) i (by omega)
    have r1 := (h.1 i hi).1
    rw [fX1_fewestRows_l5, hP, if_neg (nI_ge hi (by omega))]
    by_cases c : 1000 < lcmTo s r i
    · rw [if_gt (x := 1000) (k := 1000) rfl (by omega) (by omega) c]
      exact ok_some (Or.inr ⟨by omega, _, c, by omega, rfl⟩)
    · rw [if_ngt (x := 1000) (k := 1000) rfl (by omega) (by omega) (Nat.le_of_not_lt c), ln208 hl, chk_nI (by omega) (by omega), nI_clamp (by omega), hc.1 i hi]
      have lp := lcmTo_pos (s := s) (g := r) (n := i) (fun q hq => hpos q (by omega))
      have rb := (h.1 i hi).2.2.2.2.2.1
      by_cases e : rg s i = r
      · have g1 := Nat.gcd_pos_of_pos_left (rl s i) lp
        have g2 := Nat.le_of_dvd lp (Nat.gcd_dvd_left (lcmTo s r i) (rl s i))
        have ev := hc.2 r i hr hi (by rw [er, e])
        rw [(Pr_root h hi e).1] at ev
        rw [if_pos (by rw [e]), c_prop hN hl hr hi ev, Option.bind_some, c_gcd lp (by omega) (by omega), Option.bind_some, chk_tr (nz_lN g1 (by omega)), bnd_eq, lN_div2 (by omega) (by omega), lN_mul, Option.bind_some, bnd_eq, nI_1, lcm_way]
        have el : lcmTo s r (i + 1) = Nat.lcm (lcmTo s r i) (rl s i) := by rw [lcmTo, if_pos e]
        refine kk _ ⟨by rw [el], ?_⟩
        rw [el, ← lcm_way]
        have h1 := Nat.div_le_self (lcmTo s r i) (Nat.gcd (lcmTo s r i) (rl s i))
        calc _ ≤ 1000 * 1000000 := Nat.mul_le_mul (by omega) rb
          _ = 1000000000 := by decide
      · rw [if_neg (fun q => e ((nI_eq (by omega) (by omega)).mp q)), Option.bind_some, bnd_eq, nI_1]
        have el : lcmTo s r (i + 1) = lcmTo s r i := by rw [lcmTo, if_neg e]
        exact kk _ ⟨by rw [el], by rw [el]; exact hv2⟩
/-- the PARTS of which D speaks are counted -/
def CI (M : tM) (N : NG) (s : RS) (D : Nat → Prop) [DecidablePred D] (m : tM) : Prop := Fr [20004, 80006] M m ∧ (∀ p, p < nP N → D p → okF N s p ∧ mI m 7 p 6 = nI (fir N s p)) ∧ mI m 1 0 4 = nI (sumTo (fun p => if D p then fir N s p else 0) (nP N))
theorem CI.congr {M : tM} {N : NG} {s : RS} {D E : Nat → Prop} [DecidablePred D] [DecidablePred E] {m : tM} (h : CI M N s D m) (he : ∀ p, p < nP N → (D p ↔ E p)) : CI M N s E m := by
  refine ⟨h.1, fun p hp hE => h.2.1 p hp ((he p hp).mpr hE), ?_⟩
  rw [h.2.2]
  congr 1
  refine sumTo_congr (fun p hp => ?_)
  by_cases d : D p
  · rw [if_pos d, if_pos ((he p hp).mp d)]
  · rw [if_neg d, if_neg (fun q => d ((he p hp).mpr q))]
theorem CI.bound {M : tM} {N : NG} {s : RS} {D : Nat → Prop} [DecidablePred D] {m : tM} (h : CI M N s D m) : sumTo (fun p => if D p then fir N s p else 0) (nP N) ≤ 1000 * nP N :=
  sum_le1000 (fun p hp => by
    by_cases d : D p
    · have := (h.2.1 p hp d).1.2
      show (if D p then fir N s p else 0) ≤ 1000
      rw [if_pos d]; exact this
    · show (if D p then fir N s p else 0) ≤ 1000
      rw [if_neg d]; omega)
theorem c_spread {M m0 : tM} {N : NG} {s : RS} {r : Nat} (hN : NOK N) (hl : Len M) (hC : Cg M M N) (h : RSI (nP N) s) (hc : RC M N s) (hr : r < nP N) (er : rg s r = r) (hL : lcmTo s r (nP N) ≤ 1000) (hI : CI M N s (fun p => rg s p < r) m0) :
    Ok (fX1_spreadRows (nI r) (lN (lcmTo s r (nP N))) m0) (fun w => (w.1 = 1 ∧ CI M N s (fun p => rg s p < r + 1) w.2) ∨ (w.1 = 0 ∧ Fr [20004, 80006] M w.2 ∧ ∃ p, p < nP N ∧ ¬ okF N s p)) := by
  have hb := hN.1
  rw [fX1_spreadRows]
  refine ok_call (P := fun w => (∃ m, w = .inr m ∧ CI M N s (fun p => rg s p < r + 1) m) ∨ ∃ m, w = .inl (0, m) ∧ Fr [20004, 80006] M m ∧ ∃ p, p < nP N ∧ ¬ okF N s p) ?_ ?_
  · refine loop0 (fun n i m => fX1_spreadRows_l3 (nI r) (lN (lcmTo s r (nP N))) n i m) (nP N) (fun i m => CI M N s (fun p => rg s p < r ∨ (rg s p = r ∧ p < i)) m) _ (by omega) ?_ ?_ m0 (hI.congr (fun p hp => by omega))
    · rintro n m hm
      rw [fX1_spreadRows_l3, hm.1.oI (by decide), hC.1.1, if_pos (nI_le (Nat.le_refl _) (by omega))]
      exact ok_some (Or.inl ⟨m, rfl, hm.congr (fun p hp => by omega)⟩)
    · rintro n i m hi hm kk
      have F := hm.1
      have r1 := (h.1 i hi).1
      rw [fX1_spreadRows_l3, F.oI (by decide), hC.1.1, if_neg (nI_ge hi (by omega)), F.n, ln208 hl, chk_nI (by omega) (by omega), nI_clamp (by omega), F.aI (by decide), hc.1 i hi]
      by_cases e : rg s i = r
      · obtain ⟨-, -, i3, i4, i5, i6, -⟩ := h.1 i hi
        obtain ⟨-, hh1, hh2, -⟩ := hN.2.1 i hi
        obtain ⟨q1, q2⟩ := Pr_root h hi e
        have hcm := hc.fr F (by decide)
        have v1 := hcm.2 r i hr hi (by rw [er, e])
        have v2 := hcm.2 i r hi hr (by rw [er, e])
        rw [q1] at v1
        rw [q2] at v2
        have emax : fJ9_max_f86c9 (lN (rl s i)) 1 m = some (lN (rl s i)) := by
          rw [fJ9_max_f86c9, if_neg (show ¬ lg_cmp (lN (rl s i)) 1 < 0 from lcmp_nlt (b := 1) (by omega) (by omega) i4)]
        have m1 : lcmTo s r (nP N) * ru s i ≤ 1000 * 1000000 := Nat.mul_le_mul hL i5
        have m2 := Nat.div_le_self (lcmTo s r (nP N) * ru s i) (rl s i)
        have m3 : lcmTo s r (nP N) * ru s i / rl s i * nH N i ≤ 1000000000 * 4 := Nat.mul_le_mul (by omega) hh2
        have ef : lcmTo s r (nP N) * ru s i / rl s i * nH N i = fir N s i := by rw [fir, e]
        have cp := (hC.2.1 i hi).1
        rw [if_pos (by rw [e]), c_prop hN (hl.fr F) hi hr v2, Option.bind_some, c_prop hN (hl.fr F) hr hi v1, Option.bind_some, emax, Option.bind_some, chk_tr (nz_lN i4 (by omega)), F.n, ln200 hl, chk_nI (by omega) (by omega), bnd_eq, F.aR (by decide), cp.1, Option.bind_some, bnd_eq, F.oI (by decide), cp.2.2.2.2.1, nI_l (by omega), lN_mul, lN_div2 (by omega) (by omega), lN_mul, ef]
        rw [ef] at m3
        by_cases c : fir N s i ≤ 1000
        · have bb := hm.bound
          have w4 := hm.2.2
          rw [if_lel (x := 1000) (k := 1000) rfl (by omega) (by omega) c, chk_nI (by omega) (by omega), bnd_eq, Option.bind_some, bnd_eq, bnd_eq, bnd_eq, lN_i, mI_sI, if_neg (by simp), w4, nI_add, nI_1]
          refine kk _ ⟨(F.wIo (by decide)).wIo (by decide), fun p hp hD => ?_, ?_⟩
          · rw [mI_sI, if_neg (by simp), mI_sI]
            by_cases z : p = i
            · rw [if_pos ⟨rfl, z, rfl⟩, z]; exact ⟨⟨by rw [e]; exact hL, c⟩, rfl⟩
            · rw [if_neg (fun y => z y.2.1)]; exact hm.2.1 p hp (by omega)
          · rw [mI_sI, if_pos ⟨rfl, rfl, rfl⟩]
            congr 1
            refine (sumTo_upd hi ?_ (fun j hj hne => ?_)).symm
            · show (if rg s i < r ∨ (rg s i = r ∧ i < i + 1) then fir N s i else 0) = (if rg s i < r ∨ (rg s i = r ∧ i < i) then fir N s i else 0) + fir N s i
              rw [if_pos (by omega), if_neg (by omega), Nat.zero_add]
            · show (if rg s j < r ∨ (rg s j = r ∧ j < i + 1) then fir N s j else 0) = (if rg s j < r ∨ (rg s j = r ∧ j < i) then fir N s j else 0)
              by_cases d : rg s j < r ∨ (rg s j = r ∧ j < i)
              · rw [if_pos d, if_pos (by omega)]
              · rw [if_neg d, if_neg (by omega)]
        · rw [if_nlel (x := 1000) (k := 1000) rfl (by omega) (by omega) (Nat.lt_of_not_le c)]
          exact ok_some (Or.inr ⟨m, rfl, F, i, hi, fun z => c z.2⟩)
      · rw [if_neg (fun q => e ((nI_eq (by omega) (by omega)).mp q)), bnd_eq, nI_1]
        refine kk m (hm.congr (fun p hp => ?_))
        constructor
        · intro d; omega
        · rintro (d | ⟨d1, d2⟩)
          · exact Or.inl d
          · refine Or.inr ⟨d1, ?_⟩
            have : ¬ p = i := fun q => e (by rw [← q]; exact d1)
            omega
  · rintro w (⟨m, rfl, hm⟩ | ⟨m, rfl, hm⟩)
    · exact ok_some (Or.inl ⟨rfl, hm⟩)
    · exact ok_some (Or.inr ⟨rfl, hm⟩)
theorem c_count {M : tM} {N : NG} {s : RS} (hN : NOK N) (hl : Len M) (hC : Cg M M N) (h : RSI (nP N) s) (hc : RC M N s) (h4 : mI M 1 0 4 = 0) : Ok (fX1_countFirings M) (fun w => Fr [20004, 80006] M w.2 ∧ ((w.1 = 0 ∧ cntOK N s ∧ mI w.2 1 0 4 = nI (sumTo (fir N s) (nP N)) ∧ ∀ p, p < nP N → mI w.2 7 p 6 = nI (fir N s p)) ∨ (w.1 = (-6) ∧ ¬ cntOK N s))) := by
  have hb := hN.1
  rw [fX1_countFirings]
  refine ok_call (P := fun w => (∃ m, w = .inr m ∧ CI M N s (fun _ => True) m) ∨ ∃ m, w = .inl ((-6), m) ∧ Fr [20004, 80006] M m ∧ ∃ p, p < nP N ∧ ¬ okF N s p) ?_ ?_
  · refine loop0 (fun n i m => fX1_countFirings_l2 n i m) (nP N) (fun i m => CI M N s (fun p => rg s p < i) m) _ (by omega) ?_ ?_ M ⟨Fr.refl, fun p hp hD => by omega, ?_⟩
    · rintro n m hm
      rw [fX1_countFirings_l2, hm.1.oI (by decide), hC.1.1, if_pos (nI_le (Nat.le_refl _) (by omega))]
      exact ok_some (Or.inl ⟨m, rfl, hm.congr (fun p hp => ⟨fun _ => trivial, fun _ => (h.1 p hp).1⟩)⟩)
    · rintro n i m hi hm kk
      have F := hm.1
      have r1 := (h.1 i hi).1
      rw [fX1_countFirings_l2, F.oI (by decide), hC.1.1, if_neg (nI_ge hi (by omega)), F.n, ln208 hl, chk_nI (by omega) (by omega), nI_clamp (by omega), F.aI (by decide), hc.1 i hi]
      by_cases e : rg s i = i
      · rw [if_pos (by rw [e]), fX1_fewestRows]
        have hP' : mI m 1 0 2 = nI (nP N) := (F.oI (by decide)).trans hC.1.1
        refine ok_call (P := LQ s i (nP N)) (ok_call (c_l5 hN (hl.fr F) hP' h (hc.fr F (by decide)) hi e) (fun w hw => ok_some hw)) ?_
        rintro v hv
        rcases hv with ⟨c, rfl⟩ | ⟨c, c', hc1, hc2, rfl⟩
        · rw [if_ngt (x := 1000) (k := 1000) rfl (by omega) (by omega) c]
          refine ok_call (c_spread hN hl hC h hc hi e c hm) ?_
          rintro ⟨x, m2⟩ hw
          show Ok (if x = 0 then _ else _) _
          rcases hw with ⟨x1, hm2⟩ | ⟨x0, F2, hb2⟩
          · have x1 : x = 1 := x1
            subst x1
            rw [if_neg (by decide), bnd_eq, nI_1]
            exact kk m2 hm2
          · have x0 : x = 0 := x0
            subst x0
            rw [if_pos rfl]
            exact ok_some (Or.inr ⟨m2, rfl, F2, hb2⟩)
        · rw [if_gt (x := 1000) (k := 1000) rfl (by omega) (by omega) hc1]
          refine ok_some (Or.inr ⟨m, rfl, F, i, hi, fun z => ?_⟩)
          have := z.1
          rw [e] at this
          omega
      · rw [if_neg (fun q => e ((nI_eq (by omega) (by omega)).mp q)), bnd_eq, nI_1]
        refine kk m (hm.congr (fun p hp => ?_))
        constructor
        · intro d; omega
        · intro d
          have : ¬ rg s p = i := fun q => e (by have := (h.1 p hp).2.1; rw [q] at this; exact this)
          omega
    · rw [h4]
      have : sumTo (fun p => if rg s p < 0 then fir N s p else 0) (nP N) = 0 := sumTo_zero.mpr (fun p _ => if_neg (by omega))
      rw [this]; rfl
  · rintro w (⟨m, rfl, hm⟩ | ⟨m, rfl, F, p, hp, hx⟩)
    · show Ok (if mI m 1 0 4 ≤ 2000 then _ else _) _
      have bb := hm.bound
      have es : sumTo (fun p => if True then fir N s p else 0) (nP N) = sumTo (fir N s) (nP N) := sumTo_congr (fun p _ => if_pos trivial)
      have w4 := hm.2.2
      rw [es] at w4 bb
      rw [w4]
      by_cases c : sumTo (fir N s) (nP N) ≤ 2000
      · rw [if_pos (show nI _ ≤ (2000 : Int32) from nI_le (b := 2000) c (by omega))]
        exact ok_some ⟨hm.1, Or.inl ⟨rfl, ⟨fun p hp => (hm.2.1 p hp trivial).1, c⟩, w4, fun p hp => (hm.2.1 p hp trivial).2⟩⟩
      · rw [if_neg (show ¬ nI _ ≤ (2000 : Int32) from nI_ge (a := 2000) (by omega) (by omega))]
        exact ok_some ⟨hm.1, Or.inr ⟨rfl, fun z => c z.2⟩⟩
    · exact ok_some ⟨F, Or.inr ⟨rfl, fun z => hx (z.1 p hp)⟩⟩
def kRnd : List Nat := [208, 209, 20004, 20005, 20006, 20007, 80006]
theorem c_round {M : tM} {N : NG} (hN : NOK N) (hl : Len M) (hC : Cg M M N) (hk : Cc1 M N) : Ok (fX1_roundState M) (fun w => Fr kRnd M w.2 ∧ w.1 = mI w.2 1 0 7 ∧ mI w.2 1 0 6 = 1 ∧ RndC w.2 N) := by
  have hb := hN.1
  rw [fX1_roundState]
  rcases hk with h6 | ⟨h6, hr⟩
  rotate_left
  · rw [h6, if_neg (by decide)]
    exact ok_some ⟨Fr.refl, rfl, h6, hr⟩
  rw [h6, if_pos rfl]
  refine ok_call (P := fun w => Fr [208, 209, 20004, 20005, 80006] M w.2 ∧ ∀ m, (∀ j, j < 6 → mI m 1 0 j = mI w.2 1 0 j) → (∀ p, mI m 7 p 6 = mI w.2 7 p 6) → mI m 1 0 7 = w.1 → RndC m N) ?_ ?_
  · rw [fX1_findRound, bnd_eq, bnd_eq]
    have F0 : Fr [20004, 20005] M (sI (sI M 1 0 5 (-9)) 1 0 4 0) := (Fr.refl.wIo (by decide)).wIo (by decide)
    have h5 : mI (sI (sI M 1 0 5 (-9)) 1 0 4 0) 1 0 5 = (-9) := by simp [mI_sI]
    have h4 : mI (sI (sI M 1 0 5 (-9)) 1 0 4 0) 1 0 4 = 0 := by simp [mI_sI]
    generalize sI (sI M 1 0 5 (-9)) 1 0 4 0 = M2 at *
    have hC2 := hC.fr F0 (by decide)
    rw [hC2.1.1]
    by_cases p0 : nP N = 0
    · rw [if_pos (by rw [p0]; rfl)]
      exact ok_some ⟨F0.mono (by decide), fun m _ _ e => Or.inl ⟨p0, e⟩⟩
    rw [if_neg (nI_ne0 (by omega) (by omega))]
    refine ok_call (c_fl23 hN (hl.fr F0) hC2.1.1) ?_
    rintro M3 ⟨F1, hc⟩
    have F2 : Fr [208, 209, 20004, 20005] M M3 := (F0.mono (by decide)).step F1 (by decide)
    refine ok_call (c_fl53 hN (hl.fr F2) (hC.fr F2 (by decide)) hc ((F1.oI (by decide)).trans h5)) ?_
    rintro w hw
    rcases hw with ⟨m, s, rfl, F3, k1, k2, k3, k4⟩ | ⟨m, l, rfl, F3, k1, k2, k3⟩ | ⟨m, rfl, F3, k1, k2⟩
    · have F4 : Fr [208, 209, 20004, 20005] M m := F2.step F3 (by decide)
      show Ok ((fX1_countFirings m).bind _) _
      refine ok_call (c_count hN (hl.fr F4) (hC.fr F4 (by decide)) k1 k2 (((F3.oI (by decide)).trans (F1.oI (by decide))).trans h4)) ?_
      rintro ⟨x, m2⟩ ⟨F5, hw⟩
      have F5 : Fr [20004, 80006] m m2 := F5
      refine ok_some ⟨(F4.mono (by decide)).step F5 (by decide), fun mm e1 e2 e3 => Or.inr ⟨by omega, ?_⟩⟩
      have e5 : mI mm 1 0 5 = (-9) := (e1 5 (by omega)).trans ((F5.oI (by decide)).trans k3)
      rcases hw with ⟨x1, c, c1, c2⟩ | ⟨x6, c⟩
      · refine Or.inl ⟨fir N s, ?_, e3.trans x1, (e1 4 (by omega)).trans c1, e5, fun p hp => (e2 p).trans (c2 p hp)⟩
        rw [rndOf, k4]; exact if_pos c
      · refine Or.inr (Or.inr ⟨?_, e3.trans x6, e5⟩)
        rw [rndOf, k4]; exact if_neg c
    · refine ok_some ⟨(F2.step F3 (by decide)).mono (by decide), fun mm e1 e2 e3 => Or.inr ⟨by omega, Or.inr (Or.inl ⟨l, k1, ?_, e3, (e1 5 (by omega)).trans k2⟩)⟩⟩
      rw [rndOf, k3]
    · refine ok_some ⟨(F2.step F3 (by decide)).mono (by decide), fun mm e1 e2 e3 => Or.inr ⟨by omega, Or.inr (Or.inr ⟨?_, e3, (e1 5 (by omega)).trans k1⟩)⟩⟩
      rw [rndOf, k2]
  · rintro ⟨x, m⟩ ⟨F, hw⟩
    have F : Fr [208, 209, 20004, 20005, 80006] M m := F
    show Ok (bnd (sI m 1 0 7 x) fun M5 => bnd (sI M5 1 0 6 1) fun M6 => some (mI M6 1 0 7, M6)) _
    rw [bnd_eq, bnd_eq]
    refine ok_some ⟨((F.mono (by decide)).wIo (by decide)).wIo (by decide), rfl, by show mI (sI _ 1 0 6 1) 1 0 6 = 1; simp [mI_sI], hw _ (fun j hj => ?_) (fun p => ?_) ?_⟩
    · show mI (sI (sI m 1 0 7 x) 1 0 6 1) 1 0 j = mI m 1 0 j
      rw [mI_sI, if_neg (by omega), mI_sI, if_neg (by omega)]
    · show mI (sI (sI m 1 0 7 x) 1 0 6 1) 7 p 6 = mI m 7 p 6
      rw [mI_sI, if_neg (by simp), mI_sI, if_neg (by simp)]
    · show mI (sI (sI m 1 0 7 x) 1 0 6 1) 1 0 7 = x
      simp [mI_sI]
theorem RndC.fr {ks : List Nat} {M M2 : tM} {N : NG} (h : RndC M N) (hF : Fr ks M M2) (hd : disj ks rsCc1 = true) : RndC M2 N := by
  simp only [RndC] at h ⊢
  simp only [hF.hI hd 1 4 (by decide), hF.hI hd 1 5 (by decide), hF.hI hd 1 7 (by decide), hF.hI hd 7 6 (by decide)]
  exact h
def rsAl : List Nat := rsAlS ++ rsCs
theorem Al.fr {ks : List Nat} {M M2 : tM} {N : NG} (h : Al M N) (F : Fr ks M M2) (hd : disj ks rsAl = true) : Al M2 N := by
  obtain ⟨-, -, -, -, -, -, -, -, hS, -⟩ := id h
  exact (h.s.fr F (disj_sub hd (fun r hr => List.mem_append_left _ hr))).al (hS.fr F (disj_sub hd (fun r hr => List.mem_append_right _ hr)))
theorem Al_rnd {M M1 : tM} {N : NG} (hA : Al M N) (F : Fr kRnd M M1) (h6 : mI M1 1 0 6 = 1) (hr : RndC M1 N) : Al M1 N := by
  obtain ⟨⟨hN, hl, hG⟩, hC, hT, hV, hF, hR, hD, hO, hS, hk1, hk2, hk3⟩ := hA
  exact ⟨⟨hN, hl.fr F, hG.fr F (by decide)⟩, hC.fr F (by decide), hT.fr F (by decide), hV.fr F (by decide), hF.fr F (by decide), hR.fr F (by decide), hD.fr F (by decide), hO.fr F (by decide), hS.fr F (by decide), Or.inr ⟨h6, hr⟩, hk2.fr F (by decide), hk3.fr F (by decide)⟩
/-- both sides find the same -/
theorem rnd_both {M : tM} {N : NG} (hA : Al M N) : ∃ x M1, fX1_roundState M = some (x, M1) ∧ Fr kRnd M M1 ∧ x = mI M1 1 0 7 ∧ RndC M1 N ∧ Al M1 N := by
  obtain ⟨⟨hN, hl, hG⟩, hC, hT, hV, hF, hR, hD, hO, hS, hk1, -⟩ := id hA
  obtain ⟨⟨x, M1⟩, e, F, h1, h6, hr⟩ := c_round hN hl hC hk1
  exact ⟨x, M1, e, F, h1, hr, Al_rnd hA F h6 hr⟩
theorem c11 : call11 Rel := by
  rintro M ⟨N, hA⟩
  obtain ⟨x, M1, e, F, ex, hr, hA1⟩ := rnd_both hA
  obtain ⟨⟨hN, hl, hG⟩, -⟩ := id hA1
  have hb := hN.1
  rcases hr with ⟨p0, h7⟩ | ⟨p0, hr⟩
  · refine ⟨-4, M1, M1, ?_, ?_, N, hA1⟩
    · rw [fX10_round, e, Option.bind_some]
      show (if x = 0 then _ else _) = _
      rw [ex, h7, if_neg (by decide)]
    · rw [fX11_round, hG.1.1, if_pos (by rw [p0]; rfl)]
  · obtain ⟨⟨y, M2⟩, e2, F2, hw⟩ := m_bal hN hl hG
    have F2 : Fr kBal M1 M2 := F2
    have hA2 := hA1.fr F2 (by decide)
    have pre : fX11_round M1 = if y = 1 then some (mI M2 11 0 36, M2) else some (y, M2) := by
      rw [fX11_round, hG.1.1, if_neg (nI_ne0 (by omega) (by omega)), e2, Option.bind_some]
    have prc : fX10_round M = if x = 0 then some (mI M1 1 0 4, M1) else some (x, M1) := by
      rw [fX10_round, e, Option.bind_some]
    rcases hw with ⟨R, r1, w1, w2, w3, w4⟩ | ⟨l, hl', r1, w1, w2⟩ | ⟨r1, w1, w2⟩
    · have w1 : y = 1 := w1
      rcases hr with ⟨R', q1, q2, q3, q4, q5⟩ | ⟨l, hl', q1, q2, q3⟩ | ⟨q1, q2, q3⟩
      · rw [r1] at q1
        cases q1
        refine ⟨nI (sumTo R (nP N)), M1, M2, ?_, ?_, N, hA2⟩
        · rw [prc, ex, q2, if_pos rfl, q3]
        · rw [pre, if_pos w1, w3]
      · rw [r1] at q1; cases q1
      · rw [r1] at q1; cases q1
    · have w1 : y = (-9) := w1
      rcases hr with ⟨R', q1, q2, q3, q4, q5⟩ | ⟨l, hl', q1, q2, q3⟩ | ⟨q1, q2, q3⟩
      · rw [r1] at q1; cases q1
      · refine ⟨(-9), M1, M2, ?_, ?_, N, hA2⟩
        · rw [prc, ex, q2, if_neg (by decide)]
        · rw [pre, w1, if_neg (by decide)]
      · rw [r1] at q1; cases q1
    · have w1 : y = (-6) := w1
      rcases hr with ⟨R', q1, q2, q3, q4, q5⟩ | ⟨l, hl', q1, q2, q3⟩ | ⟨q1, q2, q3⟩
      · rw [r1] at q1; cases q1
      · rw [r1] at q1; cases q1
      · refine ⟨(-6), M1, M2, ?_, ?_, N, hA2⟩
        · rw [prc, ex, q2, if_neg (by decide)]
        · rw [pre, w1, if_neg (by decide)]
theorem c13 : call13 Rel := by
  rintro M ⟨N, hA⟩
  obtain ⟨x, M1, e, F, ex, hr, hA1⟩ := rnd_both hA
  obtain ⟨⟨hN, hl, hG⟩, -⟩ := id hA1
  have hb := hN.1
  rcases hr with ⟨p0, h7⟩ | ⟨p0, hr⟩
  · refine ⟨-4, M1, M1, ?_, ?_, N, hA1⟩
    · rw [fX10_uneven, e, Option.bind_some]
      show (if x = (-4) then _ else _) = _
      rw [ex, h7, if_pos rfl]
    · rw [fX11_uneven, hG.1.1, if_pos (by rw [p0]; rfl)]
  · obtain ⟨⟨y, M2⟩, e2, F2, hw⟩ := m_bal hN hl hG
    have F2 : Fr kBal M1 M2 := F2
    have hA2 := hA1.fr F2 (by decide)
    have pre : fX11_uneven M1 = some (mI M2 11 0 37, M2) := by
      rw [fX11_uneven, hG.1.1, if_neg (nI_ne0 (by omega) (by omega)), e2, Option.bind_some]
    have prc : fX10_uneven M = if x = (-4) then some (-4, M1) else some (mI M1 1 0 5, M1) := by
      rw [fX10_uneven, e, Option.bind_some]
    rcases hw with ⟨R, r1, w1, w2, w3, w4⟩ | ⟨l, hl', r1, w1, w2⟩ | ⟨r1, w1, w2⟩
    · have w2 : mI M2 11 0 37 = (-9) := w2
      rcases hr with ⟨R', q1, q2, q3, q4, q5⟩ | ⟨l, hl', q1, q2, q3⟩ | ⟨q1, q2, q3⟩
      · refine ⟨(-9), M1, M2, ?_, ?_, N, hA2⟩
        · rw [prc, ex, q2, if_neg (by decide), q4]
        · rw [pre, w2]
      · rw [r1] at q1; cases q1
      · rw [r1] at q1; cases q1
    · have w2 : mI M2 11 0 37 = nI l := w2
      rcases hr with ⟨R', q1, q2, q3, q4, q5⟩ | ⟨l', hl'', q1, q2, q3⟩ | ⟨q1, q2, q3⟩
      · rw [r1] at q1; cases q1
      · rw [r1] at q1
        cases q1
        refine ⟨nI l, M1, M2, ?_, ?_, N, hA2⟩
        · rw [prc, ex, q2, if_neg (by decide), q3]
        · rw [pre, w2]
      · rw [r1] at q1; cases q1
    · have w2 : mI M2 11 0 37 = (-9) := w2
      rcases hr with ⟨R', q1, q2, q3, q4, q5⟩ | ⟨l, hl', q1, q2, q3⟩ | ⟨q1, q2, q3⟩
      · rw [r1] at q1; cases q1
      · rw [r1] at q1; cases q1
      · refine ⟨(-9), M1, M2, ?_, ?_, N, hA2⟩
        · rw [prc, ex, q2, if_neg (by decide), q3]
        · rw [pre, w2]
theorem c12 : call12 Rel := by
  rintro a1 M ⟨N, hA⟩
  obtain ⟨⟨hN0, hl0, hG0⟩, hC0, -⟩ := id hA
  have hb := hN0.1
  rcases ix_cases a1 (n := nP N) (by omega) with ⟨p, hp, rfl⟩ | ha
  · obtain ⟨x, M1, e, F, ex, hr, hA1⟩ := rnd_both hA
    obtain ⟨⟨hN, hl, hG⟩, -⟩ := id hA1
    rcases hr with ⟨p0, h7⟩ | ⟨p0, hr⟩
    · omega
    · obtain ⟨⟨y, M2⟩, e2, F2, hw⟩ := m_bal hN hl hG
      have F2 : Fr kBal M1 M2 := F2
      have hA2 := hA1.fr F2 (by decide)
      have pre : fX11_firings (nI p) M1 = if y = 1 then some (mI M2 1235 0 p, M2) else some (y, M2) := by
        rw [fX11_firings, mPart_in hN hG hp, Option.bind_some, if_neg (by decide), e2, Option.bind_some]
        show (if y = 1 then _ else _) = _
        rw [F2.n, ln1235 hl, chk_nI (by omega) (by omega), nI_clamp (by omega)]
      have prc : fX10_firings (nI p) M = if x = 0 then some (mI M1 7 p 6, M1) else some (x, M1) := by
        rw [fX10_firings, cPart_in hN0 hl0 hC0 hp, Option.bind_some, if_neg (by simp), e, Option.bind_some]
        rfl
      rcases hw with ⟨R, r1, w1, w2, w3, w4⟩ | ⟨l, hl', r1, w1, w2⟩ | ⟨r1, w1, w2⟩
      · have w1 : y = 1 := w1
        rcases hr with ⟨R', q1, q2, q3, q4, q5⟩ | ⟨l, hl', q1, q2, q3⟩ | ⟨q1, q2, q3⟩
        · rw [r1] at q1
          cases q1
          refine ⟨nI (R p), M1, M2, ?_, ?_, N, hA2⟩
          · rw [prc, ex, q2, if_pos rfl, q5 p hp]
          · rw [pre, if_pos w1]
            exact congrArg (fun v => some (v, M2)) (w4 p hp)
        · rw [r1] at q1; cases q1
        · rw [r1] at q1; cases q1
      · have w1 : y = (-9) := w1
        rcases hr with ⟨R', q1, q2, q3, q4, q5⟩ | ⟨l, hl', q1, q2, q3⟩ | ⟨q1, q2, q3⟩
        · rw [r1] at q1; cases q1
        · refine ⟨(-9), M1, M2, ?_, ?_, N, hA2⟩
          · rw [prc, ex, q2, if_neg (by decide)]
          · rw [pre, w1, if_neg (by decide)]
        · rw [r1] at q1; cases q1
      · have w1 : y = (-6) := w1
        rcases hr with ⟨R', q1, q2, q3, q4, q5⟩ | ⟨l, hl', q1, q2, q3⟩ | ⟨q1, q2, q3⟩
        · rw [r1] at q1; cases q1
        · rw [r1] at q1; cases q1
        · refine ⟨(-6), M1, M2, ?_, ?_, N, hA2⟩
          · rw [prc, ex, q2, if_neg (by decide)]
          · rw [pre, w1, if_neg (by decide)]
  · rw [fX10_firings, cPart_out hC0 ha]
    refine ⟨-1, M, M, rfl, ?_, N, hA⟩
    rw [fX11_firings, mPart_out hN0 hG0 ha]; rfl
