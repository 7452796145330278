/-! once: a run along an order whose marks may be any numbers -/
def i2n (x : Int32) : Nat := x.toBitVec.toNat
theorem i2n_nI (x : Int32) : nI (i2n x) = x := (i32_nat x).symm
def stO (N : NG) (od : Nat → Nat) (l : Nat) : Nat → Int32
  | 0 => nI (nS N l)
  | k + 1 => if vO N od l (k + 1) ≤ stO N od l k then stO N od l k else vO N od l (k + 1)
theorem sum_swap {f g : Nat → Nat} {n i : Nat} (h : i < n) (ho : ∀ j, j < n → ¬ j = i → g j = f j) : sumTo g n + f i = sumTo f n + g i := by
  have h1 : sumTo (fun j => if j = i then f i + g i else f j) n = sumTo f n + g i := sumTo_upd h (by show (if i = i then f i + g i else f i) = _; rw [if_pos rfl]) (fun j _ hne => if_neg hne)
  have h2 : sumTo (fun j => if j = i then f i + g i else f j) n = sumTo g n + f i := sumTo_upd h (by show (if i = i then f i + g i else f i) = _; rw [if_pos rfl, Nat.add_comm]) (fun j hj hne => by show (if j = i then f i + g i else f j) = _; rw [if_neg hne, ho j hj hne])
  omega
theorem i32_mv {a b c d : Int32} (h : a + b = c + d) : a = c + (d - b) := by
  have h1 : a = a + b - b := (Int32.add_sub_cancel a b).symm
  rw [h1, h, Int32.sub_eq_add_neg, Int32.sub_eq_add_neg, Int32.add_assoc]
theorem sum_swapI {f g : Nat → Nat} {n i : Nat} (h : i < n) (ho : ∀ j, j < n → ¬ j = i → g j = f j) : nI (sumTo g n) = nI (sumTo f n) + (nI (g i) - nI (f i)) :=
  i32_mv (by rw [nI_add, nI_add, sum_swap h ho])
theorem tm_sub {x : Int32} {t : Nat} (h1 : -1000000 ≤ x.toInt) (h2 : x.toInt ≤ 1000000) (ht : t ≤ 1000) : (x - nI t).toInt = x.toInt - t := by
  rw [Int32.toInt_sub, nI_toInt (by omega)]
  apply Int.bmod_eq_of_le <;> omega
theorem tm_add {x : Int32} {t : Nat} (h1 : -1000000 ≤ x.toInt) (h2 : x.toInt ≤ 1000000) (ht : t ≤ 1000) : (x + nI t).toInt = x.toInt + t := by
  rw [Int32.toInt_add, nI_toInt (by omega)]
  apply Int.bmod_eq_of_le <;> omega
theorem tg_le {N : NG} {p a l : Nat} (hN : NOK N) (hl : l < nL N) (ha : a < 4) : tkA N p a l ≤ 50 ∧ gvA N p a l ≤ 50 := by
  have h := hN.2.2.2 l a hl ha
  refine ⟨?_, ?_⟩
  · rw [tkA]; split <;> omega
  · rw [gvA]; split <;> omega
theorem vO_b {N : NG} {od : Nat → Nat} {l : Nat} (hN : NOK N) (hl : l < nL N) : ∀ k, k ≤ 2001 → (∀ i, i < k → od i < nP N) → -(50 * (k : Int)) ≤ (vO N od l k).toInt ∧ (vO N od l k).toInt ≤ 60 + 50 * (k : Int) := by
  intro k
  induction k with
  | zero =>
    intro _ _
    have hs := (hN.2.2.1 l hl).2.2
    have e : (vO N od l 0).toInt = (nS N l : Int) := nI_toInt (by omega)
    omega
  | succ k ih =>
    intro hk ho
    obtain ⟨i1, i2⟩ := ih (by omega) (fun i hi => ho i (by omega))
    obtain ⟨-, h4⟩ := ph_lt hN (ho k (by omega)) (cO od k (od k))
    have hb := tg_le (p := od k) hN hl h4
    have e1 := tm_sub (x := vO N od l k) (t := tkA N (od k) (cO od k (od k) % nH N (od k)) l) (by omega) (by omega) (by omega)
    have e2 := tm_add (x := vO N od l k - nI (tkA N (od k) (cO od k (od k) % nH N (od k)) l)) (t := gvA N (od k) (cO od k (od k) % nH N (od k)) l) (by omega) (by omega) (by omega)
    have e : vO N od l (k + 1) = vO N od l k - nI (tkA N (od k) (cO od k (od k) % nH N (od k)) l) + nI (gvA N (od k) (cO od k (od k) % nH N (od k)) l) := rfl
    rw [e, e2, e1]
    omega
theorem vO_st {N : NG} {od : Nat → Nat} {l : Nat} : ∀ k, vO N od l k ≤ stO N od l k := by
  intro k
  cases k with
  | zero => exact Int32.le_refl _
  | succ k =>
    show vO N od l (k + 1) ≤ (if vO N od l (k + 1) ≤ stO N od l k then stO N od l k else vO N od l (k + 1))
    split
    · assumption
    · exact Int32.le_refl _
theorem st_ne {N : NG} {od : Nat → Nat} {l k : Nat} (hN : NOK N) (hl : l < nL N) (hk : k ≤ 2000) (ho : ∀ i, i < k + 1 → od i < nP N) (hne : ¬ nF N l = od k) : stO N od l (k + 1) = stO N od l k := by
  have hb := vO_b (od := od) hN hl k (by omega) (fun i hi => ho i (by omega))
  obtain ⟨-, h4⟩ := ph_lt hN (ho k (by omega)) (cO od k (od k))
  have ht := tg_le (p := od k) hN hl h4
  have hs := vO_st (N := N) (od := od) (l := l) k
  have e1 := tm_sub (x := vO N od l k) (t := tkA N (od k) (cO od k (od k) % nH N (od k)) l) (by omega) (by omega) (by omega)
  have e : vO N od l (k + 1) = vO N od l k - nI (tkA N (od k) (cO od k (od k) % nH N (od k)) l) + nI (gvA N (od k) (cO od k (od k) % nH N (od k)) l) := rfl
  have eg : gvA N (od k) (cO od k (od k) % nH N (od k)) l = 0 := if_neg hne
  rw [eg] at e
  have e0 : vO N od l (k + 1) = vO N od l k - nI (tkA N (od k) (cO od k (od k) % nH N (od k)) l) := e.trans (Int32.add_zero _)
  show (if vO N od l (k + 1) ≤ stO N od l k then stO N od l k else vO N od l (k + 1)) = _
  rw [Int32.le_iff_toInt_le] at hs
  rw [if_pos]
  rw [Int32.le_iff_toInt_le, e0, e1]
  omega
theorem c_sl15R {M : tM} {N : NG} {v : Nat → Int32} {p a : Nat} (hN : NOK N) (hl : Len M) (hC : Cg M M N) (hM : ∀ l, l < nL N → mI M 601 0 l = v l) (ha : a < nH N p) :
    Ok (fX5_step_l15 p (nI a) FU (nx (nT N) p (nL N) 0) M) (fun m => Fr [601] M m ∧ ∀ l, l < nL N → mI m 601 0 l = v l - nI (tkA N p a l)) := by
  have hb := hN.1
  refine loopC0 (fun n r m => fX5_step_l15 p (nI a) n r m) (nT N) p (nL N) (fun i m => Fr [601] M m ∧ ∀ l, l < nL N → mI m 601 0 l = (if l < i then v l - nI (tkA N p a l) else v l)) _ hb.2 ?_ ?_ ?_ M ⟨Fr.refl, fun l hl => by rw [if_neg (by omega)]; exact hM l hl⟩
  · rintro n m ⟨F, h⟩
    rw [fX5_step_l15, if_pos rfl]
    exact ok_some ⟨F, fun l hl => by rw [h l hl, if_pos hl]⟩
  · rintro i m hi hne ⟨F, h⟩
    refine ⟨F, fun l hl => ?_⟩
    rw [h l hl]
    by_cases e : l = i
    · subst e
      rw [if_neg (by omega), if_pos (by omega), tkA, if_neg hne]; exact (Int32.sub_zero _).symm
    · by_cases q : l < i
      · rw [if_pos q, if_pos (by omega)]
      · rw [if_neg q, if_neg (by omega)]
  · rintro n i m hi he ⟨F, h⟩ kk
    have hCm := hC.fr F (by decide)
    have cl := (hCm.2.2.1 i hi).1
    have hmi := h i hi
    rw [if_neg (Nat.lt_irrefl _)] at hmi
    have ek : tkA N p a i = nK N i a := if_pos he
    rw [fX5_step_l15, if_neg (by simp), Option.bind_some, bnd_eq, cl.2.1, F.n, ln601 hl, chk_nI (by omega) (by omega), cTakes hN hCm hi (by rw [he]; exact ha), Option.bind_some, chk_nI (by omega) (by omega), bnd_eq, nI_clamp (by omega), hmi, ← ek]
    have F1 : Fr [601] M (sI m 601 0 i (v i - nI (tkA N p a i))) := F.wI (by decide)
    rw [bnd_eq, ((hC.fr F1 (by decide)).2.2.1 i hi).1.2.2.2.2.2.1, he]
    refine kk _ ⟨F1, fun l hl' => ?_⟩
    rw [mI_sI]
    by_cases e : l = i
    · rw [if_pos ⟨rfl, rfl, e⟩, if_pos (by omega), e]
    · rw [if_neg (fun z => e z.2.2), h l hl']
      by_cases q : l < i
      · rw [if_pos q, if_pos (by omega)]
      · rw [if_neg q, if_neg (by omega)]
theorem c_sl49R {M : tM} {N : NG} {v w s s' : Nat → Int32} {p a : Nat} (hN : NOK N) (hl : Len M) (hC : Cg M M N) (hM : ∀ l, l < nL N → mI M 601 0 l = v l) (hS : ∀ l, l < nL N → mI M 602 0 l = s l) (h7 : mI M 5 0 7 = nI (sumTo (fun l => i2n (s l)) (nL N))) (ha : a < nH N p)
    (e2 : ∀ l, l < nL N → w l = v l + nI (gvA N p a l)) (es : ∀ l, l < nL N → nF N l = p → s' l = if w l ≤ s l then s l else w l) (en : ∀ l, l < nL N → ¬ nF N l = p → s' l = s l) :
    Ok (fX5_step_l49 p (nI a) FU (nx (nF N) p (nL N) 0) M) (fun m => Fr [601, 602, 60007] M m ∧ (∀ l, l < nL N → mI m 601 0 l = w l) ∧ (∀ l, l < nL N → mI m 602 0 l = s' l) ∧ mI m 5 0 7 = nI (sumTo (fun l => i2n (s' l)) (nL N))) := by
  have hb := hN.1
  refine loopC0 (fun n r m => fX5_step_l49 p (nI a) n r m) (nF N) p (nL N) (fun i m => Fr [601, 602, 60007] M m ∧ (∀ l, l < nL N → mI m 601 0 l = (if l < i then w l else v l)) ∧ (∀ l, l < nL N → mI m 602 0 l = (if l < i then s' l else s l)) ∧ mI m 5 0 7 = nI (sumTo (fun l => i2n (if l < i then s' l else s l)) (nL N))) _ hb.2 ?_ ?_ ?_ M ⟨Fr.refl, fun l hl => by rw [if_neg (by omega)]; exact hM l hl, fun l hl => by rw [if_neg (by omega)]; exact hS l hl, by rw [h7]; congr 1⟩
  · rintro n m ⟨F, h1, h2, h3⟩
    rw [fX5_step_l49, if_pos rfl]
    refine ok_some ⟨F, fun l hl => by rw [h1 l hl, if_pos hl], fun l hl => by rw [h2 l hl, if_pos hl], ?_⟩
    rw [h3]; congr 1
    exact sumTo_congr (fun l hl => by rw [if_pos hl])
  · rintro i m hi hne ⟨F, h1, h2, h3⟩
    have q1 : w i = v i := by rw [e2 i hi, gvA, if_neg hne]; exact Int32.add_zero _
    have q2 : s' i = s i := en i hi hne
    refine ⟨F, fun l hl => ?_, fun l hl => ?_, ?_⟩
    · rw [h1 l hl]
      by_cases e : l = i
      · subst e; rw [if_neg (by omega), if_pos (by omega), q1]
      · by_cases q : l < i
        · rw [if_pos q, if_pos (by omega)]
        · rw [if_neg q, if_neg (by omega)]
    · rw [h2 l hl]
      by_cases e : l = i
      · subst e; rw [if_neg (by omega), if_pos (by omega), q2]
      · by_cases q : l < i
        · rw [if_pos q, if_pos (by omega)]
        · rw [if_neg q, if_neg (by omega)]
    · rw [h3]; congr 1
      refine sumTo_congr (fun l hl => ?_)
      by_cases e : l = i
      · subst e; rw [if_neg (by omega), if_pos (by omega), q2]
      · by_cases q : l < i
        · rw [if_pos q, if_pos (by omega)]
        · rw [if_neg q, if_neg (by omega)]
  · rintro n i m hi he ⟨F, h1, h2, h3⟩ kk
    have hCm := hC.fr F (by decide)
    have cl := (hCm.2.2.1 i hi).1
    have i1 := h1 i hi
    have i2 := h2 i hi
    rw [if_neg (Nat.lt_irrefl _)] at i1 i2
    have eg : gvA N p a i = nG N i a := if_pos he
    have e2i := e2 i hi
    have esi := es i hi he
    rw [fX5_step_l49, if_neg (by simp), Option.bind_some, cl.2.1, F.n, ln601 hl, chk_nI (by omega) (by omega), cGives hN hCm hi (by rw [he]; exact ha), Option.bind_some, bnd_eq, nI_clamp (by omega), i1, ← eg, ← e2i, chk_nI (by omega) (by omega), bnd_eq]
    have F1 : Fr [601, 602, 60007] M (sI m 601 0 i (w i)) := F.wI (by decide)
    have v1 : ∀ l, l < nL N → mI (sI m 601 0 i (w i)) 601 0 l = (if l < i + 1 then w l else v l) := fun l hl' => by
      rw [mI_sI]
      by_cases e : l = i
      · rw [if_pos ⟨rfl, rfl, e⟩, if_pos (by omega), e]
      · rw [if_neg (fun z => e z.2.2), h1 l hl']
        by_cases q : l < i
        · rw [if_pos q, if_pos (by omega)]
        · rw [if_neg q, if_neg (by omega)]
    have v2 : ∀ l, mI (sI m 601 0 i (w i)) 602 0 l = mI m 602 0 l := fun l => by rw [mI_sI, if_neg (by simp)]
    have v3 : mI (sI m 601 0 i (w i)) 5 0 7 = mI m 5 0 7 := by rw [mI_sI, if_neg (by simp)]
    generalize sI m 601 0 i (w i) = mm at *
    have cl1 := ((hC.fr F1 (by decide)).2.2.1 i hi).1.2.1
    rw [cl1, F1.n, ln602 hl, chk_nI (by omega) (by omega), nI_clamp (by omega), v2, i2]
    refine ok_call (P := fun m3 => Fr [601, 602, 60007] M m3 ∧ (∀ l, l < nL N → mI m3 601 0 l = (if l < i + 1 then w l else v l)) ∧ (∀ l, l < nL N → mI m3 602 0 l = (if l < i + 1 then s' l else s l)) ∧ mI m3 5 0 7 = nI (sumTo (fun l => i2n (if l < i + 1 then s' l else s l)) (nL N))) ?_ ?_
    · by_cases c : w i ≤ s i
      · rw [if_pos c]
        have q2 : s' i = s i := by rw [esi, if_pos c]
        refine ok_some ⟨F1, v1, fun l hl => ?_, ?_⟩
        · rw [v2, h2 l hl]
          by_cases e : l = i
          · subst e; rw [if_neg (by omega), if_pos (by omega), q2]
          · by_cases q : l < i
            · rw [if_pos q, if_pos (by omega)]
            · rw [if_neg q, if_neg (by omega)]
        · rw [v3, h3]; congr 1
          refine sumTo_congr (fun l hl => ?_)
          by_cases e : l = i
          · subst e; rw [if_neg (by omega), if_pos (by omega), q2]
          · by_cases q : l < i
            · rw [if_pos q, if_pos (by omega)]
            · rw [if_neg q, if_neg (by omega)]
      · have q2 : s' i = w i := by rw [esi, if_neg c]
        have es2 : nI (sumTo (fun l => i2n (if l < i + 1 then s' l else s l)) (nL N)) = nI (sumTo (fun l => i2n (if l < i then s' l else s l)) (nL N)) + (w i - s i) := by
          have hh := sum_swapI (f := fun l => i2n (if l < i then s' l else s l)) (g := fun l => i2n (if l < i + 1 then s' l else s l)) hi (fun j hj hne => by
            show i2n (if j < i + 1 then s' j else s j) = i2n (if j < i then s' j else s j)
            by_cases q : j < i
            · rw [if_pos q, if_pos (by omega)]
            · rw [if_neg q, if_neg (by omega)])
          rw [hh]
          show _ + (nI (i2n (if i < i + 1 then s' i else s i)) - nI (i2n (if i < i then s' i else s i))) = _
          rw [if_pos (by omega), if_neg (by omega), i2n_nI, i2n_nI, q2]
        rw [if_neg c, chk_nI (by omega) (by omega), bnd_eq, v3, h3, ← es2]
        have F2 : Fr [601, 602, 60007] M (sI mm 5 0 7 (nI (sumTo (fun l => i2n (if l < i + 1 then s' l else s l)) (nL N)))) := F1.wIo (by decide)
        have cl2 := ((hC.fr F2 (by decide)).2.2.1 i hi).1.2.1
        rw [cl2, F2.n, ln602 hl, chk_nI (by omega) (by omega), bnd_eq, nI_clamp (by omega)]
        refine ok_some ⟨F2.wI (by decide), fun l hl => ?_, fun l hl => ?_, ?_⟩
        · rw [mI_sI, if_neg (by simp), mI_sI, if_neg (by simp)]; exact v1 l hl
        · rw [mI_sI]
          by_cases e : l = i
          · rw [if_pos ⟨rfl, rfl, e⟩, if_pos (by omega), e, q2]
          · rw [if_neg (fun z => e z.2.2), mI_sI, if_neg (by simp), v2, h2 l hl]
            by_cases q : l < i
            · rw [if_pos q, if_pos (by omega)]
            · rw [if_neg q, if_neg (by omega)]
        · rw [mI_sI, if_neg (by simp), mI_sI, if_pos ⟨rfl, rfl, rfl⟩]
    · rintro m3 ⟨F3, k1, k2, k3⟩
      rw [bnd_eq, ((hC.fr F3 (by decide)).2.2.1 i hi).1.2.2.2.2.2.2, he]
      exact kk m3 ⟨F3, k1, k2, k3⟩
/-- the class's marks, stores and phases along an order -/
def RO (M : tM) (N : NG) (od : Nat → Nat) (k : Nat) : Prop := (∀ l, l < nL N → mI M 601 0 l = vO N od l k) ∧ (∀ l, l < nL N → mI M 602 0 l = stO N od l k) ∧ (∀ p, p < nP N → mI M 604 0 p = nI (cO od k p % nH N p)) ∧ mI M 5 0 7 = nI (sumTo (fun l => i2n (stO N od l k)) (nL N))
theorem RO.fr {ks : List Nat} {M M2 : tM} {N : NG} {od : Nat → Nat} {k : Nat} (h : RO M N od k) (F : Fr ks M M2) (hd : disj ks [5, 601, 602, 604, 60007] = true) : RO M2 N od k := by
  obtain ⟨h1, h2, h3, h4⟩ := h
  refine ⟨fun l hl => (F.gI hd 601 (by decide) _ _).trans (h1 l hl), fun l hl => (F.gI hd 602 (by decide) _ _).trans (h2 l hl), fun p hp => (F.gI hd 604 (by decide) _ _).trans (h3 p hp), ?_⟩
  rw [← h4]
  exact F.hI hd 5 7 (by decide) 0
theorem c_stepR {M : tM} {N : NG} {od : Nat → Nat} {k : Nat} (hN : NOK N) (hl : Len M) (hC : Cg M M N) (hR : RO M N od k) (hk : k ≤ 2000) (ho : ∀ i, i < k + 1 → od i < nP N) :
    Ok (fX5_step (some (od k)) M) (fun m => Fr kK M m ∧ RO m N od (k + 1)) := by
  have hb := hN.1
  obtain ⟨m1, m2, m4, m7⟩ := hR
  have hp := ho k (by omega)
  have cp := (hC.2.1 _ hp).1
  obtain ⟨ha, ha4⟩ := ph_lt hN hp (cO od k (od k))
  rw [fX5_step, Option.bind_some, cp.2.1, ln604 hl, chk_nI (by omega) (by omega), bnd_eq, nI_clamp (by omega), m4 _ hp, bnd_eq, cp.2.2.2.2.2.1]
  refine ok_call (c_sl15R hN hl hC m1 ha) ?_
  rintro M1 ⟨F1, k1⟩
  have hC1 := hC.fr F1 (by decide)
  rw [bnd_eq, (hC1.2.1 _ hp).1.2.2.2.2.2.2.2.1]
  refine ok_call (c_sl49R (w := fun l => vO N od l (k + 1)) (s := fun l => stO N od l k) (s' := fun l => stO N od l (k + 1)) hN (hl.fr F1) hC1 k1 (fun l hl' => (F1.aI (by decide)).trans (m2 l hl')) ((F1.oI (by decide)).trans m7) ha (fun l hl' => rfl) (fun l hl' e => rfl) (fun l hl' e => st_ne hN hl' hk ho e)) ?_
  rintro M2 ⟨F2, k2, k3, k4⟩
  have F3 : Fr [601, 602, 60007] M M2 := (F1.mono (by decide)).step F2 (by decide)
  have hC2 := hC.fr F3 (by decide)
  rw [c_phase hN hC2 hp, Option.bind_some, (hC2.2.1 _ hp).1.2.1, F3.n, ln604 hl, chk_nI (by omega) (by omega), bnd_eq, nI_clamp (by omega)]
  have F4 : Fr [604] M2 (sI M2 604 0 (od k) (nI ((cO od k (od k) + 1) % nH N (od k)))) := Fr.refl.wI (by decide)
  have w4 : ∀ q, q < nP N → mI (sI M2 604 0 (od k) (nI ((cO od k (od k) + 1) % nH N (od k)))) 604 0 q = nI (cO od (k + 1) q % nH N q) := fun q hq => by
    rw [mI_sI, ph_next]
    by_cases e : q = od k
    · rw [if_pos ⟨rfl, rfl, e⟩, if_pos e, e]
    · rw [if_neg (fun z => e z.2.2), if_neg e, F3.aI (by decide)]; exact m4 q hq
  generalize sI M2 604 0 (od k) (nI ((cO od k (od k) + 1) % nH N (od k))) = M4 at *
  have G4 : Fr [601, 602, 604, 60007] M M4 := (F3.mono (by decide)).step F4 (by decide)
  rw [bnd_eq, ((hC.fr G4 (by decide)).2.1 _ hp).1.2.1, G4.n, ln603 hl, chk_nI (by omega) (by omega), chk_nI (by omega) (by omega), bnd_eq, bnd_eq, bnd_eq]
  have F7 : Fr [603, 60006, 60008] M4 (sI (sI (sI M4 603 0 (nI (od k)).toNatClampNeg (mI M4 603 0 (nI (od k)).toNatClampNeg - 1)) 5 0 6 (mI (sI M4 603 0 (nI (od k)).toNatClampNeg (mI M4 603 0 (nI (od k)).toNatClampNeg - 1)) 5 0 6 - 1)) 5 0 8 (mI (sI (sI M4 603 0 (nI (od k)).toNatClampNeg (mI M4 603 0 (nI (od k)).toNatClampNeg - 1)) 5 0 6 (mI (sI M4 603 0 (nI (od k)).toNatClampNeg (mI M4 603 0 (nI (od k)).toNatClampNeg - 1)) 5 0 6 - 1)) 5 0 8 + 1)) := ((Fr.refl.wI (by decide)).wIo (by decide)).wIo (by decide)
  generalize sI (sI (sI M4 603 0 (nI (od k)).toNatClampNeg (mI M4 603 0 (nI (od k)).toNatClampNeg - 1)) 5 0 6 (mI (sI M4 603 0 (nI (od k)).toNatClampNeg (mI M4 603 0 (nI (od k)).toNatClampNeg - 1)) 5 0 6 - 1)) 5 0 8 (mI (sI (sI M4 603 0 (nI (od k)).toNatClampNeg (mI M4 603 0 (nI (od k)).toNatClampNeg - 1)) 5 0 6 (mI (sI M4 603 0 (nI (od k)).toNatClampNeg (mI M4 603 0 (nI (od k)).toNatClampNeg - 1)) 5 0 6 - 1)) 5 0 8 + 1) = M7 at *
  have G7 : Fr [601, 602, 603, 604, 60006, 60007, 60008] M M7 := (G4.mono (by decide)).step F7 (by decide)
  rw [((hC.fr G7 (by decide)).2.1 _ hp).1.2.1, G7.n, ln605 hl, chk_nI (by omega) (by omega), bnd_eq]
  have F9 : Fr [605] M7 (sI M7 605 0 (nI (od k)).toNatClampNeg (mI M7 5 0 8)) := Fr.refl.wI (by decide)
  have R4 : RO M4 N od (k + 1) := ⟨fun l hl' => (F4.aI (by decide)).trans (k2 l hl'), fun l hl' => (F4.aI (by decide)).trans (k3 l hl'), w4, (F4.oI (by decide)).trans k4⟩
  exact ok_some ⟨(G7.mono (by decide)).step F9 (by decide), (R4.fr F7 (by decide)).fr F9 (by decide)⟩
theorem c_settleR {M : tM} {N : NG} {od : Nat → Nat} {k z : Nat} (hN : NOK N) (hl : Len M) (hR : RO M N od k) (hz : z ≤ 2000) :
    Ok (fX8_settle (nI z) M) (fun w => Fr [904, 905, 90003] M w.2 ∧ w.1 = nI (sumTo (fun l => i2n (stO N od l k)) (nL N)) ∧ mI w.2 8 0 3 = nI z ∧ (∀ l, l < nL N → mI w.2 904 0 l = stO N od l k) ∧ ∀ t, t < 4 → mI w.2 905 0 t = 0) := by
  have hb := hN.1
  rw [fX8_settle, ln902 hl, min_l hz (by omega), Option.bind_some, bnd_eq]
  have F0 : Fr [90003] M (sI M 8 0 3 (nI z)) := Fr.refl.wIo (by decide)
  have v0 : mI (sI M 8 0 3 (nI z)) 8 0 3 = nI z := by rw [mI_sI, if_pos ⟨rfl, rfl, rfl⟩]
  generalize sI M 8 0 3 (nI z) = M0 at *
  rw [F0.n, F0.n, ln904 hl, ln602 hl, chk_tr (cpok_0 (n := 20) (by omega) (by omega) (by omega)), bnd_eq, nI_clamp (by omega), cl0]
  have F1 : Fr [904] M0 (cI M0 904 0 (va_cpy (mI M0 602 0) (mI M0 904 0) 0 0 20)) := Fr.refl.vI (by decide)
  have v1 : ∀ l, l < nL N → mI (cI M0 904 0 (va_cpy (mI M0 602 0) (mI M0 904 0) 0 0 20)) 904 0 l = stO N od l k := fun l hl' => by
    rw [mI_cI, if_pos ⟨rfl, rfl⟩, cpy0 (by omega), F0.aI (by decide)]; exact hR.2.1 l hl'
  generalize cI M0 904 0 (va_cpy (mI M0 602 0) (mI M0 904 0) 0 0 20) = M1 at *
  have G1 : Fr [904, 90003] M M1 := (F0.mono (by decide)).step F1 (by decide)
  rw [fX8_beginThreads]
  refine ok_call (P := fun m => Fr [905] M1 m ∧ ∀ j, j < 4 → mI m 905 0 j = 0) ?_ ?_
  · refine ok_call (s_fill (k := 905) (i := 0) (n := 4) (v := 0) (by decide) (by decide) (by decide) ((G1.n _ _).trans (ln905 hl)) (by decide)) ?_
    rintro m ⟨F, h, -⟩
    exact ok_some ⟨F, h⟩
  · rintro M2 ⟨F2, h⟩
    have G2 : Fr [904, 905, 90003] M M2 := (G1.mono (by decide)).step F2 (by decide)
    refine ok_some ⟨G2, ?_, ?_, fun l hl' => ?_, h⟩
    · exact (G2.oI (by decide)).trans hR.2.2.2
    · exact (F2.oI (by decide)).trans ((F1.oI (by decide)).trans v0)
    · exact (F2.aI (by decide)).trans (v1 l hl')
/-- the order that stands in 902 is taken on -/
theorem c_adoptR {M : tM} {N : NG} {R od : Nat → Nat} {d : Nat} (hN : NOK N) (hl : Len M) (hC : Cg M M N) (hR : ∀ p, p < nP N → mI M 7 p 6 = nI (R p)) (h4 : mI M 1 0 4 = nI (sumTo R (nP N))) (hd2 : d ≤ 2000) (ho : ∀ i, i < d → od i < nP N ∧ mI M 902 0 i = nI (od i)) :
    Ok (fX8_adopt 902 0 (nI d) M) (fun w => Fr kAd M w.2 ∧ w.1 = nI (sumTo (fun l => i2n (stO N od l d)) (nL N)) ∧ mI w.2 8 0 3 = nI d ∧ (∀ i, i < d → mI w.2 902 0 i = nI (od i)) ∧ (∀ l, l < nL N → mI w.2 904 0 l = stO N od l d) ∧ ∀ t, t < 4 → mI w.2 905 0 t = 0) := by
  have hb := hN.1
  rw [fX8_adopt]
  refine ok_call (c_begin hN hl hC hR h4) ?_
  rintro M1 ⟨F1, k1, k2⟩
  have hR0 : RO M1 N od 0 := by
    refine ⟨fun l hl' => ?_, fun l hl' => (k2.1 l hl').1, fun p hp => (k1.2.1 p hp).2, ?_⟩
    · rw [k1.1 l hl', mk_0]; rfl
    · rw [k2.2.1]; congr 1
      refine sumTo_congr (fun l hl' => ?_)
      have hs := (hN.2.2.1 l hl').2.2
      show nS N l = i2n (nI (nS N l))
      rw [i2n]
      show nS N l = (BitVec.ofNat 32 (nS N l)).toNat
      rw [BitVec.toNat_ofNat, Nat.mod_eq_of_lt (by omega)]
  have key : Ok (fX8_adopt_l9 902 0 (nI d) FU 0 M1) (fun m => Fr kAd M m ∧ RO m N od d ∧ ∀ j, j < d → mI m 902 0 j = nI (od j)) := by
    refine loop0 (fun n i m => fX8_adopt_l9 902 0 (nI d) n i m) d (fun i m => Fr kAd M m ∧ RO m N od i ∧ ∀ j, j < d → mI m 902 0 j = nI (od j)) _ (by omega) ?_ ?_ M1 ⟨F1.mono (by decide), hR0, fun j hj => (F1.aI (by decide)).trans (ho j hj).2⟩
    · rintro n m ⟨F, h3, h5⟩
      rw [fX8_adopt_l9, if_pos (nI_le (Nat.le_refl _) (by omega))]
      exact ok_some ⟨F, h3, h5⟩
    · rintro n i m hi ⟨F, h3, h5⟩ kk
      obtain ⟨o1, -⟩ := ho i hi
      have o2 := h5 i hi
      rw [fX8_adopt_l9, if_neg (nI_ge hi (by omega)), chk_tr (by decide), chk_tr (by decide), F.n, ln902 hl, if_neg (nI_ge (show i < 2000 by omega) (by omega)), if_neg (nI_ge (show i < 2000 by omega) (by omega)), chk_tr (by decide), chk_nI (by omega) (by omega), chk_nI (by omega) (by omega), bnd_eq, nI_clamp (by omega), o2]
      have F2 : Fr [902] m (sI m 902 0 i (nI (od i))) := Fr.refl.wI (by decide)
      have v5 : ∀ j, j < d → mI (sI m 902 0 i (nI (od i))) 902 0 j = nI (od j) := fun j hj => by
        rw [mI_sI]
        by_cases e : j = i
        · rw [if_pos ⟨rfl, rfl, e⟩, e]
        · rw [if_neg (fun z => e z.2.2)]; exact h5 j hj
      generalize sI m 902 0 i (nI (od i)) = m1 at *
      have G : Fr kAd M m1 := F.step F2 (by decide)
      have hC1 := hC.fr G (by decide)
      rw [chk_tr (by decide), G.n, ln902 hl, chk_nI (by omega) (by omega), v5 i hi, cPart_in hN (hl.fr G) hC1 o1, Option.bind_some, if_neg (by simp)]
      refine ok_call (P := fun m2 => Fr kAd M m2 ∧ RO m2 N od (i + 1) ∧ ∀ j, j < d → mI m2 902 0 j = nI (od j)) ?_ ?_
      · refine ok_call (c_stepR (k := i) hN (hl.fr G) hC1 (h3.fr F2 (by decide)) (by omega) (fun j hj => (ho j (by omega)).1)) ?_
        rintro m2 ⟨F3, g1⟩
        exact ok_some ⟨G.step F3 (by decide), g1, fun j hj => (F3.aI (by decide)).trans (v5 j hj)⟩
      · rintro m2 h
        rw [bnd_eq, nI_1]
        exact kk m2 h
  refine ok_call key ?_
  rintro M2 ⟨F2, h3, h5⟩
  refine ok_call (c_settleR hN (hl.fr F2) h3 hd2) ?_
  rintro ⟨x, M3⟩ ⟨F3, g1, g2, g3, g4⟩
  exact ok_some ⟨F2.step F3 (by decide), g1, g2, fun i hi => (F3.aI (by decide)).trans (h5 i hi), g3, g4⟩
/-- the model's stores after a FIRING -/
theorem m_storeR {X : tM} {N : NG} {v s : Nat → Int32} (hN : NOK N) (hl : Len X) (hG : Gr X N) (hm : ∀ l, l < nL N → mI X 1238 0 l = v l) (hs : ∀ l, l < nL N → mI X 1246 0 l = s l) : Ok (fX11_storeMore X) (fun X' => Fr [1246] X X' ∧ ∀ l, l < nL N → mI X' 1246 0 l = if v l ≤ s l then s l else v l) := by
  have hb := hN.1
  rw [fX11_storeMore]
  refine ok_call (P := fun X' => Fr [1246] X X' ∧ ∀ l, l < nL N → mI X' 1246 0 l = if v l ≤ s l then s l else v l) ?_ (fun _ h => ok_some h)
  refine loop0 (fun n i X' => fX11_storeMore_l2 n i X') (nL N) (fun i X' => Fr [1246] X X' ∧ ∀ l, l < nL N → mI X' 1246 0 l = (if l < i then (if v l ≤ s l then s l else v l) else s l)) _ (by omega) ?_ ?_ X ⟨Fr.refl, fun l hl => by rw [if_neg (by omega)]; exact hs l hl⟩
  · rintro n X' ⟨F, h⟩
    rw [fX11_storeMore_l2, F.oI (by decide), hG.1.2, if_pos (nI_le (Nat.le_refl _) (by omega))]
    exact ok_some ⟨F, fun l hl => by rw [h l hl, if_pos hl]⟩
  · rintro n i X' hi ⟨F, h⟩ kk
    have hi' := h i hi
    rw [if_neg (Nat.lt_irrefl _)] at hi'
    rw [fX11_storeMore_l2, F.oI (by decide), hG.1.2, if_neg (nI_ge hi (by omega)), F.n, ln1238 hl, chk_nI (by omega) (by omega), F.n, ln1246 hl, chk_nI (by omega) (by omega), nI_clamp (by omega), F.aI (by decide), hm i hi, hi']
    refine ok_call (P := fun x => x = (if v i ≤ s i then s i else v i)) ?_ ?_
    · by_cases c : v i ≤ s i
      · rw [if_pos c, if_pos c, chk_nI (by omega) (by omega)]
        exact ok_some rfl
      · rw [if_neg c, if_neg c, chk_nI (by omega) (by omega)]
        exact ok_some rfl
    · rintro _ rfl
      rw [chk_nI (by omega) (by omega), bnd_eq, bnd_eq, nI_1]
      refine kk _ ⟨F.wI (by decide), fun l hl' => ?_⟩
      rw [mI_sI]
      by_cases e : l = i
      · rw [if_pos ⟨rfl, rfl, e⟩, if_pos (show l < i + 1 by omega), e]
      · rw [if_neg (fun z => e z.2.2), h l hl']
        by_cases q : l < i
        · rw [if_pos q, if_pos (show l < i + 1 by omega)]
        · rw [if_neg q, if_neg (by omega)]
theorem m_l78 {X : tM} {N : NG} {od : Nat → Nat} {z : Nat} (hN : NOK N) (hl : Len X) (hG : Gr X N) (hz : z ≤ 2000) (ho : ∀ i, i < z → od i < nP N ∧ mI X 1245 0 i = nI (od i)) (h1 : ∀ l, l < nL N → mI X 1238 0 l = nI (nS N l)) (h2 : ∀ p, p < nP N → mI X 1239 0 p = 0) (h3 : ∀ l, l < nL N → mI X 1246 0 l = nI (nS N l)) :
    Ok (fX11_once_l78 (nI z) FU 0 X) (fun m => Fr [1238, 1239, 1240, 1246] X m ∧ S46 m N (fun l => i2n (stO N od l z))) := by
  have hb := hN.1
  refine loop0 (fun n i m => fX11_once_l78 (nI z) n i m) z (fun i m => Fr [1238, 1239, 1240, 1246] X m ∧ (∀ l, l < nL N → mI m 1238 0 l = vO N od l i) ∧ (∀ p, p < nP N → mI m 1239 0 p = nI (cO od i p % nH N p)) ∧ ∀ l, l < nL N → mI m 1246 0 l = stO N od l i) _ (by omega) ?_ ?_ X ⟨Fr.refl, h1, fun p hp => by rw [h2 p hp]; show 0 = nI (0 % nH N p); rw [Nat.zero_mod]; rfl, h3⟩
  · rintro n m ⟨F, k1, k2, k3⟩
    rw [fX11_once_l78, if_pos (nI_le (Nat.le_refl _) (by omega))]
    exact ok_some ⟨F, fun l hl' => by rw [k3 l hl']; exact (i2n_nI _).symm⟩
  · rintro n i m hi ⟨F, k1, k2, k3⟩ kk
    obtain ⟨o1, o2⟩ := ho i hi
    obtain ⟨ha, ha4⟩ := ph_lt hN o1 (cO od i (od i))
    rw [fX11_once_l78, if_neg (nI_ge hi (by omega)), F.n, ln1245 hl, chk_nI (by omega) (by omega), nI_clamp (by omega), F.aI (k := 1245) (by decide), o2]
    refine ok_call (m_fireR hN (hl.fr F) (hG.fr F (by decide)) k1 (k2 _ o1) ha ha4 o1) ?_
    rintro m2 ⟨F2, g1, g2, g3⟩
    have G2 : Fr [1238, 1239, 1240, 1246] X m2 := F.step F2 (by decide)
    refine ok_call (m_storeR (v := fun l => vO N od l (i + 1)) (s := fun l => stO N od l i) hN (hl.fr G2) (hG.fr G2 (by decide)) g1 (fun l hl' => (F2.aI (by decide)).trans (k3 l hl'))) ?_
    rintro m3 ⟨F3, g4⟩
    rw [bnd_eq, nI_1]
    refine kk m3 ⟨G2.step F3 (by decide), fun l hl' => (F3.aI (by decide)).trans (g1 l hl'), fun p hp => ?_, g4⟩
    rw [F3.aI (by decide), ph_next]
    by_cases e : p = od i
    · rw [if_pos e, e, g2, Nat.mod_add_mod]
    · rw [if_neg e, g3 p e]; exact k2 p hp
