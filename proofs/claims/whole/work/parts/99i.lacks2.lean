/-! lacks, the class's -/
theorem c_maxd {a b : Nat} {M : tM} (ha : a < 2 ^ 30) (hb : b < 2 ^ 30) : fJ9_max_7cf53 0 (nI a - nI b) M = some (nI (a - b)) := by
  by_cases h : b ≤ a
  · rw [pk_sub h, max_r (by omega)]
  · have e := pk_sub_toInt (a := a) (b := b) ha hb
    have z : (0 : Int32).toInt = 0 := by decide
    rw [fJ9_max_7cf53, show a - b = 0 by omega]
    split <;> first | rfl | (exfalso; simp only [Int32.le_iff_toInt_le, Int32.lt_iff_toInt_lt, e, z] at *; omega)
def kLc : List Nat := [302, 601, 602, 603, 604, 605, 60006, 60007, 60008]
def L302 (M : tM) (N : NG) (lk : Nat → Nat) : Prop := ∀ l, l < nL N → mI M 302 0 l = nI (lk l)
theorem c_fl62 {M : tM} {N : NG} {lk fs c : Nat → Nat} {p a : Nat} {z1 : Int32} (hN : NOK N) (hl : Len M) (hC : Cg M M N) (hp : p < nP N) (hM : ∀ l, l < nL N → mI M 601 0 l = nI (mk N fs c l) ∧ mk N fs c l ≤ 1050000) (h3 : L302 M N lk) (ha : a < nH N p) (ha4 : a < 4) :
    Ok (fX2_fill_l62 z1 (nI a) FU (nx (nT N) p (nL N) 0) M) (fun m => Fr [302, 601] M m ∧ (∀ l, l < nL N → mI m 601 0 l = nI (mk N fs c l + (tkA N p a l - mk N fs c l))) ∧ L302 m N (fun l => lk l + (tkA N p a l - mk N fs c l))) := by
  have hb := hN.1
  refine loopC0 (fun n r m => fX2_fill_l62 z1 (nI a) n r m) (nT N) p (nL N) (fun i m => Fr [302, 601] M m ∧ (∀ l, l < nL N → mI m 601 0 l = nI (if l < i then mk N fs c l + (tkA N p a l - mk N fs c l) else mk N fs c l)) ∧ ∀ l, l < nL N → mI m 302 0 l = nI (if l < i then lk l + (tkA N p a l - mk N fs c l) else lk l)) _ hb.2 ?_ ?_ ?_ M ⟨Fr.refl, fun l hl => by rw [if_neg (by omega)]; exact (hM l hl).1, fun l hl => by rw [if_neg (by omega)]; exact h3 l hl⟩
  · rintro n m ⟨F, h1, h2⟩
    rw [fX2_fill_l62, if_pos rfl]
    exact ok_some ⟨F, fun l hl => by rw [h1 l hl, if_pos hl], fun l hl => by rw [h2 l hl, if_pos hl]⟩
  · rintro i m hi hne ⟨F, h1, h2⟩
    have e0 : tkA N p a i = 0 := if_neg hne
    refine ⟨F, fun l hl => ?_, fun l hl => ?_⟩
    · rw [h1 l hl]
      by_cases e : l = i
      · subst e; rw [if_neg (by omega), if_pos (by omega), e0]; congr 1; omega
      · by_cases q : l < i
        · rw [if_pos q, if_pos (by omega)]
        · rw [if_neg q, if_neg (by omega)]
    · rw [h2 l hl]
      by_cases e : l = i
      · subst e; rw [if_neg (by omega), if_pos (by omega), e0]; congr 1; omega
      · by_cases q : l < i
        · rw [if_pos q, if_pos (by omega)]
        · rw [if_neg q, if_neg (by omega)]
  · rintro n i m hi he ⟨F, h1, h2⟩ kk
    have hCm := hC.fr F (by decide)
    have cl := (hCm.2.2.1 i hi).1
    have i1 := h1 i hi
    have i2 := h2 i hi
    rw [if_neg (Nat.lt_irrefl _)] at i1 i2
    have ek : tkA N p a i = nK N i a := if_pos he
    have hk50 := (hN.2.2.2 i a hi ha4).2.1
    have ob := (hM i hi).2
    rw [fX2_fill_l62, if_neg (by simp), Option.bind_some, cTakes hN hCm hi (by rw [he]; exact ha), Option.bind_some, cl.2.1, F.n, ln601 hl, chk_nI (by omega) (by omega), nI_clamp (by omega), i1, ← ek, c_maxd (by omega) (by omega), Option.bind_some, bnd_eq, F.n, ln302 hl, chk_nI (by omega) (by omega), chk_nI (by omega) (by omega), bnd_eq, nI_clamp (by omega), i2, nI_add]
    have F1 : Fr [302, 601] M (sI m 302 0 i (nI (lk i + (tkA N p a i - mk N fs c i)))) := F.wI (by decide)
    have v1 : ∀ l, mI (sI m 302 0 i (nI (lk i + (tkA N p a i - mk N fs c i)))) 601 0 l = mI m 601 0 l := fun l => by rw [mI_sI, if_neg (by simp)]
    have v2 : ∀ l, l < nL N → mI (sI m 302 0 i (nI (lk i + (tkA N p a i - mk N fs c i)))) 302 0 l = nI (if l < i + 1 then lk l + (tkA N p a l - mk N fs c l) else lk l) := fun l hl' => by
      rw [mI_sI]
      by_cases z : l = i
      · rw [if_pos ⟨rfl, rfl, z⟩, if_pos (by omega), z]
      · rw [if_neg (fun y => z y.2.2), h2 l hl']
        by_cases q : l < i
        · rw [if_pos q, if_pos (by omega)]
        · rw [if_neg q, if_neg (by omega)]
    generalize sI m 302 0 i (nI (lk i + (tkA N p a i - mk N fs c i))) = m1 at *
    rw [bnd_eq, ((hC.fr F1 (by decide)).2.2.1 i hi).1.2.1, F1.n, ln601 hl, chk_nI (by omega) (by omega), chk_nI (by omega) (by omega), bnd_eq, nI_clamp (by omega), v1, i1, nI_add]
    have F2 : Fr [302, 601] M (sI m1 601 0 i (nI (mk N fs c i + (tkA N p a i - mk N fs c i)))) := F1.wI (by decide)
    rw [bnd_eq, ((hC.fr F2 (by decide)).2.2.1 i hi).1.2.2.2.2.2.1, he]
    refine kk _ ⟨F2, fun l hl' => ?_, fun l hl' => ?_⟩
    · rw [mI_sI]
      by_cases z : l = i
      · rw [if_pos ⟨rfl, rfl, z⟩, if_pos (by omega), z]
      · rw [if_neg (fun y => z y.2.2), v1, h1 l hl']
        by_cases q : l < i
        · rw [if_pos q, if_pos (by omega)]
        · rw [if_neg q, if_neg (by omega)]
    · rw [mI_sI, if_neg (by simp)]; exact v2 l hl'
theorem c_left {M : tM} {N : NG} {R fs c : Nat → Nat} (hN : NOK N) (hl : Len M) (hC : Cg M M N) (hM : MC M N R fs c) (hB : RB N R fs) : (∃ p, p < nP N ∧ c p < R p ∧ (∀ q, q < p → ¬ c q < R q) ∧ fX2_leastLeft M = some (some p)) ∨ ((∀ q, q < nP N → ¬ c q < R q) ∧ fX2_leastLeft M = some none) := by
  have hb := hN.1
  have key : Ok (fX2_leastLeft_l2 M FU 0) (fun w => (∃ p, p < nP N ∧ c p < R p ∧ (∀ q, q < p → ¬ c q < R q) ∧ w = .inl (some p)) ∨ ((∀ q, q < nP N → ¬ c q < R q) ∧ w = .inr ())) := by
    refine loop0 (fun n i (_ : Unit) => fX2_leastLeft_l2 M n i) (nP N) (fun i _ => ∀ q, q < i → ¬ c q < R q) _ (by omega) ?_ ?_ () (fun q hq => by omega)
    · intro n _ h
      rw [fX2_leastLeft_l2, hC.1.1, if_pos (nI_le (Nat.le_refl _) (by omega))]
      exact ok_some (Or.inr ⟨h, rfl⟩)
    · intro n i _ hi h kk
      have hR := hB.1 i hi
      rw [fX2_leastLeft_l2, hC.1.1, if_neg (nI_ge hi (by omega)), ln603 hl, chk_nI (by omega) (by omega), nI_clamp (by omega), (hM.2.1 i hi).1]
      by_cases r : c i < R i
      · rw [if_neg (nI_nle (by omega) (by omega)), ln200 hl, chk_nI (by omega) (by omega), bnd_eq, (hC.2.1 i hi).1.1]
        exact ok_some (Or.inl ⟨i, hi, r, h, rfl⟩)
      · rw [if_pos (show nI (R i - c i) ≤ 0 by rw [show R i - c i = 0 by omega]; decide), bnd_eq, nI_1]
        refine kk () (fun q hq => ?_)
        by_cases e : q = i
        · rw [e]; exact r
        · exact h q (by omega)
  obtain ⟨w, e, k⟩ := key
  rw [fX2_leastLeft, e, Option.bind_some]
  rcases k with ⟨p, h1, h2, h3, rfl⟩ | ⟨h1, rfl⟩
  · exact Or.inl ⟨p, h1, h2, h3, rfl⟩
  · exact Or.inr ⟨h1, rfl⟩
def FlQ (M : tM) (N : NG) (R lk : Nat → Nat) (m : tM) : Prop := Fr kLc M m ∧ ∃ k lk', FLn N R k (plusS N lk) (plusS N lk') ∧ L302 m N lk' ∧ ∀ l, l < nL N → lk' l ≤ 200000
theorem c_fl16 {N : NG} {R : Nat → Nat} (hN : NOK N) (hR : (∀ p, p < nP N → R p ≤ 1000) ∧ sumTo R (nP N) ≤ 2000) : ∀ d n i c lk M, sumTo (fun q => R q - c q) (nP N) ≤ d → d < n → i ≤ sumTo c (nP N) → (∀ l, l < nL N → lk l ≤ 50 * i) → Len M → Cg M M N → MCS M N R (plusS N lk) c → rch N R (plusS N lk) c → dead N R (plusS N lk) c → L302 M N lk →
    Ok (fX2_fill_l16 n (nI i) M) (fun w => ∃ m, (w = .inr m ∨ w = .inl m) ∧ FlQ M N R lk m) := by
  have hb := hN.1
  intro d
  induction d with
  | zero =>
    intro n i c lk M hd hn hi hlk hl hC hM hr hdd h3
    obtain ⟨n, rfl⟩ : ∃ m, n = m + 1 := ⟨n - 1, by omega⟩
    have hK := hM.2.1
    have hsc : sumTo c (nP N) ≤ 2000 := Nat.le_trans (sumTo_le (fun p hp => hK.1 p hp)) hR.2
    have hB : RB N R (plusS N lk) := ⟨hR.1, fun l hl' => by have := hlk l hl'; have := (hN.2.2.1 l hl').2.2; show nS N l + lk l ≤ 1000000; omega, hR.2⟩
    rw [fX2_fill_l16, if_neg (show ¬ (2000 : Int32) < nI i from nI_nlt (a := 2000) (by omega) (by omega)), hM.1.2.2, show sumTo (fun p => R p - c p) (nP N) = 0 by omega, if_pos (by decide)]
    exact ok_some ⟨M, Or.inl rfl, Fr.refl, 0, lk, ⟨rfl, c, hr, hdd, (left_0 hB).mp (by omega)⟩, h3, fun l hl' => by have := hlk l hl'; omega⟩
  | succ d ih =>
    intro n i c lk M hd hn hi hlk hl hC hM hr hdd h3
    obtain ⟨n, rfl⟩ : ∃ m, n = m + 1 := ⟨n - 1, by omega⟩
    have hK := hM.2.1
    have hsc : sumTo c (nP N) ≤ 2000 := Nat.le_trans (sumTo_le (fun p hp => hK.1 p hp)) hR.2
    have hB : RB N R (plusS N lk) := ⟨hR.1, fun l hl' => by have := hlk l hl'; have := (hN.2.2.1 l hl').2.2; show nS N l + lk l ≤ 1000000; omega, hR.2⟩
    have sr := sumR_le (c := c) hB
    rw [fX2_fill_l16, if_neg (show ¬ (2000 : Int32) < nI i from nI_nlt (a := 2000) (by omega) (by omega)), hM.1.2.2]
    by_cases z : sumTo (fun p => R p - c p) (nP N) ≤ 0
    · rw [show sumTo (fun p => R p - c p) (nP N) = 0 by omega, if_pos (by decide)]
      exact ok_some ⟨M, Or.inl rfl, Fr.refl, 0, lk, ⟨rfl, c, hr, hdd, (left_0 hB).mp z⟩, h3, fun l hl' => by have := hlk l hl'; omega⟩
    rw [if_neg (nI_nle (by omega) (by omega))]
    rcases c_left hN hl hC hM.1 hB with ⟨p, hp, c1, c2, e⟩ | ⟨c1, e⟩
    rotate_left
    · exact absurd ((left_0 hB).mpr c1) z
    have cp := (hC.2.1 p hp).1
    obtain ⟨ha, ha4⟩ := ph_lt hN hp (c p)
    rw [e, Option.bind_some, if_neg (by simp), Option.bind_some, cp.2.1, ln604 hl, chk_nI (by omega) (by omega), bnd_eq, nI_clamp (by omega), (hM.1.2.1 p hp).2, bnd_eq, cp.2.2.2.2.2.1]
    refine ok_call (c_fl62 hN hl hC hp (fun l hl' => ⟨hM.1.1 l hl', mk_le hN hB hK hl'⟩) h3 ha ha4) ?_
    rintro M1 ⟨F1, k1, k2⟩
    have es : sup N (plusS N lk) c p = plusS N (fun l => lk l + (tkA N p (c p % nH N p) l - mk N (plusS N lk) c l)) := funext fun l => by
      show nS N l + lk l + _ = nS N l + (lk l + _)
      omega
    have hms := fun l (hl : l < nL N) => mk_sup (p := p) hK hl
    have hen := en_sup hK c1
    have hr2 := rch_mono (fun l _ => sup_ge (N := N) (fs := plusS N lk) (c := c) (p := p) (l := l)) hr
    have hsl := fun l hl' => sup_le (fs := plusS N lk) (c := c) (l := l) hN hp hl'
    rw [es] at hms hen hr2 hsl
    have hK2 := rch_ok hr2
    obtain ⟨hM1, -, st, kk, la, hS⟩ := id hM
    generalize hlk2 : (fun l => lk l + (tkA N p (c p % nH N p) l - mk N (plusS N lk) c l)) = lk2 at *
    have hlk2' : ∀ l, l < nL N → lk2 l ≤ 50 * (i + 1) := fun l hl' => by
      have h1 := hlk l hl'
      have h2 : nS N l + lk2 l ≤ nS N l + lk l + 50 := hsl l hl'
      omega
    have hB2 : RB N R (plusS N lk2) := ⟨hR.1, fun l hl' => by have := hlk2' l hl'; have := (hN.2.2.1 l hl').2.2; show nS N l + lk2 l ≤ 1000000; omega, hR.2⟩
    have hM2 : MCS M1 N R (plusS N lk2) c := ⟨⟨fun l hl' => by rw [k1 l hl', hms l hl'], fun q hq => by rw [F1.aI (by decide), F1.aI (by decide)]; exact hM1.2.1 q hq, by rw [F1.oI (by decide)]; exact hM1.2.2⟩, hK2, st, kk, la, fun l hl' => by rw [F1.aI (by decide)]; exact hS.1 l hl', by rw [F1.oI (by decide)]; exact hS.2.1, by rw [F1.oI (by decide)]; exact hS.2.2.1, fun q hq => by rw [F1.aI (by decide)]; exact hS.2.2.2 q hq⟩
    refine ok_call (c_exhaust hN hB2 (hl.fr F1) (hC.fr F1 (by decide)) hM2) ?_
    rintro M2 ⟨F2, ps, g1, g2, g3⟩
    rw [bnd_eq, nI_1]
    have G : Fr kLc M M2 := (F1.mono (by decide)).step F2 (by decide)
    have hps : 0 < ps.length := by
      refine List.length_pos_iff.mpr (fun q => ?_)
      subst q
      exact g2 p hp hen
    have hs := sum_run g1
    have hKe := g3.2.1
    have hse : sumTo (fun q => R q - toRun c ps q) (nP N) + sumTo (toRun c ps) (nP N) = sumTo R (nP N) := by
      have : ∀ n, (∀ q, q < n → toRun c ps q ≤ R q) → sumTo (fun q => R q - toRun c ps q) n + sumTo (toRun c ps) n = sumTo R n := by
        intro n
        induction n with
        | zero => intro _; rfl
        | succ n ihn =>
          intro hq
          have h1 := ihn (fun q h => hq q (by omega))
          have h2 := hq n (by omega)
          rw [sumTo, sumTo, sumTo]
          show sumTo (fun q => R q - toRun c ps q) n + (R n - toRun c ps n) + _ = _
          omega
      exact this _ hKe.1
    have hs0 : sumTo (fun q => R q - c q) (nP N) + sumTo c (nP N) = sumTo R (nP N) := by
      have : ∀ n, (∀ q, q < n → c q ≤ R q) → sumTo (fun q => R q - c q) n + sumTo c n = sumTo R n := by
        intro n
        induction n with
        | zero => intro _; rfl
        | succ n ihn =>
          intro hq
          have h1 := ihn (fun q h => hq q (by omega))
          have h2 := hq n (by omega)
          rw [sumTo, sumTo, sumTo]
          show sumTo (fun q => R q - c q) n + (R n - c n) + _ = _
          omega
      exact this _ hK.1
    refine (ih n (i + 1) (toRun c ps) lk2 M2 (by omega) (by omega) (by omega) hlk2' (hl.fr G) (hC.fr G (by decide)) g3 (rch_run hr2 g1) g2 (fun l hl' => (F2.aI (by decide)).trans (k2 l hl'))).mono ?_
    rintro w ⟨m, hw, F3, k, lk', r1, r2⟩
    refine ⟨m, hw, G.step F3 (by decide), k + 1, lk', ⟨c, p, hr, hdd, hp, c1, c2, ?_⟩, r2⟩
    rw [es]; exact r1
theorem c_fill {M : tM} {N : NG} {R : Nat → Nat} (hN : NOK N) (hl : Len M) (hC : Cg M M N) (hr : rndOf N = .inl R) (hR : ∀ p, p < nP N → mI M 7 p 6 = nI (R p)) (h4 : mI M 1 0 4 = nI (sumTo R (nP N))) (h3 : L302 M N (fun _ => 0)) : Ok (fX2_fill M) (FlQ M N R (fun _ => 0)) := by
  have hB := RB_0 hN hr
  rw [fX2_fill]
  refine ok_call (c_begin hN hl hC hR h4) ?_
  rintro M1 ⟨F1, k1, k2⟩
  refine ok_call (c_exhaust hN hB (hl.fr F1) (hC.fr F1 (by decide)) ⟨k1, cOK_0 _ _ _, _, _, _, k2⟩) ?_
  rintro M2 ⟨F2, ps, g1, g2, g3⟩
  have G : Fr kLc M M2 := (F1.mono (by decide)).step F2 (by decide)
  have sr := sumR_le (c := toRun (fun _ => 0) ps) hB
  have := c_fl16 hN (rnd_le hr) 2000 FU 0 (toRun (fun _ => 0) ps) (fun _ => 0) M2 sr (FU_lt (by omega)) (Nat.zero_le _) (fun _ _ => Nat.zero_le _) (hl.fr G) (hC.fr G (by decide)) g3 ⟨ps, g1, rfl⟩ g2 (fun l hl' => (G.trans Fr.refl |>.trans Fr.refl |> fun _ => (F2.aI (by decide)).trans ((F1.aI (by decide)).trans (h3 l hl'))))
  rw [nI_0] at this
  refine ok_call this ?_
  rintro w ⟨m, hw, F3, r⟩
  have fin : FlQ M N R (fun _ => 0) m := ⟨G.step F3 (by decide), r⟩
  rcases hw with rfl | rfl
  · exact ok_some fin
  · exact ok_some fin
theorem q12 {k d : Nat} (h : 31 - k = d + 1) : 31 - (k + 1) = d ∧ k + 1 ≤ 31 := by omega
theorem c_l12 {N : NG} {R : Nat → Nat} {l : Nat} (hN : NOK N) (hr : rndOf N = .inl R) (hl' : l < nL N) : ∀ d n k lo hi lk M y2, 31 - k = d → k ≤ 31 → d < n → ((lo = 0 ∧ y2 = (-1)) ∨ ∃ j, lo = j + 1 ∧ y2 = nI j) → lo ≤ hi → hi ≤ 200000 → hi + 1 - lo ≤ 2 ^ d → (∀ q, q < nL N → lk q ≤ 200000) → Len M → Cg M M N → (∀ p, p < nP N → mI M 7 p 6 = nI (R p)) → mI M 1 0 4 = nI (sumTo R (nP N)) → (∀ q, q < nL N → ¬ q = l → mI M 302 0 q = nI (lk q)) → ¬ stk N R (plusS N (upk lk l hi)) → (lo = 0 ∨ stk N R (plusS N (upk lk l (lo - 1)))) →
    Ok (fX2_lessen_l12 (nI l) n y2 (nI hi) (nI k) M) (fun w => Fr kLc M w.2 ∧ (∀ q, q < nL N → ¬ q = l → mI w.2 302 0 q = nI (lk q)) ∧ ∃ m, m ≤ 200000 ∧ w.1 = nI m ∧ isM N R lk l m) := by
  have hb := hN.1
  have hR' := rnd_le hr
  intro d
  induction d with
  | zero =>
    intro n k lo hi lk M y2 hd hk hn hy hlo hhi hw hbd hl hC hR h4 h3 hs hs2
    obtain ⟨n, rfl⟩ : ∃ m, n = m + 1 := ⟨n - 1, by omega⟩
    have e : lo = hi := by omega
    subst e
    have e1 : nI lo - y2 = nI 1 := by
      rcases hy with ⟨rfl, rfl⟩ | ⟨j, rfl, rfl⟩
      · decide
      · rw [pk_sub (by omega), show j + 1 - j = 1 by omega]
    rw [fX2_lessen_l12, if_neg (show ¬ (32 : Int32) ≤ nI k from nI_ge (b := 32) (by omega) (by decide)), e1, if_pos (by decide)]
    refine ok_some ⟨Fr.refl, h3, lo, hhi, rfl, hs, hs2⟩
  | succ d ih =>
    intro n k lo hi lk M y2 hd hk hn hy hlo hhi hw hbd hl hC hR h4 h3 hs hs2
    obtain ⟨n, rfl⟩ : ∃ m, n = m + 1 := ⟨n - 1, by omega⟩
    obtain ⟨q1, q2⟩ := q12 hd
    have e1 : nI hi - y2 = nI (hi + 1 - lo) := by
      rcases hy with ⟨rfl, rfl⟩ | ⟨j, rfl, rfl⟩
      · rw [Int32.sub_neg, nI_1]; rfl
      · rw [pk_sub (by omega), show hi + 1 - (j + 1) = hi - j by omega]
    rw [fX2_lessen_l12, if_neg (show ¬ (32 : Int32) ≤ nI k from nI_ge (b := 32) (by omega) (by decide)), e1]
    by_cases w1 : hi + 1 - lo ≤ 1
    · have e : lo = hi := by omega
      subst e
      rw [if_pos (show nI _ ≤ (1 : Int32) from nI_le (b := 1) w1 (by omega))]
      exact ok_some ⟨Fr.refl, h3, lo, hhi, rfl, hs, hs2⟩
    rw [if_neg (show ¬ nI _ ≤ (1 : Int32) from nI_ge (a := 1) (by omega) (by omega)), chk_tr (by decide), ln302 hl, chk_nI (by omega) (by omega), bnd_eq, nI_clamp (by omega)]
    have e2 : y2 + nI hi = nI (lo + hi - 1) := by
      rcases hy with ⟨rfl, rfl⟩ | ⟨j, rfl, rfl⟩
      · obtain ⟨h', rfl⟩ : ∃ h', hi = h' + 1 := ⟨hi - 1, by omega⟩
        rw [Int32.add_comm, pk_m1, show 0 + (h' + 1) - 1 = h' by omega]
      · rw [nI_add, show j + 1 + hi - 1 = j + hi by omega]
    have e3 : nI (lo + hi - 1) / 2 = nI ((lo + hi - 1) / 2) := by rw [L32 2, pk_div (by omega) (by omega) (by omega)]
    rw [e2, e3]
    generalize hmid : (lo + hi - 1) / 2 = mid
    have m1 : lo ≤ mid := by omega
    have m2 : mid < hi := by omega
    have F1 : Fr [302] M (sI M 302 0 l (nI mid)) := Fr.refl.wI (by decide)
    have v1 : ∀ q, q < nL N → mI (sI M 302 0 l (nI mid)) 302 0 q = nI (upk lk l mid q) := fun q hq => by
      rw [mI_sI]
      by_cases e : q = l
      · rw [if_pos ⟨rfl, rfl, e⟩, e, upk_same]
      · rw [if_neg (fun z => e z.2.2), upk_ne e]; exact h3 q hq e
    generalize sI M 302 0 l (nI mid) = M1 at *
    have hB : RB N R (plusS N (upk lk l mid)) := ⟨hR'.1, fun q hq => by
      have h1 := (hN.2.2.1 q hq).2.2
      have h2 : upk lk l mid q ≤ 200000 := by
        by_cases e : q = l
        · rw [e, upk_same]; omega
        · rw [upk_ne e]; exact hbd q hq
      show nS N q + upk lk l mid q ≤ 1000000
      omega, hR'.2⟩
    refine ok_call (c_sticks (lk := upk lk l mid) hN (hl.fr F1) (hC.fr F1 (by decide)) (fun p hp => (F1.oI (by decide)).trans (hR p hp)) ((F1.oI (by decide)).trans h4) hB v1) ?_
    rintro ⟨x, M2⟩ ⟨F2, hx⟩
    have F2 : Fr kK M1 M2 := F2
    have G : Fr kLc M M2 := (F1.mono (by decide)).step F2 (by decide)
    have hx : (x = 1 ∧ stk N R (plusS N (upk lk l mid))) ∨ (x = 0 ∧ ¬ stk N R (plusS N (upk lk l mid))) := hx
    have v2 : mI M2 302 0 l = nI mid := by rw [F2.aI (by decide), v1 l hl', upk_same]
    have h32 : ∀ q, q < nL N → ¬ q = l → mI M2 302 0 q = nI (lk q) := fun q hq e => by rw [F2.aI (by decide), v1 q hq, upk_ne e]
    have h2d : 2 ^ (d + 1) = 2 * 2 ^ d := by rw [Nat.pow_succ, Nat.mul_comm]
    show Ok (Option.bind (α := Int32 × Int32) (if x = 0 then _ else _) _) _
    have R2 : ∀ p, p < nP N → mI M2 7 p 6 = nI (R p) := fun p hp => (G.oI (by decide)).trans (hR p hp)
    have h42 : mI M2 1 0 4 = nI (sumTo R (nP N)) := (G.oI (by decide)).trans h4
    rcases hx with ⟨x1, st⟩ | ⟨x0, st⟩
    · rw [x1, if_neg (by decide), G.n, ln302 hl, chk_nI (by omega) (by omega), bnd_eq, v2, Option.bind_some]
      show Ok (bnd (nI k + 1) fun x16 => fX2_lessen_l12 (nI l) n (nI mid) (nI hi) x16 M2) _
      rw [bnd_eq, nI_1]
      refine (ih n (k + 1) (mid + 1) hi lk M2 (nI mid) q1 q2 (by omega) (Or.inr ⟨mid, rfl, rfl⟩) (by omega) hhi (by omega) hbd (hl.fr G) (hC.fr G (by decide)) R2 h42 h32 hs (Or.inr st)).mono ?_
      rintro w ⟨F3, r⟩
      exact ⟨G.step F3 (by decide), r⟩
    · rw [x0, if_pos rfl, G.n, ln302 hl, chk_nI (by omega) (by omega), bnd_eq, v2, Option.bind_some]
      show Ok (bnd (nI k + 1) fun x16 => fX2_lessen_l12 (nI l) n y2 (nI mid) x16 M2) _
      rw [bnd_eq, nI_1]
      refine (ih n (k + 1) lo mid lk M2 y2 q1 q2 (by omega) hy m1 (by omega) (by omega) hbd (hl.fr G) (hC.fr G (by decide)) R2 h42 h32 st hs2).mono ?_
      rintro w ⟨F3, r⟩
      exact ⟨G.step F3 (by decide), r⟩
theorem c_lessen {M : tM} {N : NG} {R lk : Nat → Nat} {l : Nat} (hN : NOK N) (hr : rndOf N = .inl R) (hl' : l < nL N) (hbd : ∀ q, q < nL N → lk q ≤ 200000) (hl : Len M) (hC : Cg M M N) (hR : ∀ p, p < nP N → mI M 7 p 6 = nI (R p)) (h4 : mI M 1 0 4 = nI (sumTo R (nP N))) (h3 : L302 M N lk) (hs : ¬ stk N R (plusS N lk)) :
    Ok (fX2_lessen (nI l) M) (fun m => Fr kLc M m ∧ ∃ v, v ≤ 200000 ∧ isM N R lk l v ∧ L302 m N (upk lk l v)) := by
  have hb := hN.1
  have hbl := hbd l hl'
  rw [fX2_lessen, ln302 hl, chk_nI (by omega) (by omega), bnd_eq, nI_clamp (by omega), h3 l hl']
  have es : upk lk l (lk l) = lk := funext fun q => by
    by_cases e : q = l
    · rw [e, upk_same]
    · rw [upk_ne e]
  have := c_l12 hN hr hl' 31 FU 0 0 (lk l) lk M (-1) rfl (by omega) (FU_lt (by omega)) (Or.inl ⟨rfl, rfl⟩) (Nat.zero_le _) hbl (by show lk l + 1 - 0 ≤ 2 ^ 31; omega) hbd hl hC hR h4 (fun q hq _ => h3 q hq) (by rw [es]; exact hs) (Or.inl rfl)
  rw [nI_0] at this
  refine ok_call this ?_
  rintro ⟨x, M1⟩ ⟨F1, k1, v, hv, hx, hm⟩
  have F1 : Fr kLc M M1 := F1
  have hx : x = nI v := hx
  show Ok (chk (inb (nI l) (mN M1 302 0)) <| bnd (sI M1 302 0 l x) fun M22 => some M22) _
  rw [F1.n, ln302 hl, chk_nI (by omega) (by omega), bnd_eq, hx]
  refine ok_some ⟨F1.wI (by decide), v, hv, hm, fun q hq => ?_⟩
  rw [mI_sI]
  by_cases e : q = l
  · rw [if_pos ⟨rfl, rfl, e⟩, e, upk_same]
  · rw [if_neg (fun z => e z.2.2), upk_ne e]; exact k1 q hq e
theorem FL_ns {N : NG} {R : Nat → Nat} (hN : NOK N) : ∀ k fs e, FLn N R k fs e → ¬ stk N R e := by
  intro k
  induction k with
  | zero =>
    rintro fs e ⟨rfl, c, h1, h2, h3⟩ hs
    obtain ⟨p, hp, h⟩ := (stk_rch hN h1 h2).mp hs
    exact h3 p hp h
  | succ k ih => rintro fs e ⟨c, p, -, -, -, -, -, h⟩; exact ih _ _ h
theorem c_l20 {M : tM} {N : NG} {R lk0 : Nat → Nat} {z1 : Int32} (hN : NOK N) (hr : rndOf N = .inl R) (hbd : ∀ q, q < nL N → lk0 q ≤ 200000) (hl : Len M) (hC : Cg M M N) (hR : ∀ p, p < nP N → mI M 7 p 6 = nI (R p)) (h4 : mI M 1 0 4 = nI (sumTo R (nP N))) (h3 : L302 M N lk0) (hs : ¬ stk N R (plusS N lk0)) :
    Ok (fX2_moreOn_l20 z1 FU 0 M) (fun m => Fr kLc M m ∧ ∃ lk, LSn N R (nL N) lk0 lk ∧ L302 m N lk) := by
  have hb := hN.1
  refine loop0 (fun n i m => fX2_moreOn_l20 z1 n i m) (nL N) (fun i m => Fr kLc M m ∧ ∃ lk, LSn N R i lk0 lk ∧ L302 m N lk ∧ (∀ q, q < nL N → lk q ≤ 200000) ∧ ¬ stk N R (plusS N lk)) _ (by omega) ?_ ?_ M ⟨Fr.refl, lk0, rfl, h3, hbd, hs⟩
  · rintro n m ⟨F, lk, h1, h2, -⟩
    rw [fX2_moreOn_l20, F.oI (by decide), hC.1.2, if_pos (nI_le (Nat.le_refl _) (by omega))]
    exact ok_some ⟨F, lk, h1, h2⟩
  · rintro n i m hi ⟨F, lk, h1, h2, h3, h5⟩ kk
    rw [fX2_moreOn_l20, F.oI (by decide), hC.1.2, if_neg (nI_ge hi (by omega))]
    refine ok_call (c_lessen hN hr hi h3 (hl.fr F) (hC.fr F (by decide)) (fun p hp => (F.oI (by decide)).trans (hR p hp)) ((F.oI (by decide)).trans h4) h2 h5) ?_
    rintro m2 ⟨F5, v, hv, hm, h6⟩
    rw [bnd_eq, nI_1]
    refine kk m2 ⟨F.step F5 (by decide), upk lk i v, ⟨lk, h1, v, hm, rfl⟩, h6, fun q hq => ?_, hm.1⟩
    by_cases e : q = i
    · rw [e, upk_same]; omega
    · rw [upk_ne e]; exact h3 q hq
theorem c_moreOn {M : tM} {N : NG} {R : Nat → Nat} {l : Nat} (hN : NOK N) (hl : Len M) (hC : Cg M M N) (hr : rndOf N = .inl R) (p0 : 0 < nP N) (hR : ∀ p, p < nP N → mI M 7 p 6 = nI (R p)) (h4 : mI M 1 0 4 = nI (sumTo R (nP N))) (hk : Cc2 M N) (hl' : l < nL N) :
    Ok (fX2_moreOn (nI l) M) (fun w => Fr kSt2 M w.2 ∧ Cc2 w.2 N ∧ ∀ X, Len X → Gr X N → ∃ X', fX11_lacks (nI l) X = some (w.1, X')) := by
  have hb := hN.1
  rw [fX2_moreOn]
  refine ok_call (c_isStuck hN hl hC hr p0 hR h4 hk) ?_
  rintro ⟨x, M1⟩ ⟨F1, hk1, h3, hx4, hx⟩
  have F1 : Fr kSt M M1 := F1
  have hk1 : Cc2 M1 N := hk1
  have h3 : mI M1 2 0 3 = 1 := h3
  have hx4 : x = mI M1 2 0 4 := hx4
  have hx : (x = 1 ∧ stk N R (nS N)) ∨ (x = 0 ∧ ¬ stk N R (nS N)) := hx
  show Ok (Option.bind (α := tM) (if x = 0 then _ else _) _) _
  have c0 : ¬ mI M1 2 0 3 = 0 := by rw [h3]; decide
  have hl1 := hl.fr F1
  rcases id hk1 with ⟨q, -⟩ | ⟨-, hst, hlk⟩
  · exact absurd q c0
  rcases hx with ⟨x1, st⟩ | ⟨x0, st⟩
  rotate_left
  · rw [x0, if_pos rfl, Option.bind_some, F1.n, ln302 hl, chk_nI (by omega) (by omega), nI_clamp (by omega)]
    refine ok_some ⟨F1.mono (by decide), hk1, fun X hlX hGX => ?_⟩
    obtain ⟨lk, X', k1, k2, -⟩ := m_lacks hN hlX hGX hr p0 hl'
    refine ⟨X', ?_⟩
    rw [k2, LK_0 hN st k1 l]
    rcases hlk with ⟨-, z⟩ | ⟨-, z, -⟩
    · exact congrArg (fun v => some (v, X')) (z l hl').symm
    · rw [← hx4, x0] at z; exact absurd z (by decide)
  rw [x1, if_neg (by decide)]
  rcases hlk with ⟨z5, z⟩ | ⟨z5, z4, z⟩
  · rw [z5, if_pos rfl]
    refine ok_call (P := fun m => Fr kSt2 M1 m ∧ mI m 2 0 5 = 1 ∧ mI m 2 0 4 = mI M1 2 0 4 ∧ mI m 2 0 3 = 1 ∧ ∃ lk, LK N R lk ∧ L302 m N lk) ?_ ?_
    · refine ok_call (c_fill hN hl1 (hC.fr F1 (by decide)) hr (fun p hp => (F1.oI (by decide)).trans (hR p hp)) ((F1.oI (by decide)).trans h4) z) ?_
      rintro M2 ⟨F2, k, lk0, hF, h32, hbd⟩
      have G2 : Fr kSt2 M M2 := (F1.mono (by decide)).step F2 (by decide)
      refine ok_call (c_l20 hN hr hbd (hl.fr G2) (hC.fr G2 (by decide)) (fun p hp => (G2.oI (by decide)).trans (hR p hp)) ((G2.oI (by decide)).trans h4) h32 (FL_ns hN _ _ _ hF)) ?_
      rintro M3 ⟨F3, lk, hls, h33⟩
      rw [bnd_eq]
      have G3 : Fr kLc M1 M3 := F2.step F3 (by decide)
      have F4 : Fr [30005] M3 (sI M3 2 0 5 1) := Fr.refl.wIo (by decide)
      refine ok_some ⟨(G3.mono (by decide)).step F4 (by decide), by simp [mI_sI], ?_, ?_, lk, ⟨k, lk0, hF, hls⟩, fun q hq => (F4.aI (by decide)).trans (h33 q hq)⟩
      · rw [F4.oI (by decide), G3.oI (by decide)]
      · rw [F4.oI (by decide), G3.oI (by decide)]; exact h3
    · rintro M2 ⟨F2, g5, g4, g3, lk, hLK, h32⟩
      have G : Fr kSt2 M M2 := (F1.mono (by decide)).step F2 (by decide)
      have ans : ∀ X q, Len X → Gr X N → q < nL N → ∃ X', fX11_lacks (nI q) X = some (mI M2 302 0 q, X') := fun X q hlX hGX hq => by
        obtain ⟨lk2, X', k1, k2, -⟩ := m_lacks hN hlX hGX hr p0 hq
        refine ⟨X', ?_⟩
        rw [k2, h32 q hq, LK_uniq hN k1 hLK]
      rw [G.n, ln302 hl, chk_nI (by omega) (by omega), nI_clamp (by omega)]
      refine ok_some ⟨G, Or.inr ⟨g3, ?_, Or.inr ⟨g5, ?_, ans⟩⟩, fun X hlX hGX => ans X l hlX hGX hl'⟩
      · obtain ⟨R', r1, r2, r3⟩ := hst
        refine ⟨R', r1, r2, ?_⟩
        show (mI M2 2 0 4 = 1 ∧ _) ∨ (mI M2 2 0 4 = 0 ∧ _)
        rw [g4]; exact r3
      · show mI M2 2 0 4 = 1
        rw [g4, ← hx4, x1]
  · rw [z5, if_neg (by decide), Option.bind_some, F1.n, ln302 hl, chk_nI (by omega) (by omega), nI_clamp (by omega)]
    exact ok_some ⟨F1.mono (by decide), hk1, fun X hlX hGX => z X l hlX hGX hl'⟩
theorem c15 : call15 Rel := by
  rintro a1 M ⟨N, hA⟩
  obtain ⟨⟨hN0, hl0, hG0⟩, hC0, -⟩ := id hA
  have hb := hN0.1
  rcases ix_cases a1 (n := nL N) (by omega) with ⟨l, hl', rfl⟩ | ha
  rotate_left
  · rw [fX10_lacks, cLine_out hC0 ha]
    refine ⟨-1, M, M, rfl, ?_, N, hA⟩
    rw [fX11_lacks, mLine_out hN0 hG0 ha]; rfl
  obtain ⟨x, M1, e, F, hA1, hx⟩ := nor_both hA
  obtain ⟨⟨hN, hl, hG⟩, hC, -, -, -, -, -, -, -, -, hk2, -⟩ := id hA1
  have pre : fX10_lacks (nI l) M = (if x = (-9) then some (((-4 : Int32)), M1) else some (x, M1)).bind fun (x4, M6) => if x4 = 0 then (fX2_moreOn (nI l) M6).bind fun (x8, M10) => some ((x8, M10)) else some ((x4, M6)) := by
    rw [fX10_lacks, cLine_in hN0 hl0 hC0 hl', Option.bind_some, if_neg (by simp), fX10_noRound, e, Option.bind_some]
  have bad : ∀ v : Int32, ¬ (0 : Int32) ≤ v → ∀ (y : Int32) M2, fX11_barred 0 M1 = some (y, M2) → y = v → fX11_lacks (nI l) M1 = some (v, M2) := fun v hv y M2 e2 ey => by
    rw [fX11_lacks, mLine_in hN hG hl', Option.bind_some, if_neg (by decide), e2, Option.bind_some]
    show (if 0 ≤ y then _ else _) = _
    rw [ey, if_neg hv]
  rcases hx with ⟨p0, x4⟩ | ⟨p0, ⟨R, r1, x0, hR, h4⟩ | ⟨l', r1, x9⟩ | ⟨r1, x6⟩⟩
  · have := (hN.2.2.1 l hl').1
    omega
  · obtain ⟨⟨v, M2⟩, e2, F2, hk, ans⟩ := c_moreOn hN hl hC r1 p0 hR h4 hk2 hl'
    have F2 : Fr kSt2 M1 M2 := F2
    have hA2 := Al_stk hA1 F2 hk
    obtain ⟨⟨-, hl2, hG2⟩, -⟩ := id hA2
    obtain ⟨lk, X', k1, k2, k3⟩ := m_lacks hN hl2 hG2 r1 p0 hl'
    obtain ⟨X2, k4⟩ := ans M2 hl2 hG2
    have k4 : fX11_lacks (nI l) M2 = some (v, X2) := k4
    rw [k2] at k4
    obtain ⟨ev, -⟩ := Prod.mk.inj (Option.some.inj k4)
    refine ⟨v, M2, X', ?_, by rw [k2, ev], N, hA2.fr k3 (by decide)⟩
    rw [pre, x0, if_neg (by decide), Option.bind_some]
    show (if (0 : Int32) = 0 then _ else _) = _
    rw [if_pos rfl, e2, Option.bind_some]
  · obtain ⟨⟨y, M2⟩, e2, F2, hw⟩ := m_barred (y := 0) hN hl hG (Or.inl rfl)
    have F2 : Fr kBM M1 M2 := F2
    refine ⟨-4, M1, M2, ?_, ?_, N, hA1.fr F2 (by decide)⟩
    · rw [pre, x9, if_pos rfl, Option.bind_some]
      rfl
    · rcases hw with ⟨h, -⟩ | ⟨-, ⟨R', r2, -⟩ | ⟨l, r2, w1⟩ | ⟨r2, -⟩⟩
      · omega
      · rw [r1] at r2; cases r2
      · exact bad (-4) (by decide) y M2 e2 w1
      · rw [r1] at r2; cases r2
  · obtain ⟨⟨y, M2⟩, e2, F2, hw⟩ := m_barred (y := 0) hN hl hG (Or.inl rfl)
    have F2 : Fr kBM M1 M2 := F2
    refine ⟨-6, M1, M2, ?_, ?_, N, hA1.fr F2 (by decide)⟩
    · rw [pre, x6, if_neg (by decide), Option.bind_some]
      rfl
    · rcases hw with ⟨h, -⟩ | ⟨-, ⟨R', r2, -⟩ | ⟨l, r2, w1⟩ | ⟨r2, w1⟩⟩
      · omega
      · rw [r1] at r2; cases r2
      · rw [r1] at r2; cases r2
      · exact bad (-6) (by decide) y M2 e2 w1
