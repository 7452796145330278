/-! least: a FIRING back -/
theorem sub_nI {a b : Nat} (h : b ≤ a) : nI a - nI b = nI (a - b) := pk_sub h
theorem c_phaseA {M X : tM} {N : NG} {p n : Nat} (hN : NOK N) (hC : Cg M X N) (hp : p < nP N) : fX7_phaseAhead p (nI ((n + 1) % nH N p)) M = some (nI (n % nH N p)) := by
  have hh := (hN.2.1 p hp).2
  obtain ⟨ha, ha4⟩ := ph_lt hN hp n
  rw [fX7_phaseAhead, (hC.2.1 p hp).1.2.2.2.2.1, ← Nat.mod_add_mod]
  generalize n % nH N p = a at *
  by_cases c : a + 1 = nH N p
  · rw [c, Nat.mod_self, if_pos (by decide), L32 1, pk_sub (by omega), show nH N p - 1 = a by omega]
  · rw [Nat.mod_eq_of_lt (by omega), if_neg (nI_nle (by omega) (by omega)), L32 1, pk_sub (by omega)]; rfl
theorem c_bl19 {M : tM} {N : NG} {m : Nat → Nat} {p a : Nat} (hN : NOK N) (hl : Len M) (hC : Cg M M N) (hM : ∀ l, l < nL N → mI M 601 0 l = nI (m l)) (ha : a < nH N p) (hk : ∀ l, l < nL N → gvA N p a l ≤ m l) :
    Ok (fX5_stepBack_l19 p (nI a) FU (nx (nF N) p (nL N) 0) M) (fun M' => Fr [601] M M' ∧ ∀ l, l < nL N → mI M' 601 0 l = nI (m l - gvA N p a l)) := by
  have hb := hN.1
  refine loopC0 (fun n r s => fX5_stepBack_l19 p (nI a) n r s) (nF N) p (nL N) (fun i s => Fr [601] M s ∧ ∀ l, l < nL N → mI s 601 0 l = nI (if l < i then m l - gvA N p a l else m l)) _ hb.2 ?_ ?_ ?_ M ⟨Fr.refl, fun l hl => by rw [if_neg (by omega)]; exact hM l hl⟩
  · rintro n s ⟨F, h⟩
    rw [fX5_stepBack_l19, if_pos rfl]
    exact ok_some ⟨F, fun l hl => by rw [h l hl, if_pos hl]⟩
  · rintro i s hi hne ⟨F, h⟩
    refine ⟨F, fun l hl => ?_⟩
    rw [h l hl]
    by_cases e : l = i
    · subst e
      rw [if_neg (by omega), if_pos (by omega), gvA, if_neg hne]; rfl
    · by_cases q : l < i
      · rw [if_pos q, if_pos (by omega)]
      · rw [if_neg q, if_neg (by omega)]
  · rintro n i s hi he ⟨F, h⟩ kk
    have hCm := hC.fr F (by decide)
    have cl := (hCm.2.2.1 i hi).1
    have hmi := h i hi
    rw [if_neg (Nat.lt_irrefl _)] at hmi
    have hki := hk i hi
    have ek : gvA N p a i = nG N i a := if_pos he
    rw [fX5_stepBack_l19, if_neg (by simp), Option.bind_some, bnd_eq, cl.2.1, F.n, ln601 hl, chk_nI (by omega) (by omega), cGives hN hCm hi (by rw [he]; exact ha), Option.bind_some, chk_nI (by omega) (by omega), bnd_eq, nI_clamp (by omega), hmi, ← ek, pk_sub hki]
    have F1 : Fr [601] M (sI s 601 0 i (nI (m i - gvA N p a i))) := F.wI (by decide)
    rw [bnd_eq, ((hC.fr F1 (by decide)).2.2.1 i hi).1.2.2.2.2.2.2, he]
    refine kk _ ⟨F1, fun l hl' => ?_⟩
    rw [mI_sI]
    by_cases e : l = i
    · rw [if_pos ⟨rfl, rfl, e⟩, if_pos (by omega), e]
    · rw [if_neg (fun z => e z.2.2), h l hl']
      by_cases q : l < i
      · rw [if_pos q, if_pos (by omega)]
      · rw [if_neg q, if_neg (by omega)]
theorem c_bl53 {M : tM} {N : NG} {m : Nat → Nat} {p a : Nat} (hN : NOK N) (hl : Len M) (hC : Cg M M N) (hM : ∀ l, l < nL N → mI M 601 0 l = nI (m l)) (ha : a < nH N p) :
    Ok (fX5_stepBack_l53 p (nI a) FU (nx (nT N) p (nL N) 0) M) (fun M' => Fr [601] M M' ∧ ∀ l, l < nL N → mI M' 601 0 l = nI (m l + tkA N p a l)) := by
  have hb := hN.1
  refine loopC0 (fun n r s => fX5_stepBack_l53 p (nI a) n r s) (nT N) p (nL N) (fun i s => Fr [601] M s ∧ ∀ l, l < nL N → mI s 601 0 l = nI (if l < i then m l + tkA N p a l else m l)) _ hb.2 ?_ ?_ ?_ M ⟨Fr.refl, fun l hl => by rw [if_neg (by omega)]; exact hM l hl⟩
  · rintro n s ⟨F, h⟩
    rw [fX5_stepBack_l53, if_pos rfl]
    exact ok_some ⟨F, fun l hl => by rw [h l hl, if_pos hl]⟩
  · rintro i s hi hne ⟨F, h⟩
    refine ⟨F, fun l hl => ?_⟩
    rw [h l hl]
    by_cases e : l = i
    · subst e
      rw [if_neg (by omega), if_pos (by omega), tkA, if_neg hne]; rfl
    · by_cases q : l < i
      · rw [if_pos q, if_pos (by omega)]
      · rw [if_neg q, if_neg (by omega)]
  · rintro n i s hi he ⟨F, h⟩ kk
    have hCm := hC.fr F (by decide)
    have cl := (hCm.2.2.1 i hi).1
    have hmi := h i hi
    rw [if_neg (Nat.lt_irrefl _)] at hmi
    have ek : tkA N p a i = nK N i a := if_pos he
    rw [fX5_stepBack_l53, if_neg (by simp), Option.bind_some, bnd_eq, cl.2.1, F.n, ln601 hl, chk_nI (by omega) (by omega), cTakes hN hCm hi (by rw [he]; exact ha), Option.bind_some, chk_nI (by omega) (by omega), bnd_eq, nI_clamp (by omega), hmi, ← ek, nI_add]
    have F1 : Fr [601] M (sI s 601 0 i (nI (m i + tkA N p a i))) := F.wI (by decide)
    rw [bnd_eq, ((hC.fr F1 (by decide)).2.2.1 i hi).1.2.2.2.2.2.1, he]
    refine kk _ ⟨F1, fun l hl' => ?_⟩
    rw [mI_sI]
    by_cases e : l = i
    · rw [if_pos ⟨rfl, rfl, e⟩, if_pos (by omega), e]
    · rw [if_neg (fun z => e z.2.2), h l hl']
      by_cases q : l < i
      · rw [if_pos q, if_pos (by omega)]
      · rw [if_neg q, if_neg (by omega)]
theorem c_back {M : tM} {N : NG} {R fs c : Nat → Nat} {p k : Nat} (hN : NOK N) (hl : Len M) (hC : Cg M M N) (hM : MC M N R fs (fi c p)) (h8 : mI M 5 0 8 = nI (k + 1)) (hB : RB N R fs) (hK : cOK N R fs c) (hp : p < nP N) (he : en N R fs c p) :
    Ok (fX5_stepBack (some p) M) (fun m => Fr [601, 603, 604, 60006, 60008] M m ∧ MC m N R fs c ∧ mI m 5 0 8 = nI k) := by
  have hb := hN.1
  have hRp := hB.1 p hp
  have cp := (hC.2.1 p hp).1
  obtain ⟨m3, m4⟩ := hM.2.1 p hp
  rw [fi_same] at m3 m4
  obtain ⟨ha, ha4⟩ := ph_lt hN hp (c p)
  have hfi := fun l (hl : l < nL N) => mk_fi hK he hl
  have epa := c_phaseA (n := c p) hN hC hp
  rw [fX5_stepBack, Option.bind_some, cp.2.1, ln604 hl, chk_nI (by omega) (by omega), nI_clamp (by omega), m4, epa, Option.bind_some, bnd_eq, cp.2.2.2.2.2.2.2.1]
  generalize hae : c p % nH N p = a at *
  refine ok_call (c_bl19 hN hl hC hM.1 ha (fun l hl => by have := (hfi l hl).2; omega)) ?_
  rintro M1 ⟨F1, k1⟩
  have hC1 := hC.fr F1 (by decide)
  rw [bnd_eq, (hC1.2.1 p hp).1.2.2.2.2.2.1]
  refine ok_call (c_bl53 hN (hl.fr F1) hC1 k1 ha) ?_
  rintro M2 ⟨F2, k2⟩
  have F3 : Fr [601] M M2 := F1.step F2 (by decide)
  have hC2 := hC.fr F3 (by decide)
  rw [(hC2.2.1 p hp).1.2.1, F3.n, ln604 hl, chk_nI (by omega) (by omega), bnd_eq, nI_clamp (by omega)]
  have F4 : Fr [601, 604] M (sI M2 604 0 p (nI a)) := (F3.mono (by decide)).wI (by decide)
  have v3 : mI (sI M2 604 0 p (nI a)) 603 0 p = nI (R p - (c p + 1)) := by rw [F4.aI (by decide)]; exact m3
  have es : nI (R p - (c p + 1)) + 1 = nI (R p - c p) := by have := he.1; rw [nI_1, show R p - (c p + 1) + 1 = R p - c p by omega]
  rw [bnd_eq, ((hC.fr F4 (by decide)).2.1 p hp).1.2.1, F4.n, ln603 hl, chk_nI (by omega) (by omega), chk_nI (by omega) (by omega), bnd_eq, nI_clamp (by omega), v3, es, bnd_eq, bnd_eq]
  have F5 : Fr [603, 604] M2 (sI (sI M2 604 0 p (nI a)) 603 0 p (nI (R p - c p))) := (Fr.refl.wI (by decide)).wI (by decide)
  have w3 : ∀ q, mI (sI (sI M2 604 0 p (nI a)) 603 0 p (nI (R p - c p))) 603 0 q = if q = p then nI (R p - c p) else mI M 603 0 q := fun q => by
    rw [mI_sI]
    by_cases e : q = p
    · rw [if_pos ⟨rfl, rfl, e⟩, if_pos e]
    · rw [if_neg (fun z => e z.2.2), if_neg e, mI_sI, if_neg (by simp), F3.aI (by decide)]
  have w4 : ∀ q, mI (sI (sI M2 604 0 p (nI a)) 603 0 p (nI (R p - c p))) 604 0 q = if q = p then nI a else mI M 604 0 q := fun q => by
    rw [mI_sI, if_neg (by simp), mI_sI]
    by_cases e : q = p
    · rw [if_pos ⟨rfl, rfl, e⟩, if_pos e]
    · rw [if_neg (fun z => e z.2.2), if_neg e, F3.aI (by decide)]
  generalize sI (sI M2 604 0 p (nI a)) 603 0 p (nI (R p - c p)) = M5 at *
  have F6 : Fr [601, 603, 604] M M5 := (F3.mono (by decide)).step F5 (by decide)
  have hs := sum_fi hp he.1
  have s6 : mI M5 5 0 6 = nI (sumTo (fun q => R q - fi c p q) (nP N)) := by rw [F6.oI (by decide)]; exact hM.2.2
  have s8 : mI M5 5 0 8 = nI (k + 1) := by rw [F6.oI (by decide)]; exact h8
  have es6 : nI (sumTo (fun q => R q - fi c p q) (nP N)) + 1 = nI (sumTo (fun q => R q - c q) (nP N)) := by rw [nI_1, hs]
  have s8' : mI (sI M5 5 0 6 (nI (sumTo (fun q => R q - c q) (nP N)))) 5 0 8 = nI (k + 1) := by rw [mI_sI, if_neg (by simp), s8]
  have ek : nI (k + 1) - 1 = nI k := by rw [L32 1, pk_sub (by omega)]; rfl
  rw [s6, es6, s8', ek]
  have F7 : Fr [60006, 60008] M5 (sI (sI M5 5 0 6 (nI (sumTo (fun q => R q - c q) (nP N)))) 5 0 8 (nI k)) := (Fr.refl.wIo (by decide)).wIo (by decide)
  refine ok_some ⟨(F6.mono (by decide)).step F7 (by decide), ⟨fun l hl' => ?_, fun q hq => ?_, by simp [mI_sI]⟩, by simp [mI_sI]⟩
  · rw [F7.aI (by decide), F5.aI (by decide), k2 l hl']
    have := hfi l hl'
    congr 1; omega
  · rw [F7.aI (by decide), w3, F7.aI (by decide), w4]
    by_cases e : q = p
    · subst e; rw [if_pos rfl, if_pos rfl, ← hae]; exact ⟨rfl, rfl⟩
    · rw [if_neg e, if_neg e]
      have := hM.2.1 q hq
      rw [fi_ne e] at this; exact this
theorem m_back {X : tM} {N : NG} {R fs c : Nat → Nat} {p : Nat} (hN : NOK N) (hl : Len X) (hG : Gr X N) (hM : MX X N R fs (fi c p)) (hB : RB N R fs) (hK : cOK N R fs c) (hp : p < nP N) (he : en N R fs c p) : Ok (fX11_unfireMark (nI p) X) (fun m => Fr kM X m ∧ MX m N R fs c) := by
  have hb := hN.1
  obtain ⟨ha, ha4⟩ := ph_lt hN hp (c p)
  have hfi := fun l (hl : l < nL N) => mk_fi hK he hl
  obtain ⟨a1, r1⟩ := hM.2 p hp
  rw [fi_same] at a1 r1
  have hRp := hB.1 p hp
  have hh := (hN.2.1 p hp).2
  have nz : nz4 (nI (nH N p)) = true := decide_eq_true (fun q => by have := (nI_eq (b := 0) (by omega) (by decide)).mp q; omega)
  have eph : ((c p + 1) % nH N p + nH N p - 1) % nH N p = c p % nH N p := by
    rw [← Nat.mod_add_mod (c p) (nH N p) 1]
    generalize c p % nH N p = a at *
    by_cases e : a + 1 = nH N p
    · rw [e, Nat.mod_self, Nat.zero_add, Nat.mod_eq_of_lt (by omega)]; omega
    · rw [Nat.mod_eq_of_lt (show a + 1 < nH N p by omega), show a + 1 + nH N p - 1 = a + nH N p by omega, Nat.add_mod_right, Nat.mod_eq_of_lt ha]
  have b1 := Nat.mod_lt (c p + 1) (show 0 < nH N p by omega)
  have er : nI ((c p + 1) % nH N p) + nI (nH N p) - 1 - (nI ((c p + 1) % nH N p) + nI (nH N p) - 1) / nI (nH N p) * nI (nH N p) = nI (c p % nH N p) := by
    rw [nI_add, L32 1, pk_sub (by omega), pk_rem (by omega) (by omega) (by omega), eph]
  have es : nI (R p - (c p + 1)) + 1 = nI (R p - c p) := by have := he.1; rw [nI_1, show R p - (c p + 1) + 1 = R p - c p by omega]
  rw [fX11_unfireMark, ln1239 hl, chk_nI (by omega) (by omega), ln1205 hl, chk_nI (by omega) (by omega), chk_nI (by omega) (by omega), nI_clamp (by omega), (hG.2.1 p hp).2, chk_tr nz, chk_nI (by omega) (by omega), a1, er, bnd_eq, mN_sI, ln1240 hl, chk_nI (by omega) (by omega), chk_nI (by omega) (by omega), bnd_eq, mI_sI, if_neg (by simp), r1, es]
  generalize hae : c p % nH N p = a at *
  have F0 : Fr [1239, 1240] X (sI (sI X 1239 0 p (nI a)) 1240 0 p (nI (R p - c p))) := (Fr.refl.wI (by decide)).wI (by decide)
  have v9 : ∀ q, q < nP N → mI (sI (sI X 1239 0 p (nI a)) 1240 0 p (nI (R p - c p))) 1239 0 q = nI (c q % nH N q) ∧ mI (sI (sI X 1239 0 p (nI a)) 1240 0 p (nI (R p - c p))) 1240 0 q = nI (R q - c q) := fun q hq => by
    rw [mI_sI, if_neg (by simp), mI_sI, mI_sI]
    by_cases e : q = p
    · rw [if_pos ⟨rfl, rfl, e⟩, if_pos ⟨rfl, rfl, e⟩, e, hae]; exact ⟨rfl, rfl⟩
    · rw [if_neg (fun z => e z.2.2), if_neg (fun z => e z.2.2), mI_sI, if_neg (by simp)]
      have := hM.2 q hq
      rw [fi_ne e] at this; exact this
  generalize sI (sI X 1239 0 p (nI a)) 1240 0 p (nI (R p - c p)) = X0 at *
  have a0 : mI X0 1239 0 p = nI a := by rw [(v9 p hp).1, hae]
  have key : Ok (fX11_unfireMark_l40 (nI p) FU 0 X0) (fun m => Fr [1238] X0 m ∧ ∀ l, l < nL N → mI m 1238 0 l = nI (mk N fs c l)) := by
    refine loop0 (fun n i m => fX11_unfireMark_l40 (nI p) n i m) (nL N) (fun i m => Fr [1238] X0 m ∧ ∀ l, l < nL N → mI m 1238 0 l = nI (if l < i then mk N fs c l else mk N fs (fi c p) l)) _ (by omega) ?_ ?_ X0 ⟨Fr.refl, fun l hl => by rw [if_neg (by omega), F0.aI (by decide)]; exact hM.1 l hl⟩
    · rintro n m ⟨F, h⟩
      rw [fX11_unfireMark_l40, F.oI (by decide), F0.oI (by decide), hG.1.2, if_pos (nI_le (Nat.le_refl _) (by omega))]
      exact ok_some ⟨F, fun l hl => by rw [h l hl, if_pos hl]⟩
    · rintro n i m hi ⟨F, h⟩ kk
      have hg := hG.2.2.1 i hi
      have hq := hG.2.2.2 i a hi ha4
      have hti := (hN.2.2.1 i hi).2.1
      have hff := (hN.2.2.1 i hi).1
      obtain ⟨f1, f2⟩ := hfi i hi
      have hmi := h i hi
      rw [if_neg (Nat.lt_irrefl _)] at hmi
      have G : Fr kM X m := (F0.mono (by decide)).step F (by decide)
      have e4 : 4 * nI i + nI a = nI (4 * i + a) := by rw [L32 4, pk_mul, nI_add]
      rw [fX11_unfireMark_l40, G.oI (by decide), hG.1.2, if_neg (nI_ge hi (by omega)), G.n, ln1238 hl, chk_nI (by omega) (by omega), G.n, ln1214 hl, chk_nI (by omega) (by omega), nI_clamp (by omega), G.aI (k := 1214) (by decide), hg.2.1]
      refine ok_call (P := fun x => x = nI (tkA N p a i)) ?_ ?_
      · by_cases e : nT N i = p
        · rw [if_pos (by rw [e]), G.n, ln1239 hl, chk_nI (by omega) (by omega), nI_clamp (by omega), F.aI (by decide), a0, e4, G.n, ln1216 hl, chk_nI (by omega) (by omega), nI_clamp (by omega), G.aI (k := 1216) (by decide), hq.2, tkA, if_pos e]
          exact ok_some rfl
        · rw [if_neg (fun q => e ((nI_eq (by omega) (by omega)).mp q)), tkA, if_neg e]
          exact ok_some rfl
      · rintro _ rfl
        rw [chk_nI (by omega) (by omega), bnd_eq, hmi, nI_add]
        have F1 : Fr [1238] X0 (sI m 1238 0 i (nI (mk N fs (fi c p) i + tkA N p a i))) := F.wI (by decide)
        have v1 : mI (sI m 1238 0 i (nI (mk N fs (fi c p) i + tkA N p a i))) 1238 0 i = nI (mk N fs (fi c p) i + tkA N p a i) := by rw [mI_sI, if_pos ⟨rfl, rfl, rfl⟩]
        have o1 : ∀ l, ¬ l = i → mI (sI m 1238 0 i (nI (mk N fs (fi c p) i + tkA N p a i))) 1238 0 l = mI m 1238 0 l := fun l hl => by rw [mI_sI, if_neg (fun z => hl z.2.2)]
        generalize sI m 1238 0 i (nI (mk N fs (fi c p) i + tkA N p a i)) = m1 at *
        have G1 : Fr kM X m1 := (F0.mono (by decide)).step F1 (by decide)
        rw [G1.n, ln1238 hl, chk_nI (by omega) (by omega), G1.n, ln1213 hl, chk_nI (by omega) (by omega), G1.aI (k := 1213) (by decide), hg.1]
        refine ok_call (P := fun x => x = nI (gvA N p a i)) ?_ ?_
        · by_cases e : nF N i = p
          · rw [if_pos (by rw [e]), G1.n, ln1239 hl, chk_nI (by omega) (by omega), nI_clamp (by omega), F1.aI (by decide), a0, e4, G1.n, ln1215 hl, chk_nI (by omega) (by omega), nI_clamp (by omega), G1.aI (k := 1215) (by decide), hq.1, gvA, if_pos e]
            exact ok_some rfl
          · rw [if_neg (fun q => e ((nI_eq (by omega) (by omega)).mp q)), gvA, if_neg e]
            exact ok_some rfl
        · rintro _ rfl
          have ev : mk N fs (fi c p) i + tkA N p a i - gvA N p a i = mk N fs c i := by omega
          rw [chk_nI (by omega) (by omega), bnd_eq, v1, pk_sub (by omega), ev, bnd_eq, nI_1]
          refine kk _ ⟨F1.wI (by decide), fun l hl' => ?_⟩
          rw [mI_sI]
          by_cases e : l = i
          · rw [if_pos ⟨rfl, rfl, e⟩, if_pos (by omega), e]
          · rw [if_neg (fun z => e z.2.2), o1 l e, h l hl']
            by_cases q : l < i
            · rw [if_pos q, if_pos (by omega)]
            · rw [if_neg q, if_neg (by omega)]
  refine ok_call key ?_
  rintro m ⟨F, h⟩
  exact ok_some ⟨(F0.mono (by decide)).step F (by decide), h, fun q hq => by rw [F.aI (by decide), F.aI (by decide)]; exact v9 q hq⟩
/-! least: stores kept and brought back -/
theorem m_keepS {X : tM} {N : NG} {k : Nat} {st : Nat → Nat} (hN : NOK N) (hl : Len X) (hG : Gr X N) (hk : k < 41) (hs : S46 X N st) : Ok (fX11_keepStores (nI k) X) (fun m => Fr [1251] X m ∧ (∀ l, l < nL N → mI m 1251 0 (20 * k + l) = nI (st l)) ∧ ∀ j, j < 20 * k → mI m 1251 0 j = mI X 1251 0 j) := by
  have hb := hN.1
  rw [fX11_keepStores]
  refine ok_call (P := fun m => Fr [1251] X m ∧ (∀ l, l < nL N → mI m 1251 0 (20 * k + l) = nI (st l)) ∧ ∀ j, j < 20 * k → mI m 1251 0 j = mI X 1251 0 j) ?_ (fun _ h => ok_some h)
  refine loop0 (fun n i m => fX11_keepStores_l2 (nI k) n i m) (nL N) (fun i m => Fr [1251] X m ∧ (∀ l, l < i → mI m 1251 0 (20 * k + l) = nI (st l)) ∧ ∀ j, j < 20 * k → mI m 1251 0 j = mI X 1251 0 j) _ (by omega) ?_ ?_ X ⟨Fr.refl, fun l hl => by omega, fun _ _ => rfl⟩
  · rintro n m ⟨F, h⟩
    rw [fX11_keepStores_l2, F.oI (by decide), hG.1.2, if_pos (nI_le (Nat.le_refl _) (by omega))]
    exact ok_some ⟨F, h⟩
  · rintro n i m hi ⟨F, h, h2⟩ kk
    have e1 : 20 * nI k + nI i = nI (20 * k + i) := by rw [L32 20, pk_mul, nI_add]
    rw [fX11_keepStores_l2, F.oI (by decide), hG.1.2, if_neg (nI_ge hi (by omega)), F.n, ln1246 hl, chk_nI (by omega) (by omega), e1, F.n, ln1251 hl, chk_nI (by omega) (by omega), bnd_eq, bnd_eq, nI_1, nI_clamp (by omega), nI_clamp (by omega), F.aI (by decide), hs i hi]
    refine kk _ ⟨F.wI (by decide), fun l hl' => ?_, fun j hj => ?_⟩
    · rw [mI_sI]
      by_cases e : l = i
      · rw [if_pos ⟨rfl, rfl, by rw [e]⟩, e]
      · rw [if_neg (by omega)]; exact h l (by omega)
    · rw [mI_sI, if_neg (by omega)]; exact h2 j hj
theorem m_bringS {X : tM} {N : NG} {k : Nat} {st : Nat → Nat} (hN : NOK N) (hl : Len X) (hG : Gr X N) (hk : k < 41) (hs : ∀ l, l < nL N → mI X 1251 0 (20 * k + l) = nI (st l)) : Ok (fX11_bringStores (nI k) X) (fun m => Fr [1246] X m ∧ S46 m N st) := by
  have hb := hN.1
  rw [fX11_bringStores]
  refine ok_call (P := fun m => Fr [1246] X m ∧ S46 m N st) ?_ (fun _ h => ok_some h)
  refine loop0 (fun n i m => fX11_bringStores_l2 (nI k) n i m) (nL N) (fun i m => Fr [1246] X m ∧ ∀ l, l < i → mI m 1246 0 l = nI (st l)) _ (by omega) ?_ ?_ X ⟨Fr.refl, fun l hl => by omega⟩
  · rintro n m ⟨F, h⟩
    rw [fX11_bringStores_l2, F.oI (by decide), hG.1.2, if_pos (nI_le (Nat.le_refl _) (by omega))]
    exact ok_some ⟨F, h⟩
  · rintro n i m hi ⟨F, h⟩ kk
    have e1 : 20 * nI k + nI i = nI (20 * k + i) := by rw [L32 20, pk_mul, nI_add]
    rw [fX11_bringStores_l2, F.oI (by decide), hG.1.2, if_neg (nI_ge hi (by omega)), e1, F.n, ln1251 hl, chk_nI (by omega) (by omega), F.n, ln1246 hl, chk_nI (by omega) (by omega), bnd_eq, bnd_eq, nI_1, nI_clamp (by omega), nI_clamp (by omega), F.aI (by decide), hs i hi]
    refine kk _ ⟨F.wI (by decide), fun l hl' => ?_⟩
    rw [mI_sI]
    by_cases e : l = i
    · rw [if_pos ⟨rfl, rfl, e⟩, e]
    · rw [if_neg (fun z => e z.2.2)]; exact h l (by omega)
theorem c_keepS {M : tM} {N : NG} {k p : Nat} {st : Nat → Nat} (hN : NOK N) (hl : Len M) (hC : Cg M M N) (hp : p < nP N) (hk : k < 40) (hs : ∀ l, l < nL N → mI M 602 0 l = nI (st l)) : Ok (fX3_keepStores (some p) (nI k) M) (fun m => Fr [405] M m ∧ (∀ l, l < nL N → nF N l = p → mI m 405 0 (k * 20 + l) = nI (st l)) ∧ ∀ j, j < k * 20 → mI m 405 0 j = mI M 405 0 j) := by
  have hb := hN.1
  rw [fX3_keepStores, Option.bind_some, bnd_eq, (hC.2.1 p hp).1.2.2.2.2.2.2.2.1]
  refine ok_call (P := fun m => Fr [405] M m ∧ (∀ l, l < nL N → nF N l = p → mI m 405 0 (k * 20 + l) = nI (st l)) ∧ ∀ j, j < k * 20 → mI m 405 0 j = mI M 405 0 j) ?_ (fun _ h => ok_some h)
  refine loopC0 (fun n r m => fX3_keepStores_l5 (nI k) n r m) (nF N) p (nL N) (fun i m => Fr [405] M m ∧ (∀ l, l < i → nF N l = p → mI m 405 0 (k * 20 + l) = nI (st l)) ∧ ∀ j, j < k * 20 → mI m 405 0 j = mI M 405 0 j) _ hb.2 ?_ ?_ ?_ M ⟨Fr.refl, fun l hl => by omega, fun _ _ => rfl⟩
  · rintro n m h
    rw [fX3_keepStores_l5, if_pos rfl]
    exact ok_some h
  · rintro i m hi hne ⟨F, h, h2⟩
    refine ⟨F, fun l hl e => ?_, h2⟩
    by_cases q : l = i
    · subst q; exact absurd e hne
    · exact h l (by omega) e
  · rintro n i m hi he ⟨F, h, h2⟩ kk
    have hCm := hC.fr F (by decide)
    have cl := (hCm.2.2.1 i hi).1
    have e1 : nI k * 20 + nI i = nI (k * 20 + i) := by rw [L32 20, pk_mul, nI_add]
    rw [fX3_keepStores_l5, if_neg (by simp), Option.bind_some, cl.2.1, F.n, ln602 hl, chk_nI (by omega) (by omega), e1, F.n, ln405 hl, chk_nI (by omega) (by omega), bnd_eq, nI_clamp (by omega), nI_clamp (by omega), F.aI (by decide), hs i hi]
    have F1 : Fr [405] M (sI m 405 0 (k * 20 + i) (nI (st i))) := F.wI (by decide)
    rw [bnd_eq, ((hC.fr F1 (by decide)).2.2.1 i hi).1.2.2.2.2.2.2, he]
    refine kk _ ⟨F1, fun l hl' e => ?_, fun j hj => ?_⟩
    · rw [mI_sI]
      by_cases q : l = i
      · rw [if_pos ⟨rfl, rfl, by rw [q]⟩, q]
      · rw [if_neg (by omega)]; exact h l (by omega) e
    · rw [mI_sI, if_neg (by omega)]; exact h2 j hj
theorem c_giveS {M : tM} {N : NG} {k p : Nat} {st st' : Nat → Nat} (hN : NOK N) (hl : Len M) (hC : Cg M M N) (hp : p < nP N) (hk : k < 40) (hs : ∀ l, l < nL N → nF N l = p → mI M 405 0 (k * 20 + l) = nI (st l)) (h2 : ∀ l, l < nL N → mI M 602 0 l = nI (st' l)) : Ok (fX3_giveStoresBack (some p) (nI k) M) (fun m => Fr [602] M m ∧ ∀ l, l < nL N → mI m 602 0 l = nI (if nF N l = p then st l else st' l)) := by
  have hb := hN.1
  rw [fX3_giveStoresBack, Option.bind_some, bnd_eq, (hC.2.1 p hp).1.2.2.2.2.2.2.2.1]
  refine ok_call (P := fun m => Fr [602] M m ∧ ∀ l, l < nL N → mI m 602 0 l = nI (if nF N l = p then st l else st' l)) ?_ (fun _ h => ok_some h)
  refine loopC0 (fun n r m => fX3_giveStoresBack_l5 (nI k) n r m) (nF N) p (nL N) (fun i m => Fr [602] M m ∧ ∀ l, l < nL N → mI m 602 0 l = nI (if l < i then (if nF N l = p then st l else st' l) else st' l)) _ hb.2 ?_ ?_ ?_ M ⟨Fr.refl, fun l hl => by rw [if_neg (by omega)]; exact h2 l hl⟩
  · rintro n m ⟨F, h⟩
    rw [fX3_giveStoresBack_l5, if_pos rfl]
    exact ok_some ⟨F, fun l hl => by rw [h l hl, if_pos hl]⟩
  · rintro i m hi hne ⟨F, h⟩
    refine ⟨F, fun l hl => ?_⟩
    rw [h l hl]
    by_cases q : l = i
    · subst q; rw [if_neg (by omega), if_pos (by omega), if_neg hne]
    · by_cases z : l < i
      · rw [if_pos z, if_pos (show l < i + 1 by omega)]
      · rw [if_neg z, if_neg (show ¬ l < i + 1 by omega)]
  · rintro n i m hi he ⟨F, h⟩ kk
    have hCm := hC.fr F (by decide)
    have cl := (hCm.2.2.1 i hi).1
    have e1 : nI k * 20 + nI i = nI (k * 20 + i) := by rw [L32 20, pk_mul, nI_add]
    rw [fX3_giveStoresBack_l5, if_neg (by simp), Option.bind_some, cl.2.1, e1, F.n, ln405 hl, chk_nI (by omega) (by omega), F.n, ln602 hl, chk_nI (by omega) (by omega), bnd_eq, nI_clamp (by omega), nI_clamp (by omega), F.aI (by decide), hs i hi he]
    have F1 : Fr [602] M (sI m 602 0 i (nI (st i))) := F.wI (by decide)
    rw [bnd_eq, ((hC.fr F1 (by decide)).2.2.1 i hi).1.2.2.2.2.2.2, he]
    refine kk _ ⟨F1, fun l hl' => ?_⟩
    rw [mI_sI]
    by_cases q : l = i
    · rw [if_pos ⟨rfl, rfl, q⟩, if_pos (by omega), q, if_pos he]
    · rw [if_neg (fun z => q z.2.2), h l hl']
      by_cases z : l < i
      · rw [if_pos z, if_pos (show l < i + 1 by omega)]
      · rw [if_neg z, if_neg (show ¬ l < i + 1 by omega)]
theorem m_keepB {X : tM} {N : NG} {S : Nat} {st od : Nat → Nat} (hN : NOK N) (hl : Len X) (hG : Gr X N) (hS : S ≤ 40) (h36 : mI X 11 0 36 = nI S) (hs : S46 X N st) (ho : ∀ i, i < S → mI X 1250 0 i = nI (od i)) : Ok (fX11_keepBest X) (fun m => Fr [1252, 1253] X m ∧ (∀ i, i < S → mI m 1252 0 i = nI (od i)) ∧ ∀ l, l < nL N → mI m 1253 0 l = nI (st l)) := by
  have hb := hN.1
  rw [fX11_keepBest]
  have k1 : Ok (fX11_keepBest_l2 FU 0 X) (fun m => Fr [1252] X m ∧ ∀ i, i < S → mI m 1252 0 i = nI (od i)) := by
    refine loop0 (fun n i m => fX11_keepBest_l2 n i m) S (fun i m => Fr [1252] X m ∧ ∀ l, l < i → mI m 1252 0 l = nI (od l)) _ (by omega) ?_ ?_ X ⟨Fr.refl, fun l hl => by omega⟩
    · rintro n m ⟨F, h⟩
      rw [fX11_keepBest_l2, F.oI (by decide), h36, if_pos (nI_le (Nat.le_refl _) (by omega))]
      exact ok_some ⟨F, h⟩
    · rintro n i m hi ⟨F, h⟩ kk
      rw [fX11_keepBest_l2, F.oI (by decide), h36, if_neg (nI_ge hi (by omega)), F.n, ln1250 hl, chk_nI (by omega) (by omega), F.n, ln1252 hl, chk_nI (by omega) (by omega), bnd_eq, bnd_eq, nI_1, nI_clamp (by omega), F.aI (by decide), ho i hi]
      refine kk _ ⟨F.wI (by decide), fun l hl' => ?_⟩
      rw [mI_sI]
      by_cases e : l = i
      · rw [if_pos ⟨rfl, rfl, e⟩, e]
      · rw [if_neg (fun z => e z.2.2)]; exact h l (by omega)
  refine ok_call k1 ?_
  rintro X1 ⟨F1, h1⟩
  have k2 : Ok (fX11_keepBest_l30 FU 0 X1) (fun m => Fr [1253] X1 m ∧ ∀ l, l < nL N → mI m 1253 0 l = nI (st l)) := by
    refine loop0 (fun n i m => fX11_keepBest_l30 n i m) (nL N) (fun i m => Fr [1253] X1 m ∧ ∀ l, l < i → mI m 1253 0 l = nI (st l)) _ (by omega) ?_ ?_ X1 ⟨Fr.refl, fun l hl => by omega⟩
    · rintro n m ⟨F, h⟩
      rw [fX11_keepBest_l30, F.oI (by decide), F1.oI (by decide), hG.1.2, if_pos (nI_le (Nat.le_refl _) (by omega))]
      exact ok_some ⟨F, h⟩
    · rintro n i m hi ⟨F, h⟩ kk
      rw [fX11_keepBest_l30, F.oI (by decide), F1.oI (by decide), hG.1.2, if_neg (nI_ge hi (by omega)), F.n, F1.n, ln1246 hl, chk_nI (by omega) (by omega), F.n, F1.n, ln1253 hl, chk_nI (by omega) (by omega), bnd_eq, bnd_eq, nI_1, nI_clamp (by omega), F.aI (by decide), F1.aI (by decide), hs i hi]
      refine kk _ ⟨F.wI (by decide), fun l hl' => ?_⟩
      rw [mI_sI]
      by_cases e : l = i
      · rw [if_pos ⟨rfl, rfl, e⟩, e]
      · rw [if_neg (fun z => e z.2.2)]; exact h l (by omega)
  refine ok_call k2 ?_
  rintro X2 ⟨F2, h2⟩
  exact ok_some ⟨(F1.mono (by decide)).step F2 (by decide), fun i hi => (F2.aI (by decide)).trans (h1 i hi), h2⟩
