/-! MARKINGS in memory, the class's -/
def MC (M : tM) (N : NG) (R fs c : Nat → Nat) : Prop := (∀ l, l < nL N → mI M 601 0 l = nI (mk N fs c l)) ∧ (∀ p, p < nP N → mI M 603 0 p = nI (R p - c p) ∧ mI M 604 0 p = nI (c p % nH N p)) ∧ mI M 5 0 6 = nI (sumTo (fun p => R p - c p) (nP N))
def SC (M : tM) (N : NG) (st : Nat → Nat) (k : Nat) (la : Nat → Nat) : Prop := (∀ l, l < nL N → mI M 602 0 l = nI (st l) ∧ st l ≤ 2000000) ∧ mI M 5 0 7 = nI (sumTo st (nL N)) ∧ mI M 5 0 8 = nI k ∧ ∀ p, p < nP N → mI M 605 0 p = nI (la p)
def kK : List Nat := [601, 602, 603, 604, 605, 60006, 60007, 60008]
theorem c_can {M X : tM} {N : NG} {R fs c : Nat → Nat} {p : Nat} (hN : NOK N) (hl : Len M) (hC : Cg M X N) (hM : MC M N R fs c) (hB : RB N R fs) (hK : cOK N R fs c) (hp : p < nP N) : (fX5_canFire (some p) M = some 1 ∧ en N R fs c p) ∨ (fX5_canFire (some p) M = some 0 ∧ ¬ en N R fs c p) := by
  have hb := hN.1
  have hR := hB.1 p hp
  have cp := (hC.2.1 p hp).1
  obtain ⟨m3, m4⟩ := hM.2.1 p hp
  rw [fX5_canFire, Option.bind_some, cp.2.1, ln603 hl, chk_nI (by omega) (by omega), nI_clamp (by omega), m3]
  by_cases r : c p < R p
  rotate_left
  · rw [if_neg (show ¬ (0 : Int32) < nI (R p - c p) by rw [show R p - c p = 0 by omega]; decide)]
    exact Or.inr ⟨rfl, fun z => r z.1⟩
  rw [if_pos (show (0 : Int32) < nI (R p - c p) from nI_lt (a := 0) (by omega) (by omega)), ln604 hl, chk_nI (by omega) (by omega), bnd_eq, m4, bnd_eq, cp.2.2.2.2.2.1]
  obtain ⟨ha, ha4⟩ := ph_lt hN hp (c p)
  have key : Ok (fX5_canFire_l29 (nI (c p % nH N p)) M FU (nx (nT N) p (nL N) 0)) (fun w => (w = .inr () ∧ tk N fs c p) ∨ (w = .inl 0 ∧ ¬ tk N fs c p)) := by
    refine loopC0 (fun n r (_ : Unit) => fX5_canFire_l29 (nI (c p % nH N p)) M n r) (nT N) p (nL N) (fun i _ => ∀ l, l < i → nT N l = p → nK N l (c p % nH N p) ≤ mk N fs c l) _ hb.2 ?_ ?_ ?_ () (fun l hl => by omega)
    · intro n _ h
      rw [fX5_canFire_l29, if_pos rfl]
      exact ok_some (Or.inl ⟨rfl, h⟩)
    · intro i _ hi hne h l hl ht
      by_cases e : l = i
      · subst e; exact absurd ht hne
      · exact h l (by omega) ht
    · intro n i _ hi he h kk
      have hk := (hN.2.2.2 i _ hi ha4).2.1
      have ob := mk_le hN hB hK hi
      have cl := (hC.2.2.1 i hi).1
      rw [fX5_canFire_l29, if_neg (by simp), Option.bind_some, cl.2.1, ln601 hl, chk_nI (by omega) (by omega), cTakes hN hC hi (by rw [he]; exact ha), Option.bind_some, nI_clamp (by omega), hM.1 i hi]
      by_cases q : nK N i (c p % nH N p) ≤ mk N fs c i
      · rw [if_pos (nI_le q (by omega)), bnd_eq, cl.2.2.2.2.2.1, he]
        refine kk () (fun l hl ht => ?_)
        by_cases e : l = i
        · subst e; exact q
        · exact h l (by omega) ht
      · rw [if_neg (nI_ge (by omega) (by omega))]
        exact ok_some (Or.inr ⟨rfl, fun hr => q (hr i hi he)⟩)
  obtain ⟨w, e, k⟩ := key
  rw [e, Option.bind_some]
  rcases k with ⟨rfl, k⟩ | ⟨rfl, k⟩
  · exact Or.inl ⟨rfl, (en_iff hK).mpr ⟨r, k⟩⟩
  · exact Or.inr ⟨rfl, fun z => k ((en_iff hK).mp z).2⟩
/-- the greatest stores behind a FIRING of p -/
def st1 (N : NG) (fs c st : Nat → Nat) (p l : Nat) : Nat := if nF N l = p then max (st l) (mk N fs (fi c p) l) else st l
theorem c_sl15 {M : tM} {N : NG} {fs c : Nat → Nat} {p a : Nat} (hN : NOK N) (hl : Len M) (hC : Cg M M N) (hM : ∀ l, l < nL N → mI M 601 0 l = nI (mk N fs c l)) (ha : a < nH N p) (hk : ∀ l, l < nL N → tkA N p a l ≤ mk N fs c l) :
    Ok (fX5_step_l15 p (nI a) FU (nx (nT N) p (nL N) 0) M) (fun m => Fr [601] M m ∧ ∀ l, l < nL N → mI m 601 0 l = nI (mk N fs c l - tkA N p a l)) := by
  have hb := hN.1
  refine loopC0 (fun n r m => fX5_step_l15 p (nI a) n r m) (nT N) p (nL N) (fun i m => Fr [601] M m ∧ ∀ l, l < nL N → mI m 601 0 l = nI (if l < i then mk N fs c l - tkA N p a l else mk N fs c l)) _ hb.2 ?_ ?_ ?_ M ⟨Fr.refl, fun l hl => by rw [if_neg (by omega)]; exact hM l hl⟩
  · rintro n m ⟨F, h⟩
    rw [fX5_step_l15, if_pos rfl]
    exact ok_some ⟨F, fun l hl => by rw [h l hl, if_pos hl]⟩
  · rintro i m hi hne ⟨F, h⟩
    refine ⟨F, fun l hl => ?_⟩
    rw [h l hl]
    by_cases e : l = i
    · subst e
      rw [if_neg (by omega), if_pos (by omega), tkA, if_neg hne]; rfl
    · by_cases q : l < i
      · rw [if_pos q, if_pos (by omega)]
      · rw [if_neg q, if_neg (by omega)]
  · rintro n i m hi he ⟨F, h⟩ kk
    have hCm := hC.fr F (by decide)
    have cl := (hCm.2.2.1 i hi).1
    have hmi := h i hi
    rw [if_neg (Nat.lt_irrefl _)] at hmi
    have hki := hk i hi
    have ek : tkA N p a i = nK N i a := if_pos he
    rw [fX5_step_l15, if_neg (by simp), Option.bind_some, bnd_eq, cl.2.1, F.n, ln601 hl, chk_nI (by omega) (by omega), cTakes hN hCm hi (by rw [he]; exact ha), Option.bind_some, chk_nI (by omega) (by omega), bnd_eq, nI_clamp (by omega), hmi, ← ek, pk_sub hki]
    have F1 : Fr [601] M (sI m 601 0 i (nI (mk N fs c i - tkA N p a i))) := F.wI (by decide)
    rw [bnd_eq, ((hC.fr F1 (by decide)).2.2.1 i hi).1.2.2.2.2.2.1, he]
    refine kk _ ⟨F1, fun l hl' => ?_⟩
    rw [mI_sI]
    by_cases e : l = i
    · rw [if_pos ⟨rfl, rfl, e⟩, if_pos (by omega), e]
    · rw [if_neg (fun z => e z.2.2), h l hl']
      by_cases q : l < i
      · rw [if_pos q, if_pos (by omega)]
      · rw [if_neg q, if_neg (by omega)]
theorem c_sl49 {M : tM} {N : NG} {m1 m2 st st' : Nat → Nat} {p a : Nat} (hN : NOK N) (hl : Len M) (hC : Cg M M N) (hM : ∀ l, l < nL N → mI M 601 0 l = nI (m1 l)) (hS : ∀ l, l < nL N → mI M 602 0 l = nI (st l)) (h7 : mI M 5 0 7 = nI (sumTo st (nL N))) (ha : a < nH N p)
    (e2 : ∀ l, l < nL N → m2 l = m1 l + gvA N p a l) (b2 : ∀ l, l < nL N → m2 l ≤ 2000000 ∧ st l ≤ 2000000) (es : ∀ l, l < nL N → st' l = if nF N l = p then max (st l) (m2 l) else st l) :
    Ok (fX5_step_l49 p (nI a) FU (nx (nF N) p (nL N) 0) M) (fun m => Fr [601, 602, 60007] M m ∧ (∀ l, l < nL N → mI m 601 0 l = nI (m2 l)) ∧ (∀ l, l < nL N → mI m 602 0 l = nI (st' l)) ∧ mI m 5 0 7 = nI (sumTo st' (nL N))) := by
  have hb := hN.1
  refine loopC0 (fun n r m => fX5_step_l49 p (nI a) n r m) (nF N) p (nL N) (fun i m => Fr [601, 602, 60007] M m ∧ (∀ l, l < nL N → mI m 601 0 l = nI (if l < i then m2 l else m1 l)) ∧ (∀ l, l < nL N → mI m 602 0 l = nI (if l < i then st' l else st l)) ∧ mI m 5 0 7 = nI (sumTo (fun l => if l < i then st' l else st l) (nL N))) _ hb.2 ?_ ?_ ?_ M ⟨Fr.refl, fun l hl => by rw [if_neg (by omega)]; exact hM l hl, fun l hl => by rw [if_neg (by omega)]; exact hS l hl, by rw [h7]; congr 1⟩
  · rintro n m ⟨F, h1, h2, h3⟩
    rw [fX5_step_l49, if_pos rfl]
    refine ok_some ⟨F, fun l hl => by rw [h1 l hl, if_pos hl], fun l hl => by rw [h2 l hl, if_pos hl], ?_⟩
    rw [h3]; congr 1
    exact sumTo_congr (fun l hl => if_pos hl)
  · rintro i m hi hne ⟨F, h1, h2, h3⟩
    have q1 : m2 i = m1 i := by rw [e2 i hi, gvA, if_neg hne]; rfl
    have q2 : st' i = st i := by rw [es i hi, if_neg hne]
    refine ⟨F, fun l hl => ?_, fun l hl => ?_, ?_⟩
    · rw [h1 l hl]
      by_cases e : l = i
      · subst e; rw [if_neg (by omega), if_pos (by omega), q1]
      · by_cases q : l < i
        · rw [if_pos q, if_pos (by omega)]
        · rw [if_neg q, if_neg (by omega)]
    · rw [h2 l hl]
      by_cases e : l = i
      · subst e; rw [if_neg (by omega), if_pos (by omega), q2]
      · by_cases q : l < i
        · rw [if_pos q, if_pos (by omega)]
        · rw [if_neg q, if_neg (by omega)]
    · rw [h3]; congr 1
      refine sumTo_congr (fun l hl => ?_)
      by_cases e : l = i
      · subst e; rw [if_neg (by omega), if_pos (by omega), q2]
      · by_cases q : l < i
        · rw [if_pos q, if_pos (by omega)]
        · rw [if_neg q, if_neg (by omega)]
  · rintro n i m hi he ⟨F, h1, h2, h3⟩ kk
    have hCm := hC.fr F (by decide)
    have cl := (hCm.2.2.1 i hi).1
    have i1 := h1 i hi
    have i2 := h2 i hi
    rw [if_neg (Nat.lt_irrefl _)] at i1 i2
    have eg : gvA N p a i = nG N i a := if_pos he
    have e2i := e2 i hi
    have esi := es i hi
    rw [if_pos he] at esi
    obtain ⟨b2a, b2b⟩ := b2 i hi
    rw [fX5_step_l49, if_neg (by simp), Option.bind_some, cl.2.1, F.n, ln601 hl, chk_nI (by omega) (by omega), cGives hN hCm hi (by rw [he]; exact ha), Option.bind_some, bnd_eq, nI_clamp (by omega), i1, ← eg, nI_add, ← e2i, chk_nI (by omega) (by omega), bnd_eq]
    have F1 : Fr [601, 602, 60007] M (sI m 601 0 i (nI (m2 i))) := F.wI (by decide)
    have v1 : ∀ l, l < nL N → mI (sI m 601 0 i (nI (m2 i))) 601 0 l = nI (if l < i + 1 then m2 l else m1 l) := fun l hl' => by
      rw [mI_sI]
      by_cases e : l = i
      · rw [if_pos ⟨rfl, rfl, e⟩, if_pos (by omega), e]
      · rw [if_neg (fun z => e z.2.2), h1 l hl']
        by_cases q : l < i
        · rw [if_pos q, if_pos (by omega)]
        · rw [if_neg q, if_neg (by omega)]
    have v2 : ∀ l, mI (sI m 601 0 i (nI (m2 i))) 602 0 l = mI m 602 0 l := fun l => by rw [mI_sI, if_neg (by simp)]
    have v3 : mI (sI m 601 0 i (nI (m2 i))) 5 0 7 = mI m 5 0 7 := by rw [mI_sI, if_neg (by simp)]
    generalize sI m 601 0 i (nI (m2 i)) = mm at *
    have cl1 := ((hC.fr F1 (by decide)).2.2.1 i hi).1.2.1
    rw [cl1, F1.n, ln602 hl, chk_nI (by omega) (by omega), nI_clamp (by omega), v2, i2]
    refine ok_call (P := fun m3 => Fr [601, 602, 60007] M m3 ∧ (∀ l, l < nL N → mI m3 601 0 l = nI (if l < i + 1 then m2 l else m1 l)) ∧ (∀ l, l < nL N → mI m3 602 0 l = nI (if l < i + 1 then st' l else st l)) ∧ mI m3 5 0 7 = nI (sumTo (fun l => if l < i + 1 then st' l else st l) (nL N))) ?_ ?_
    · by_cases c : m2 i ≤ st i
      · rw [if_pos (nI_le c (by omega))]
        have q2 : st' i = st i := by rw [esi]; omega
        refine ok_some ⟨F1, v1, fun l hl => ?_, ?_⟩
        · rw [v2, h2 l hl]
          by_cases e : l = i
          · subst e; rw [if_neg (by omega), if_pos (by omega), q2]
          · by_cases q : l < i
            · rw [if_pos q, if_pos (by omega)]
            · rw [if_neg q, if_neg (by omega)]
        · rw [v3, h3]; congr 1
          refine sumTo_congr (fun l hl => ?_)
          by_cases e : l = i
          · subst e; rw [if_neg (by omega), if_pos (by omega), q2]
          · by_cases q : l < i
            · rw [if_pos q, if_pos (by omega)]
            · rw [if_neg q, if_neg (by omega)]
      · rw [if_neg (nI_ge (by omega) (by omega)), chk_nI (by omega) (by omega), bnd_eq, v3, h3, pk_sub (by omega), nI_add]
        have F2 : Fr [601, 602, 60007] M (sI mm 5 0 7 (nI (sumTo (fun l => if l < i then st' l else st l) (nL N) + (m2 i - st i)))) := F1.wIo (by decide)
        have cl2 := ((hC.fr F2 (by decide)).2.2.1 i hi).1.2.1
        rw [cl2, F2.n, ln602 hl, chk_nI (by omega) (by omega), bnd_eq, nI_clamp (by omega)]
        have q2 : st' i = m2 i := by rw [esi]; omega
        refine ok_some ⟨F2.wI (by decide), fun l hl => ?_, fun l hl => ?_, ?_⟩
        · rw [mI_sI, if_neg (by simp), mI_sI, if_neg (by simp)]; exact v1 l hl
        · rw [mI_sI]
          by_cases e : l = i
          · rw [if_pos ⟨rfl, rfl, e⟩, if_pos (by omega), e, q2]
          · rw [if_neg (fun z => e z.2.2), mI_sI, if_neg (by simp), v2, h2 l hl]
            by_cases q : l < i
            · rw [if_pos q, if_pos (by omega)]
            · rw [if_neg q, if_neg (by omega)]
        · rw [mI_sI, if_neg (by simp), mI_sI, if_pos ⟨rfl, rfl, rfl⟩]
          congr 1
          refine (sumTo_upd hi ?_ (fun j hj hne => ?_)).symm
          · show (if i < i + 1 then st' i else st i) = (if i < i then st' i else st i) + (m2 i - st i)
            rw [if_pos (by omega), if_neg (by omega), q2]; omega
          · show (if j < i + 1 then st' j else st j) = (if j < i then st' j else st j)
            by_cases q : j < i
            · rw [if_pos q, if_pos (by omega)]
            · rw [if_neg q, if_neg (by omega)]
    · rintro m3 ⟨F3, k1, k2, k3⟩
      rw [bnd_eq, ((hC.fr F3 (by decide)).2.2.1 i hi).1.2.2.2.2.2.2, he]
      exact kk m3 ⟨F3, k1, k2, k3⟩
theorem c_step {M : tM} {N : NG} {R fs c st la : Nat → Nat} {p k : Nat} (hN : NOK N) (hl : Len M) (hC : Cg M M N) (hM : MC M N R fs c) (hS : SC M N st k la) (hB : RB N R fs) (hK : cOK N R fs c) (hp : p < nP N) (he : en N R fs c p) :
    Ok (fX5_step (some p) M) (fun m => Fr kK M m ∧ MC m N R fs (fi c p) ∧ SC m N (st1 N fs c st p) (k + 1) (fun q => if q = p then k + 1 else la q)) := by
  have hb := hN.1
  have hRp := hB.1 p hp
  have cp := (hC.2.1 p hp).1
  obtain ⟨m3, m4⟩ := hM.2.1 p hp
  obtain ⟨ha, ha4⟩ := ph_lt hN hp (c p)
  have hfi := fun l (hl : l < nL N) => mk_fi hK he hl
  have hK2 := cOK_fi hK he
  have hph : (c p % nH N p + 1) % nH N p = (c p + 1) % nH N p := by rw [Nat.mod_add_mod]
  generalize hae : c p % nH N p = a at *
  rw [fX5_step, Option.bind_some, cp.2.1, ln604 hl, chk_nI (by omega) (by omega), bnd_eq, nI_clamp (by omega), m4, bnd_eq, cp.2.2.2.2.2.1]
  refine ok_call (c_sl15 hN hl hC hM.1 ha (fun l hl => (hfi l hl).1)) ?_
  rintro M1 ⟨F1, k1⟩
  have hC1 := hC.fr F1 (by decide)
  rw [bnd_eq, (hC1.2.1 p hp).1.2.2.2.2.2.2.2.1]
  refine ok_call (c_sl49 (m2 := fun l => mk N fs (fi c p) l) (st := st) (st' := st1 N fs c st p) hN (hl.fr F1) hC1 k1 (fun l hl => (F1.aI (by decide)).trans (hS.1 l hl).1) ((F1.oI (by decide)).trans hS.2.1) ha (fun l hl => (hfi l hl).2) (fun l hl => ⟨by have := mk_le hN hB hK2 hl; show mk N fs (fi c p) l ≤ 2000000; omega, (hS.1 l hl).2⟩) (fun l hl => rfl)) ?_
  rintro M2 ⟨F2, k2, k3, k4⟩
  have F3 : Fr [601, 602, 60007] M M2 := (F1.mono (by decide)).step F2 (by decide)
  have hC2 := hC.fr F3 (by decide)
  have hh := (hN.2.1 p hp).2.2.1
  have eph : fX7_phaseBehind p (nI a) M2 = some (nI ((c p + 1) % nH N p)) := by
    rw [fX7_phaseBehind, (hC2.2.1 p hp).1.2.2.2.2.1, nI_1, ← hph]
    by_cases c : nH N p ≤ a + 1
    · rw [if_pos (nI_le c (by omega)), show a + 1 = nH N p by omega, Nat.mod_self]; rfl
    · rw [if_neg (nI_ge (by omega) (by omega)), Nat.mod_eq_of_lt (by omega)]
  rw [eph, Option.bind_some, (hC2.2.1 p hp).1.2.1, F3.n, ln604 hl, chk_nI (by omega) (by omega), bnd_eq, nI_clamp (by omega)]
  have F4 : Fr [601, 602, 604, 60007] M (sI M2 604 0 p (nI ((c p + 1) % nH N p))) := (F3.mono (by decide)).wI (by decide)
  have es : nI (R p - c p) - 1 = nI (R p - (c p + 1)) := by
    have := he.1
    rw [L32 1, pk_sub (by omega), Nat.sub_sub]
  have v3 : mI (sI M2 604 0 p (nI ((c p + 1) % nH N p))) 603 0 p = nI (R p - c p) := by rw [F4.aI (by decide)]; exact m3
  rw [bnd_eq, ((hC.fr F4 (by decide)).2.1 p hp).1.2.1, F4.n, ln603 hl, chk_nI (by omega) (by omega), chk_nI (by omega) (by omega), bnd_eq, nI_clamp (by omega), v3, es, bnd_eq, bnd_eq]
  have F5 : Fr [603, 604] M2 (sI (sI M2 604 0 p (nI ((c p + 1) % nH N p))) 603 0 p (nI (R p - (c p + 1)))) := (Fr.refl.wI (by decide)).wI (by decide)
  have w3 : ∀ q, mI (sI (sI M2 604 0 p (nI ((c p + 1) % nH N p))) 603 0 p (nI (R p - (c p + 1)))) 603 0 q = if q = p then nI (R p - (c p + 1)) else mI M 603 0 q := fun q => by
    rw [mI_sI]
    by_cases e : q = p
    · rw [if_pos ⟨rfl, rfl, e⟩, if_pos e]
    · rw [if_neg (fun z => e z.2.2), if_neg e, mI_sI, if_neg (by simp), F3.aI (by decide)]
  have w4 : ∀ q, mI (sI (sI M2 604 0 p (nI ((c p + 1) % nH N p))) 603 0 p (nI (R p - (c p + 1)))) 604 0 q = if q = p then nI ((c p + 1) % nH N p) else mI M 604 0 q := fun q => by
    rw [mI_sI, if_neg (by simp), mI_sI]
    by_cases e : q = p
    · rw [if_pos ⟨rfl, rfl, e⟩, if_pos e]
    · rw [if_neg (fun z => e z.2.2), if_neg e, F3.aI (by decide)]
  generalize sI (sI M2 604 0 p (nI ((c p + 1) % nH N p))) 603 0 p (nI (R p - (c p + 1))) = M5 at *
  have F6 : Fr [601, 602, 603, 604, 60007] M M5 := (F3.mono (by decide)).step F5 (by decide)
  have hs := sum_fi hp he.1
  have s6 : mI M5 5 0 6 = nI (sumTo (fun q => R q - c q) (nP N)) := by rw [F6.oI (by decide)]; exact hM.2.2
  have s8 : mI M5 5 0 8 = nI k := by rw [F6.oI (by decide)]; exact hS.2.2.1
  have es6 : nI (sumTo (fun q => R q - c q) (nP N)) - 1 = nI (sumTo (fun q => R q - fi c p q) (nP N)) := by rw [hs, L32 1, pk_sub (by omega)]; rfl
  have s8' : mI (sI M5 5 0 6 (nI (sumTo (fun q => R q - fi c p q) (nP N)))) 5 0 8 = nI k := by rw [mI_sI, if_neg (by simp), s8]
  rw [s6, es6, s8', nI_1]
  have F7 : Fr [60006, 60008] M5 (sI (sI M5 5 0 6 (nI (sumTo (fun q => R q - fi c p q) (nP N)))) 5 0 8 (nI (k + 1))) := (Fr.refl.wIo (by decide)).wIo (by decide)
  have w6 : mI (sI (sI M5 5 0 6 (nI (sumTo (fun q => R q - fi c p q) (nP N)))) 5 0 8 (nI (k + 1))) 5 0 6 = nI (sumTo (fun q => R q - fi c p q) (nP N)) := by simp [mI_sI]
  have w8 : mI (sI (sI M5 5 0 6 (nI (sumTo (fun q => R q - fi c p q) (nP N)))) 5 0 8 (nI (k + 1))) 5 0 8 = nI (k + 1) := by simp [mI_sI]
  generalize sI (sI M5 5 0 6 (nI (sumTo (fun q => R q - fi c p q) (nP N)))) 5 0 8 (nI (k + 1)) = M7 at *
  have F8 : Fr [601, 602, 603, 604, 60006, 60007, 60008] M M7 := (F6.mono (by decide)).step F7 (by decide)
  rw [((hC.fr F8 (by decide)).2.1 p hp).1.2.1, F8.n, ln605 hl, chk_nI (by omega) (by omega), bnd_eq, nI_clamp (by omega), w8]
  have F9 : Fr [605] M7 (sI M7 605 0 p (nI (k + 1))) := Fr.refl.wI (by decide)
  refine ok_some ⟨(F8.mono (by decide)).step F9 (by decide), ⟨fun l hl => ?_, fun q hq => ?_, ?_⟩, fun l hl' => ⟨?_, ?_⟩, ?_, ?_, fun q hq => ?_⟩
  · rw [F9.aI (by decide), F7.aI (by decide), F5.aI (by decide)]; exact k2 l hl
  · rw [F9.aI (by decide), F7.aI (by decide), w3, F9.aI (by decide), F7.aI (by decide), w4]
    by_cases e : q = p
    · subst e; rw [if_pos rfl, if_pos rfl, fi_same]; exact ⟨rfl, rfl⟩
    · rw [if_neg e, if_neg e, fi_ne e]; exact hM.2.1 q hq
  · rw [F9.oI (by decide)]; exact w6
  · rw [F9.aI (by decide), F7.aI (by decide), F5.aI (by decide)]; exact k3 l hl'
  · have h1 := mk_le hN hB hK2 hl'
    have h2 := (hS.1 l hl').2
    rw [st1]; split <;> omega
  · rw [F9.oI (by decide), F7.oI (by decide), F5.oI (by decide)]; exact k4
  · rw [F9.oI (by decide)]; exact w8
  · show _ = nI (if q = p then k + 1 else la q)
    rw [mI_sI]
    by_cases e : q = p
    · rw [if_pos ⟨rfl, rfl, e⟩, if_pos e]
    · rw [if_neg (fun z => e z.2.2), if_neg e, F8.aI (by decide)]; exact hS.2.2.2 q hq
/-- the class's memory with counts, whatever the stores -/
def MCS (M : tM) (N : NG) (R fs c : Nat → Nat) : Prop := MC M N R fs c ∧ cOK N R fs c ∧ ∃ st k la, SC M N st k la
theorem sum_up {N : NG} {c : Nat → Nat} {p : Nat} (hp : p < nP N) : sumTo (fi c p) (nP N) = sumTo c (nP N) + 1 :=
  sumTo_upd hp (fi_same c p) (fun j _ hne => fi_ne hne)
theorem sum_run {N : NG} {R fs : Nat → Nat} : ∀ {ps : List Nat} {c : Nat → Nat}, okRun N R fs c ps → sumTo (toRun c ps) (nP N) = sumTo c (nP N) + ps.length
  | [], c, _ => rfl
  | p :: ps, c, h => by
    rw [toRun, sum_run h.2, sum_up h.1.1, List.length_cons]; omega
theorem c_el49 {N : NG} {R fs : Nat → Nat} {p : Nat} {z2 z3 : Int32} (hN : NOK N) (hB : RB N R fs) (hp : p < nP N) : ∀ d n c M y, R p - c p = d → d < n → Len M → Cg M M N → MCS M N R fs c →
    Ok (fX5_exhaust_l49 z2 z3 (some p) n y (nI d) M) (fun w => Fr kK M w.2 ∧ ∃ ps, okRun N R fs c ps ∧ MCS w.2 N R fs (toRun c ps) ∧ ¬ en N R fs (toRun c ps) p ∧ ((ps = [] ∧ w.1 = y) ∨ (¬ ps = [] ∧ w.1 = 1))) := by
  have hb := hN.1
  have hR := hB.1 p hp
  intro d
  induction d with
  | zero =>
    intro n c M y hd hn hl hC hM
    obtain ⟨n, rfl⟩ : ∃ m, n = m + 1 := ⟨n - 1, by omega⟩
    rw [fX5_exhaust_l49, if_pos (by decide)]
    exact ok_some ⟨Fr.refl, [], trivial, hM, fun z => by have := z.1; show False; have h : toRun c [] p = c p := rfl; omega, Or.inl ⟨rfl, rfl⟩⟩
  | succ d ih =>
    intro n c M y hd hn hl hC hM
    obtain ⟨n, rfl⟩ : ∃ m, n = m + 1 := ⟨n - 1, by omega⟩
    obtain ⟨h1, h2, st, k, la, h3⟩ := id hM
    rw [fX5_exhaust_l49, if_neg (nI_nle (by omega) (by omega))]
    rcases c_can hN hl hC h1 hB h2 hp with ⟨e, ee⟩ | ⟨e, ee⟩
    · rw [e, Option.bind_some, if_neg (by decide)]
      refine ok_call (c_step hN hl hC h1 h3 hB h2 hp ee) ?_
      rintro m ⟨F, k1, k2⟩
      have ed : nI (d + 1) + (-1) = nI d := pk_m1 d
      rw [bnd_eq, ed]
      refine (ih n (fi c p) m 1 (by rw [fi_same]; omega) (by omega) (hl.fr F) (hC.fr F (by decide)) ⟨k1, cOK_fi h2 ee, _, _, _, k2⟩).mono ?_
      rintro w ⟨F2, ps, g1, g2, g3, g4⟩
      refine ⟨F.step F2 (by decide), p :: ps, ⟨⟨hp, ee⟩, g1⟩, g2, g3, Or.inr ⟨by simp, ?_⟩⟩
      rcases g4 with ⟨-, g4⟩ | ⟨-, g4⟩ <;> exact g4
    · rw [e, Option.bind_some, if_pos rfl]
      exact ok_some ⟨Fr.refl, [], trivial, hM, ee, Or.inl ⟨rfl, rfl⟩⟩
theorem c_el19 {N : NG} {R fs c : Nat → Nat} {M : tM} {z2 : Int32} (hN : NOK N) (hB : RB N R fs) (hl : Len M) (hC : Cg M M N) (hM : MCS M N R fs c) :
    Ok (fX5_exhaust_l19 z2 FU 0 0 M) (fun w => Fr kK M w.2 ∧ ∃ ps, okRun N R fs c ps ∧ MCS w.2 N R fs (toRun c ps) ∧ ((ps = [] ∧ w.1 = 0 ∧ dead N R fs c) ∨ (¬ ps = [] ∧ w.1 = 1))) := by
  have hb := hN.1
  refine loop0 (fun n i (w : Int32 × tM) => fX5_exhaust_l19 z2 n w.1 i w.2) (nP N) (fun i w => Fr kK M w.2 ∧ ∃ ps, okRun N R fs c ps ∧ MCS w.2 N R fs (toRun c ps) ∧ ((ps = [] ∧ w.1 = 0 ∧ ∀ p, p < i → ¬ en N R fs c p) ∨ (¬ ps = [] ∧ w.1 = 1))) _ (by omega) ?_ ?_ (0, M) ⟨Fr.refl, [], trivial, hM, Or.inl ⟨rfl, rfl, fun p hp => by omega⟩⟩
  · rintro n ⟨y, m⟩ ⟨F, ps, g1, g2, g3⟩
    have F : Fr kK M m := F
    show Ok (fX5_exhaust_l19 z2 (n + 1) y (nI (nP N)) m) _
    rw [fX5_exhaust_l19, F.oI (by decide), hC.1.1, if_pos (nI_le (Nat.le_refl _) (by omega))]
    exact ok_some ⟨F, ps, g1, g2, g3⟩
  · rintro n i ⟨y, m⟩ hi ⟨F, ps, g1, g2, g3⟩ kk
    have F : Fr kK M m := F
    show Ok (fX5_exhaust_l19 z2 (n + 1) y (nI i) m) _
    have g2 : MCS m N R fs (toRun c ps) := g2
    have hR := hB.1 i hi
    rw [fX5_exhaust_l19, F.oI (by decide), hC.1.1, if_neg (nI_ge hi (by omega)), F.n, ln200 hl, chk_nI (by omega) (by omega), bnd_eq, nI_clamp (by omega), F.aR (by decide), (hC.2.1 i hi).1.1, F.n, ln603 hl, chk_nI (by omega) (by omega), bnd_eq, (g2.1.2.1 i hi).1]
    refine ok_call (c_el49 (z2 := z2) (z3 := nI i) hN hB hi _ FU (toRun c ps) m y rfl (FU_lt (by omega)) (hl.fr F) (hC.fr F (by decide)) g2) ?_
    rintro ⟨y2, m2⟩ ⟨F2, qs, k1, k2, k3, k4⟩
    show Ok (bnd (nI i + 1) fun x19 => fX5_exhaust_l19 z2 n y2 x19 m2) _
    rw [bnd_eq, nI_1]
    refine kk (y2, m2) ⟨F.step F2 (by decide), ps ++ qs, okRun_app.mpr ⟨g1, k1⟩, by rw [toRun_app]; exact k2, ?_⟩
    rcases k4 with ⟨rfl, k4⟩ | ⟨k4, k5⟩
    · rw [List.append_nil]
      have k4 : y2 = y := k4
      rcases g3 with ⟨g3, g4, g5⟩ | ⟨g3, g4⟩
      · refine Or.inl ⟨g3, k4.trans g4, fun p hp => ?_⟩
        by_cases e : p = i
        · subst e
          rw [g3] at k3; exact k3
        · exact g5 p (by omega)
      · exact Or.inr ⟨g3, k4.trans g4⟩
    · exact Or.inr ⟨by simp [k4], k5⟩
theorem c_el4 {N : NG} {R fs : Nat → Nat} (hN : NOK N) (hB : RB N R fs) : ∀ d n i c M y, 2001 - i = d → i ≤ 2001 → d + 1 < n → Len M → Cg M M N → MCS M N R fs c → ((y = 0 ∧ dead N R fs c) ∨ (y = 1 ∧ i ≤ sumTo c (nP N))) →
    Ok (fX5_exhaust_l4 n y (nI i) M) (fun m => Fr kK M m ∧ ∃ ps, okRun N R fs c ps ∧ dead N R fs (toRun c ps) ∧ MCS m N R fs (toRun c ps)) := by
  have hb := hN.1
  have top : ∀ c, cOK N R fs c → sumTo c (nP N) ≤ 2000 := fun c h => Nat.le_trans (sumTo_le (fun p hp => h.1 p hp)) hB.2.2
  intro d
  induction d with
  | zero =>
    intro n i c M y hd hi hn hl hC hM hy
    obtain ⟨n, rfl⟩ : ∃ m, n = m + 1 := ⟨n - 1, by omega⟩
    have := top c hM.2.1
    rcases hy with ⟨-, hy⟩ | ⟨-, hy⟩
    · rw [fX5_exhaust_l4, if_pos (show (2000 : Int32) < nI i from nI_lt (a := 2000) (by omega) (by omega))]
      exact ok_some ⟨Fr.refl, [], trivial, hy, hM⟩
    · omega
  | succ d ih =>
    intro n i c M y hd hi hn hl hC hM hy
    obtain ⟨n, rfl⟩ : ∃ m, n = m + 1 := ⟨n - 1, by omega⟩
    rw [fX5_exhaust_l4, if_neg (show ¬ (2000 : Int32) < nI i from nI_nlt (a := 2000) (by omega) (by omega))]
    rcases hy with ⟨rfl, hy⟩ | ⟨rfl, hy⟩
    · rw [if_pos rfl]
      exact ok_some ⟨Fr.refl, [], trivial, hy, hM⟩
    · rw [if_neg (by decide)]
      refine ok_call (c_el19 hN hB hl hC hM) ?_
      rintro ⟨y2, m⟩ ⟨F, ps, g1, g2, g3⟩
      show Ok (bnd (nI i + 1) fun x24 => fX5_exhaust_l4 n y2 x24 m) _
      rw [bnd_eq, nI_1]
      have F : Fr kK M m := F
      have hs := sum_run g1
      refine (ih n (i + 1) (toRun c ps) m y2 (by omega) (by omega) (by omega) (hl.fr F) (hC.fr F (by decide)) g2 ?_).mono ?_
      · rcases g3 with ⟨rfl, g4, g5⟩ | ⟨g3, g4⟩
        · exact Or.inl ⟨g4, g5⟩
        · refine Or.inr ⟨g4, ?_⟩
          have : 0 < ps.length := List.length_pos_iff.mpr g3
          omega
      · rintro m2 ⟨F2, qs, k1, k2, k3⟩
        exact ⟨F.step F2 (by decide), ps ++ qs, okRun_app.mpr ⟨g1, k1⟩, by rw [toRun_app]; exact k2, by rw [toRun_app]; exact k3⟩
theorem c_exhaust {N : NG} {R fs c : Nat → Nat} {M : tM} (hN : NOK N) (hB : RB N R fs) (hl : Len M) (hC : Cg M M N) (hM : MCS M N R fs c) : Ok (fX5_exhaust M) (fun m => Fr kK M m ∧ ∃ ps, okRun N R fs c ps ∧ dead N R fs (toRun c ps) ∧ MCS m N R fs (toRun c ps)) := by
  rw [fX5_exhaust]
  have := c_el4 hN hB 2001 FU 0 c M 1 rfl (by omega) (FU_lt (by omega)) hl hC hM (Or.inr ⟨rfl, Nat.zero_le _⟩)
  rw [nI_0] at this
  exact ok_call this (fun m h => ok_some h)
