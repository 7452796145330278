/-! MARKINGS in memory, the model's -/
theorem gN_succ {N : NG} {l n : Nat} : gN N l (n + 1) = gN N l n + nG N l (n % nH N (nF N l)) := rfl
theorem tN_succ {N : NG} {l n : Nat} : tN N l (n + 1) = tN N l n + nK N l (n % nH N (nT N l)) := rfl
def tk (N : NG) (fs c : Nat → Nat) (p : Nat) : Prop := ∀ l, l < nL N → nT N l = p → nK N l (c p % nH N p) ≤ mk N fs c l
theorem en_iff {N : NG} {R fs c : Nat → Nat} {p : Nat} (h : cOK N R fs c) : en N R fs c p ↔ c p < R p ∧ tk N fs c p := by
  constructor
  · rintro ⟨h1, h2⟩
    refine ⟨h1, fun l hl ht => ?_⟩
    have h3 := h2 l hl ht
    have h4 := h.2 l hl
    subst ht
    rw [tN_succ] at h3
    unfold mk; omega
  · rintro ⟨h1, h2⟩
    refine ⟨h1, fun l hl ht => ?_⟩
    have h3 := h2 l hl ht
    have h4 := h.2 l hl
    subst ht
    rw [tN_succ]
    unfold mk at h3; omega
/-- what one FIRING takes from a LINE and gives to it -/
def tkA (N : NG) (p a l : Nat) : Nat := if nT N l = p then nK N l a else 0
def gvA (N : NG) (p a l : Nat) : Nat := if nF N l = p then nG N l a else 0
theorem mk_fi {N : NG} {R fs c : Nat → Nat} {p l : Nat} (h : cOK N R fs c) (he : en N R fs c p) (hl : l < nL N) : tkA N p (c p % nH N p) l ≤ mk N fs c l ∧ mk N fs (fi c p) l = mk N fs c l - tkA N p (c p % nH N p) l + gvA N p (c p % nH N p) l := by
  have h2 := h.2 l hl
  have eg : gN N l (fi c p (nF N l)) = gN N l (c (nF N l)) + gvA N p (c p % nH N p) l := by
    by_cases f : nF N l = p
    · subst f
      rw [gvA, if_pos rfl, fi_same, gN_succ]
    · rw [gvA, if_neg f, fi_ne f]; rfl
  have et : tN N l (fi c p (nT N l)) = tN N l (c (nT N l)) + tkA N p (c p % nH N p) l := by
    by_cases f : nT N l = p
    · subst f
      rw [tkA, if_pos rfl, fi_same, tN_succ]
    · rw [tkA, if_neg f, fi_ne f]; rfl
  have hk : tN N l (c (nT N l)) + tkA N p (c p % nH N p) l ≤ fs l + gN N l (c (nF N l)) := by
    by_cases f : nT N l = p
    · have h1 := he.2 l hl f
      subst f
      rw [tkA, if_pos rfl]
      rw [tN_succ] at h1; exact h1
    · rw [tkA, if_neg f]; exact h2
  unfold mk
  rw [eg, et]
  omega
/-- bounds -/
def RB (N : NG) (R fs : Nat → Nat) : Prop := (∀ p, p < nP N → R p ≤ 1000) ∧ (∀ l, l < nL N → fs l ≤ 1000000) ∧ sumTo R (nP N) ≤ 2000
theorem mk_le {N : NG} {R fs c : Nat → Nat} {l : Nat} (hN : NOK N) (hB : RB N R fs) (h : cOK N R fs c) (hl : l < nL N) : mk N fs c l ≤ 1050000 := by
  have h1 := gN_le hN hl (n := c (nF N l))
  have h2 := h.1 _ (hN.2.2.1 l hl).1
  have h3 := hB.1 _ (hN.2.2.1 l hl).1
  have h4 := hB.2.1 l hl
  unfold mk; omega
theorem cOK_0 (N : NG) (R fs : Nat → Nat) : cOK N R fs (fun _ => 0) := ⟨fun _ _ => Nat.zero_le _, fun l _ => by show tN N l 0 ≤ _; exact Nat.zero_le _⟩
theorem mk_0 (N : NG) (fs : Nat → Nat) (l : Nat) : mk N fs (fun _ => 0) l = fs l := by
  show fs l + gN N l 0 - tN N l 0 = fs l
  rfl
theorem sum_fi {N : NG} {R c : Nat → Nat} {p : Nat} (hp : p < nP N) (h : c p < R p) : sumTo (fun q => R q - c q) (nP N) = sumTo (fun q => R q - fi c p q) (nP N) + 1 :=
  sumTo_upd hp (by show R p - c p = R p - fi c p p + 1; rw [fi_same]; omega) (fun j _ hne => by show R j - c j = R j - fi c p j; rw [fi_ne hne])
def MX (X : tM) (N : NG) (R fs c : Nat → Nat) : Prop := (∀ l, l < nL N → mI X 1238 0 l = nI (mk N fs c l)) ∧ ∀ p, p < nP N → mI X 1239 0 p = nI (c p % nH N p) ∧ mI X 1240 0 p = nI (R p - c p)
def kM : List Nat := [1238, 1239, 1240]
theorem MX.fr {ks : List Nat} {X X2 : tM} {N : NG} {R fs c : Nat → Nat} (h : MX X N R fs c) (hF : Fr ks X X2) (hd : disj ks kM = true) : MX X2 N R fs c := by
  simp only [MX] at h ⊢
  simp only [hF.gI hd 1238 (by decide), hF.gI hd 1239 (by decide), hF.gI hd 1240 (by decide)]
  exact h
theorem m_first {X : tM} {N : NG} {R fs : Nat → Nat} {y : Int32} (hN : NOK N) (hl : Len X) (hG : Gr X N) (hR : ∀ p, p < nP N → mI X 1235 0 p = nI (R p)) (hf : ∀ l, l < nL N → (y = 0 ∧ fs l = nS N l) ∨ (y = 1 ∧ ∃ k, mI X 1241 0 l = nI k ∧ fs l = nS N l + k)) : Ok (fX11_markFirst y X) (fun m => Fr kM X m ∧ MX m N R fs (fun _ => 0)) := by
  have hb := hN.1
  rw [fX11_markFirst]
  have key1 : Ok (fX11_markFirst_l2 y FU 0 X) (fun m => Fr [1238] X m ∧ ∀ l, l < nL N → mI m 1238 0 l = nI (fs l)) := by
    refine loop0 (fun n i m => fX11_markFirst_l2 y n i m) (nL N) (fun i m => Fr [1238] X m ∧ ∀ l, l < i → mI m 1238 0 l = nI (fs l)) _ (by omega) ?_ ?_ X ⟨Fr.refl, fun l hl => by omega⟩
    · rintro n m ⟨F, h⟩
      rw [fX11_markFirst_l2, F.oI (by decide), hG.1.2, if_pos (nI_le (Nat.le_refl _) (by omega))]
      exact ok_some ⟨F, h⟩
    · rintro n i m hi ⟨F, h⟩ kk
      have hg := (hG.2.2.1 i hi).2.2
      rw [fX11_markFirst_l2, F.oI (by decide), hG.1.2, if_neg (nI_ge hi (by omega)), F.n, ln1217 hl, chk_nI (by omega) (by omega), nI_clamp (by omega)]
      have fin : ∀ k, fs i = nS N i + k → Ok (chk (inb (nI i) (mN m 1238 0)) <| bnd (sI m 1238 0 i (mI m 1217 0 i + nI k)) fun M8 => bnd (nI i + 1) fun x9 => fX11_markFirst_l2 y n x9 M8) (fun m => Fr [1238] X m ∧ ∀ l, l < nL N → mI m 1238 0 l = nI (fs l)) := fun k hk => by
        rw [F.n, ln1238 hl, chk_nI (by omega) (by omega), bnd_eq, bnd_eq, nI_1, F.aI (by decide), hg, nI_add, ← hk]
        refine kk _ ⟨F.wI (by decide), fun l hl' => ?_⟩
        rw [mI_sI]
        by_cases e : l = i
        · rw [if_pos ⟨rfl, rfl, e⟩, e]
        · rw [if_neg (fun z => e z.2.2)]; exact h l (by omega)
      rcases hf i hi with ⟨rfl, hk⟩ | ⟨rfl, k, hk1, hk2⟩
      · rw [if_pos rfl, Option.bind_some]
        exact fin 0 hk
      · rw [if_neg (by decide), F.n, ln1241 hl, chk_nI (by omega) (by omega), Option.bind_some, F.aI (k := 1241) (by decide), hk1]
        exact fin k hk2
  refine ok_call key1 ?_
  rintro m ⟨F, h⟩
  have key2 : Ok (fX11_markFirst_l45 FU 0 m) (fun m2 => Fr [1239, 1240] m m2 ∧ ∀ p, p < nP N → mI m2 1239 0 p = 0 ∧ mI m2 1240 0 p = nI (R p)) := by
    refine loop0 (fun n i m2 => fX11_markFirst_l45 n i m2) (nP N) (fun i m2 => Fr [1239, 1240] m m2 ∧ ∀ p, p < i → mI m2 1239 0 p = 0 ∧ mI m2 1240 0 p = nI (R p)) _ (by omega) ?_ ?_ m ⟨Fr.refl, fun p hp => by omega⟩
    · rintro n m2 ⟨F2, h2⟩
      rw [fX11_markFirst_l45, F2.oI (by decide), F.oI (by decide), hG.1.1, if_pos (nI_le (Nat.le_refl _) (by omega))]
      exact ok_some ⟨F2, h2⟩
    · rintro n i m2 hi ⟨F2, h2⟩ kk
      rw [fX11_markFirst_l45, F2.oI (by decide), F.oI (by decide), hG.1.1, if_neg (nI_ge hi (by omega)), F2.n, F.n, ln1239 hl, chk_nI (by omega) (by omega), bnd_eq, nI_clamp (by omega), mN_sI, F2.n, F.n, ln1235 hl, chk_nI (by omega) (by omega), mN_sI, F2.n, F.n, ln1240 hl, chk_nI (by omega) (by omega), bnd_eq, bnd_eq, nI_1, mI_sI, if_neg (by simp), F2.aI (k := 1235) (by decide), F.aI (k := 1235) (by decide), hR i hi]
      refine kk _ ⟨(F2.wI (by decide)).wI (by decide), fun p hp => ?_⟩
      by_cases e : p = i
      · subst e; simp [mI_sI]
      · have := h2 p (by omega)
        simp [mI_sI, e, this]
  refine ok_call key2 ?_
  rintro m2 ⟨F2, h2⟩
  refine ok_some ⟨(F.mono (by decide)).step F2 (by decide), fun l hl' => ?_, fun p hp => ?_⟩
  · rw [F2.aI (by decide), mk_0]; exact h l hl'
  · refine ⟨?_, (h2 p hp).2⟩
    rw [(h2 p hp).1, Nat.zero_mod]; rfl
theorem ph_lt {N : NG} (hN : NOK N) {p : Nat} (hp : p < nP N) (n : Nat) : n % nH N p < nH N p ∧ n % nH N p < 4 := by
  have h := hN.2.1 p hp
  have := Nat.mod_lt n (show 0 < nH N p by omega)
  omega
theorem m_may {X : tM} {N : NG} {R fs c : Nat → Nat} {p : Nat} (hN : NOK N) (hl : Len X) (hG : Gr X N) (hM : MX X N R fs c) (hB : RB N R fs) (hK : cOK N R fs c) (hp : p < nP N) : (fX11_mayMark (nI p) X = some 1 ∧ tk N fs c p) ∨ (fX11_mayMark (nI p) X = some 0 ∧ ¬ tk N fs c p) := by
  have hb := hN.1
  obtain ⟨ha, ha4⟩ := ph_lt hN hp (c p)
  have a1 := (hM.2 p hp).1
  generalize hae : c p % nH N p = a at ha ha4 a1
  have key : Ok (fX11_mayMark_l4 (nI p) X FU 1 0) (fun w => (w = 1 ∧ tk N fs c p) ∨ (w = 0 ∧ ¬ tk N fs c p)) := by
    refine loop0 (fun n i s => fX11_mayMark_l4 (nI p) X n s i) (nL N) (fun i s => (s = 1 ∧ ∀ l, l < i → nT N l = p → nK N l a ≤ mk N fs c l) ∨ (s = 0 ∧ ¬ tk N fs c p)) _ (by omega) ?_ ?_ 1 (Or.inl ⟨rfl, fun l hl => by omega⟩)
    · intro n s h
      rw [fX11_mayMark_l4, hG.1.2, if_pos (nI_le (Nat.le_refl _) (by omega))]
      refine ok_some ?_
      rcases h with ⟨h1, h2⟩ | h
      · exact Or.inl ⟨h1, by rw [tk, hae]; exact h2⟩
      · exact Or.inr h
    · intro n i s hi h kk
      have hk := (hN.2.2.2 i a hi ha4).2.1
      have hg := hG.2.2.1 i hi
      have hq := (hG.2.2.2 i a hi ha4).2
      have hti := (hN.2.2.1 i hi).2.1
      have o1 := hM.1 i hi
      have ob := mk_le hN hB hK hi
      rw [fX11_mayMark_l4, hG.1.2, if_neg (nI_ge hi (by omega))]
      rcases h with ⟨rfl, h⟩ | ⟨rfl, h⟩
      · rw [if_neg (by decide)]
        simp (disch := omega) only [ln1214 hl, ln1238 hl, ln1239 hl, ln1216 hl, chk_nI, nI_clamp, hg.2.1, a1, L32, pk_mul, nI_add, hq, o1, nI_eq, nI_ltI, bnd_eq]
        by_cases e : nT N i = p
        · rw [if_pos e]
          by_cases q : mk N fs c i < nK N i a
          · rw [if_pos q]
            refine ok_call (P := fun w => w = 0) (ok_some rfl) ?_
            rintro _ rfl
            refine kk 0 (Or.inr ⟨rfl, fun hr => ?_⟩)
            have := hr i hi e
            rw [hae] at this
            omega
          · rw [if_neg q]
            refine ok_call (P := fun w => w = 1) (ok_some rfl) ?_
            rintro _ rfl
            refine kk 1 (Or.inl ⟨rfl, fun l hl ht => ?_⟩)
            by_cases e2 : l = i
            · subst e2; omega
            · exact h l (by omega) ht
        · rw [if_neg e]
          refine ok_call (P := fun w => w = 1) (ok_some rfl) ?_
          rintro _ rfl
          refine kk 1 (Or.inl ⟨rfl, fun l hl ht => ?_⟩)
          by_cases e2 : l = i
          · subst e2; exact absurd ht e
          · exact h l (by omega) ht
      · rw [if_pos rfl, Option.bind_some, bnd_eq, nI_1]
        exact kk 0 (Or.inr ⟨rfl, h⟩)
  obtain ⟨w, e, k⟩ := key
  rw [fX11_mayMark, e, Option.bind_some]
  rcases k with ⟨rfl, k⟩ | ⟨rfl, k⟩
  · exact Or.inl ⟨rfl, k⟩
  · exact Or.inr ⟨rfl, k⟩
theorem m_fire {X : tM} {N : NG} {R fs c : Nat → Nat} {p : Nat} (hN : NOK N) (hl : Len X) (hG : Gr X N) (hM : MX X N R fs c) (hB : RB N R fs) (hK : cOK N R fs c) (hp : p < nP N) (he : en N R fs c p) : Ok (fX11_fireMark (nI p) X) (fun m => Fr kM X m ∧ MX m N R fs (fi c p)) := by
  have hb := hN.1
  obtain ⟨ha, ha4⟩ := ph_lt hN hp (c p)
  have hfi := fun l (hl : l < nL N) => mk_fi hK he hl
  obtain ⟨a1, r1⟩ := hM.2 p hp
  have hRp := hB.1 p hp
  generalize hae : c p % nH N p = a at ha ha4 a1 hfi
  have key : Ok (fX11_fireMark_l2 (nI p) FU 0 X) (fun m => Fr [1238] X m ∧ ∀ l, l < nL N → mI m 1238 0 l = nI (mk N fs (fi c p) l)) := by
    refine loop0 (fun n i m => fX11_fireMark_l2 (nI p) n i m) (nL N) (fun i m => Fr [1238] X m ∧ ∀ l, l < nL N → mI m 1238 0 l = nI (if l < i then mk N fs (fi c p) l else mk N fs c l)) _ (by omega) ?_ ?_ X ⟨Fr.refl, fun l hl => by rw [if_neg (by omega)]; exact hM.1 l hl⟩
    · rintro n m ⟨F, h⟩
      rw [fX11_fireMark_l2, F.oI (by decide), hG.1.2, if_pos (nI_le (Nat.le_refl _) (by omega))]
      exact ok_some ⟨F, fun l hl => by rw [h l hl, if_pos hl]⟩
    · rintro n i m hi ⟨F, h⟩ kk
      have hg := hG.2.2.1 i hi
      have hq := hG.2.2.2 i a hi ha4
      have hti := (hN.2.2.1 i hi).2.1
      have hff := (hN.2.2.1 i hi).1
      obtain ⟨f1, f2⟩ := hfi i hi
      have hmi := h i hi
      rw [if_neg (Nat.lt_irrefl _)] at hmi
      have e4 : 4 * nI i + nI a = nI (4 * i + a) := by rw [L32 4, pk_mul, nI_add]
      rw [fX11_fireMark_l2, F.oI (by decide), hG.1.2, if_neg (nI_ge hi (by omega)), F.n, ln1238 hl, chk_nI (by omega) (by omega), F.n, ln1214 hl, chk_nI (by omega) (by omega), nI_clamp (by omega), F.aI (k := 1214) (by decide), hg.2.1]
      refine ok_call (P := fun x => x = nI (tkA N p a i)) ?_ ?_
      · by_cases e : nT N i = p
        · rw [if_pos (by rw [e]), F.n, ln1239 hl, chk_nI (by omega) (by omega), nI_clamp (by omega), F.aI (by decide), a1, e4, F.n, ln1216 hl, chk_nI (by omega) (by omega), nI_clamp (by omega), F.aI (by decide), hq.2, tkA, if_pos e]
          exact ok_some rfl
        · rw [if_neg (fun q => e ((nI_eq (by omega) (by omega)).mp q)), tkA, if_neg e]
          exact ok_some rfl
      · rintro _ rfl
        rw [chk_nI (by omega) (by omega), bnd_eq, hmi, pk_sub f1]
        have F1 : Fr [1238] X (sI m 1238 0 i (nI (mk N fs c i - tkA N p a i))) := F.wI (by decide)
        have v1 : mI (sI m 1238 0 i (nI (mk N fs c i - tkA N p a i))) 1238 0 i = nI (mk N fs c i - tkA N p a i) := by rw [mI_sI, if_pos ⟨rfl, rfl, rfl⟩]
        have o1 : ∀ l, ¬ l = i → mI (sI m 1238 0 i (nI (mk N fs c i - tkA N p a i))) 1238 0 l = mI m 1238 0 l := fun l hl => by rw [mI_sI, if_neg (fun z => hl z.2.2)]
        generalize sI m 1238 0 i (nI (mk N fs c i - tkA N p a i)) = m1 at *
        rw [F1.n, ln1238 hl, chk_nI (by omega) (by omega), F1.n, ln1213 hl, chk_nI (by omega) (by omega), F1.aI (k := 1213) (by decide), hg.1]
        refine ok_call (P := fun x => x = nI (gvA N p a i)) ?_ ?_
        · by_cases e : nF N i = p
          · rw [if_pos (by rw [e]), F1.n, ln1239 hl, chk_nI (by omega) (by omega), nI_clamp (by omega), F1.aI (by decide), a1, e4, F1.n, ln1215 hl, chk_nI (by omega) (by omega), nI_clamp (by omega), F1.aI (by decide), hq.1, gvA, if_pos e]
            exact ok_some rfl
          · rw [if_neg (fun q => e ((nI_eq (by omega) (by omega)).mp q)), gvA, if_neg e]
            exact ok_some rfl
        · rintro _ rfl
          rw [chk_nI (by omega) (by omega), bnd_eq, v1, nI_add, ← f2, bnd_eq, nI_1]
          refine kk _ ⟨F1.wI (by decide), fun l hl' => ?_⟩
          rw [mI_sI]
          by_cases e : l = i
          · rw [if_pos ⟨rfl, rfl, e⟩, if_pos (by omega), e]
          · rw [if_neg (fun z => e z.2.2), o1 l e, h l hl']
            by_cases q : l < i
            · rw [if_pos q, if_pos (by omega)]
            · rw [if_neg q, if_neg (by omega)]
  rw [fX11_fireMark]
  refine ok_call key ?_
  rintro m ⟨F, h⟩
  have hh := (hN.2.1 p hp).2
  have e5 : mI m 1205 0 p = nI (nH N p) := (F.aI (by decide)).trans (hG.2.1 p hp).2
  have e9 : mI m 1239 0 p = nI a := (F.aI (by decide)).trans a1
  have e0 : mI m 1240 0 p = nI (R p - c p) := (F.aI (by decide)).trans r1
  have nz : nz4 (nI (nH N p)) = true := decide_eq_true (fun q => by have := (nI_eq (b := 0) (by omega) (by decide)).mp q; omega)
  have er : nI (a + 1) - nI (a + 1) / nI (nH N p) * nI (nH N p) = nI ((a + 1) % nH N p) := pk_rem (by omega) (by omega) (by omega)
  have em : (a + 1) % nH N p = (c p + 1) % nH N p := by rw [← hae, Nat.mod_add_mod]
  have es : nI (R p - c p) - 1 = nI (R p - (c p + 1)) := by
    have := he.1
    rw [L32 1, pk_sub (by omega), Nat.sub_sub]
  rw [F.n, ln1239 hl, chk_nI (by omega) (by omega), F.n, ln1205 hl, chk_nI (by omega) (by omega), nI_clamp (by omega), e5, chk_tr nz, chk_nI (by omega) (by omega), e9, nI_1, er, em, bnd_eq, mN_sI, F.n, ln1240 hl, chk_nI (by omega) (by omega), chk_nI (by omega) (by omega), mI_sI, if_neg (by simp), e0, es, bnd_eq]
  have F2 : Fr [1239, 1240] m (sI (sI m 1239 0 p (nI ((c p + 1) % nH N p))) 1240 0 p (nI (R p - (c p + 1)))) := (Fr.refl.wI (by decide)).wI (by decide)
  refine ok_some ⟨(F.mono (by decide)).step F2 (by decide), fun l hl' => by rw [F2.aI (by decide)]; exact h l hl', fun q hq => ?_⟩
  by_cases e : q = p
  · subst e
    rw [fi_same, mI_sI, if_neg (by simp), mI_sI, if_pos ⟨rfl, rfl, rfl⟩, mI_sI, if_pos ⟨rfl, rfl, rfl⟩]
    exact ⟨rfl, rfl⟩
  · rw [fi_ne e, mI_sI, if_neg (by simp), mI_sI, if_neg (fun z => e z.2.2), mI_sI, if_neg (fun z => e z.2.2), mI_sI, if_neg (by simp), F.aI (by decide), F.aI (by decide)]
    exact hM.2 q hq
theorem m_least {X : tM} {N : NG} {R fs c : Nat → Nat} (hN : NOK N) (hl : Len X) (hG : Gr X N) (hM : MX X N R fs c) (hB : RB N R fs) (hK : cOK N R fs c) : (∃ p, p < nP N ∧ en N R fs c p ∧ (∀ q, q < p → ¬ en N R fs c q) ∧ fX11_leastThatMay X = some (nI p)) ∨ (dead N R fs c ∧ fX11_leastThatMay X = some (-9)) := by
  have hb := hN.1
  have key : Ok (fX11_leastThatMay_l2 X FU 0) (fun w => (∃ p, p < nP N ∧ en N R fs c p ∧ (∀ q, q < p → ¬ en N R fs c q) ∧ w = .inl (nI p)) ∨ (dead N R fs c ∧ w = .inr ())) := by
    refine loop0 (fun n i (_ : Unit) => fX11_leastThatMay_l2 X n i) (nP N) (fun i _ => ∀ q, q < i → ¬ en N R fs c q) _ (by omega) ?_ ?_ () (fun q hq => by omega)
    · intro n _ h
      rw [fX11_leastThatMay_l2, hG.1.1, if_pos (nI_le (Nat.le_refl _) (by omega))]
      exact ok_some (Or.inr ⟨h, rfl⟩)
    · intro n i _ hi h kk
      have hR := hB.1 i hi
      have goon : ¬ en N R fs c i → Ok (bnd (nI i + 1) fun x4 => fX11_leastThatMay_l2 X n x4) (fun w => (∃ p, p < nP N ∧ en N R fs c p ∧ (∀ q, q < p → ¬ en N R fs c q) ∧ w = .inl (nI p)) ∨ (dead N R fs c ∧ w = .inr ())) := fun ne => by
        rw [bnd_eq, nI_1]
        refine kk () (fun q hq => ?_)
        by_cases e : q = i
        · rw [e]; exact ne
        · exact h q (by omega)
      rw [fX11_leastThatMay_l2, hG.1.1, if_neg (nI_ge hi (by omega)), ln1240 hl, chk_nI (by omega) (by omega), nI_clamp (by omega), (hM.2 i hi).2]
      by_cases r : c i < R i
      · rw [if_neg (nI_nle (by omega) (by omega))]
        rcases m_may hN hl hG hM hB hK hi with ⟨ev, t⟩ | ⟨ev, t⟩
        · rw [ev, Option.bind_some, if_neg (by decide)]
          exact ok_some (Or.inl ⟨i, hi, (en_iff hK).mpr ⟨r, t⟩, h, rfl⟩)
        · rw [ev, Option.bind_some, if_pos rfl]
          exact goon (fun ne => t ((en_iff hK).mp ne).2)
      · rw [if_pos (show nI (R i - c i) ≤ 0 by rw [show R i - c i = 0 by omega]; decide)]
        exact goon (fun ne => r ne.1)
  obtain ⟨w, e, k⟩ := key
  rw [fX11_leastThatMay, e, Option.bind_some]
  rcases k with ⟨p, h1, h2, h3, rfl⟩ | ⟨h1, rfl⟩
  · exact Or.inl ⟨p, h1, h2, h3, rfl⟩
  · exact Or.inr ⟨h1, rfl⟩
theorem m_left {X : tM} {N : NG} {R fs c : Nat → Nat} (hN : NOK N) (hl : Len X) (hG : Gr X N) (hM : MX X N R fs c) (hB : RB N R fs) : (∃ p, p < nP N ∧ c p < R p ∧ (∀ q, q < p → ¬ c q < R q) ∧ fX11_leastLeft X = some (nI p)) ∨ ((∀ q, q < nP N → ¬ c q < R q) ∧ fX11_leastLeft X = some (-9)) := by
  have hb := hN.1
  have key : Ok (fX11_leastLeft_l2 X FU 0) (fun w => (∃ p, p < nP N ∧ c p < R p ∧ (∀ q, q < p → ¬ c q < R q) ∧ w = .inl (nI p)) ∨ ((∀ q, q < nP N → ¬ c q < R q) ∧ w = .inr ())) := by
    refine loop0 (fun n i (_ : Unit) => fX11_leastLeft_l2 X n i) (nP N) (fun i _ => ∀ q, q < i → ¬ c q < R q) _ (by omega) ?_ ?_ () (fun q hq => by omega)
    · intro n _ h
      rw [fX11_leastLeft_l2, hG.1.1, if_pos (nI_le (Nat.le_refl _) (by omega))]
      exact ok_some (Or.inr ⟨h, rfl⟩)
    · intro n i _ hi h kk
      have hR := hB.1 i hi
      rw [fX11_leastLeft_l2, hG.1.1, if_neg (nI_ge hi (by omega)), ln1240 hl, chk_nI (by omega) (by omega), nI_clamp (by omega), (hM.2 i hi).2]
      by_cases r : c i < R i
      · rw [if_neg (nI_nle (by omega) (by omega))]
        exact ok_some (Or.inl ⟨i, hi, r, h, rfl⟩)
      · rw [if_pos (show nI (R i - c i) ≤ 0 by rw [show R i - c i = 0 by omega]; decide), bnd_eq, nI_1]
        refine kk () (fun q hq => ?_)
        by_cases e : q = i
        · rw [e]; exact r
        · exact h q (by omega)
  obtain ⟨w, e, k⟩ := key
  rw [fX11_leastLeft, e, Option.bind_some]
  rcases k with ⟨p, h1, h2, h3, rfl⟩ | ⟨h1, rfl⟩
  · exact Or.inl ⟨p, h1, h2, h3, rfl⟩
  · exact Or.inr ⟨h1, rfl⟩
theorem m_run {N : NG} {R fs : Nat → Nat} (hN : NOK N) (hB : RB N R fs) : ∀ d n c X y, sumTo (fun q => R q - c q) (nP N) = d → d < n → Len X → Gr X N → MX X N R fs c → cOK N R fs c → ((∃ p, p < nP N ∧ en N R fs c p ∧ y = nI p) ∨ (dead N R fs c ∧ y = (-9))) →
    Ok (fX11_isStuck_l10 n y X) (fun m => Fr kM X m ∧ ∃ ps, okRun N R fs c ps ∧ dead N R fs (toRun c ps) ∧ MX m N R fs (toRun c ps)) := by
  have hb := hN.1
  intro d
  induction d with
  | zero =>
    intro n c X y hd hn hl hG hM hK hy
    obtain ⟨n, rfl⟩ : ∃ m, n = m + 1 := ⟨n - 1, by omega⟩
    rcases hy with ⟨p, hp, he, -⟩ | ⟨hd', rfl⟩
    · have := sum_fi hp he.1
      omega
    · rw [fX11_isStuck_l10, if_pos (by decide)]
      exact ok_some ⟨Fr.refl, [], trivial, hd', hM⟩
  | succ d ih =>
    intro n c X y hd hn hl hG hM hK hy
    obtain ⟨n, rfl⟩ : ∃ m, n = m + 1 := ⟨n - 1, by omega⟩
    rcases hy with ⟨p, hp, he, rfl⟩ | ⟨hd', rfl⟩
    · rw [fX11_isStuck_l10, if_neg (nI_pos (by omega))]
      refine ok_call (m_fire hN hl hG hM hB hK hp he) ?_
      rintro m ⟨F, hM2⟩
      have hK2 := cOK_fi hK he
      have hs := sum_fi hp he.1
      have nxt : ∀ y', ((∃ p', p' < nP N ∧ en N R fs (fi c p) p' ∧ y' = nI p') ∨ (dead N R fs (fi c p) ∧ y' = (-9))) → Ok (fX11_isStuck_l10 n y' m) (fun m => Fr kM X m ∧ ∃ ps, okRun N R fs c ps ∧ dead N R fs (toRun c ps) ∧ MX m N R fs (toRun c ps)) := fun y' hy' => by
        refine (ih n (fi c p) m y' (by omega) (by omega) (hl.fr F) (hG.fr F (by decide)) hM2 hK2 hy').mono ?_
        rintro m2 ⟨F2, ps, h1, h2, h3⟩
        exact ⟨F.step F2 (by decide), p :: ps, ⟨⟨hp, he⟩, h1⟩, h2, h3⟩
      rcases m_least hN (hl.fr F) (hG.fr F (by decide)) hM2 hB hK2 with ⟨q, hq, h1, -, e⟩ | ⟨h1, e⟩
      · rw [e, Option.bind_some]
        exact nxt _ (Or.inl ⟨q, hq, h1, rfl⟩)
      · rw [e, Option.bind_some]
        exact nxt _ (Or.inr ⟨h1, rfl⟩)
    · rw [fX11_isStuck_l10, if_pos (by decide)]
      exact ok_some ⟨Fr.refl, [], trivial, hd', hM⟩
theorem sumR_le {N : NG} {R fs c : Nat → Nat} (hB : RB N R fs) : sumTo (fun q => R q - c q) (nP N) ≤ 2000 :=
  Nat.le_trans (sumTo_le (fun q _ => by show R q - c q ≤ R q; omega)) hB.2.2
theorem stk_of {N : NG} {R fs : Nat → Nat} (hN : NOK N) {ps : List Nat} (h1 : okRun N R fs (fun _ => 0) ps) (h2 : dead N R fs (toRun (fun _ => 0) ps)) : stk N R fs ↔ ∃ p, p < nP N ∧ toRun (fun _ => 0) ps p < R p := by
  constructor
  · rintro ⟨qs, g1, g2, p, hp, h⟩
    refine ⟨p, hp, ?_⟩
    rw [run_end hN h1 g1 h2 g2 toRun_ge p hp]; exact h
  · rintro ⟨p, hp, h⟩
    exact ⟨ps, h1, h2, p, hp, h⟩
theorem m_stuck {X : tM} {N : NG} {R fs : Nat → Nat} {y : Int32} (hN : NOK N) (hl : Len X) (hG : Gr X N) (hB : RB N R fs) (hR : ∀ p, p < nP N → mI X 1235 0 p = nI (R p)) (hf : ∀ l, l < nL N → (y = 0 ∧ fs l = nS N l) ∨ (y = 1 ∧ ∃ k, mI X 1241 0 l = nI k ∧ fs l = nS N l + k)) : Ok (fX11_isStuck y X) (fun w => Fr kM X w.2 ∧ ((w.1 = 1 ∧ stk N R fs) ∨ (w.1 = 0 ∧ ¬ stk N R fs))) := by
  rw [fX11_isStuck]
  refine ok_call (m_first hN hl hG hR hf) ?_
  rintro m ⟨F, hM⟩
  have hK := cOK_0 N R fs
  have hl1 := hl.fr F
  have hG1 := hG.fr F (by decide)
  have nxt : ∀ y', ((∃ p', p' < nP N ∧ en N R fs (fun _ => 0) p' ∧ y' = nI p') ∨ (dead N R fs (fun _ => 0) ∧ y' = (-9))) → Ok (Option.bind (fX11_isStuck_l10 FU y' m) fun M12 => (fX11_leastLeft M12).bind fun x13 => if x13 < 0 then some (((0 : Int32), M12)) else some ((1, M12))) (fun w => Fr kM X w.2 ∧ ((w.1 = 1 ∧ stk N R fs) ∨ (w.1 = 0 ∧ ¬ stk N R fs))) := fun y' hy' => by
    have hs := sumR_le (c := fun _ => 0) hB
    refine ok_call (m_run hN hB _ FU _ m y' rfl (FU_lt (by omega)) hl1 hG1 hM hK hy') ?_
    rintro m2 ⟨F2, ps, h1, h2, h3⟩
    have F3 : Fr kM X m2 := F.step F2 (by decide)
    have so := stk_of hN h1 h2
    rcases m_left hN (hl.fr F3) (hG.fr F3 (by decide)) h3 hB with ⟨p, hp, c1, -, e⟩ | ⟨c1, e⟩
    · have hb := hN.1
      rw [e, Option.bind_some, if_neg (nI_pos (by omega))]
      exact ok_some ⟨F3, Or.inl ⟨rfl, so.mpr ⟨p, hp, c1⟩⟩⟩
    · rw [e, Option.bind_some, if_pos (by decide)]
      exact ok_some ⟨F3, Or.inr ⟨rfl, fun z => by obtain ⟨p, hp, c2⟩ := so.mp z; exact c1 p hp c2⟩⟩
  rcases m_least hN hl1 hG1 hM hB hK with ⟨q, hq, h1, -, e⟩ | ⟨h1, e⟩
  · rw [e, Option.bind_some]
    exact nxt _ (Or.inl ⟨q, hq, h1, rfl⟩)
  · rw [e, Option.bind_some]
    exact nxt _ (Or.inr ⟨h1, rfl⟩)
