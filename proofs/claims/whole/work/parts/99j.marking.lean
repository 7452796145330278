/-! marking -/
theorem i32_nat (x : Int32) : x = nI x.toBitVec.toNat := by
  first
  | (apply Int32.toBitVec_inj.mp; show x.toBitVec = BitVec.ofNat 32 x.toBitVec.toNat; simp)
  | (apply Int32.eq_of_toBitVec_eq; show x.toBitVec = BitVec.ofNat 32 x.toBitVec.toNat; simp)
  | (cases x with | _ u => cases u with | _ v => show _ = Int32.ofNat v.toNat; simp [Int32.ofNat])
/-- a FIRING of p on marks that may be any numbers -/
theorem m_fireR {X : tM} {N : NG} {p a : Nat} {v : Nat → Int32} (hN : NOK N) (hl : Len X) (hG : Gr X N) (hv : ∀ l, l < nL N → mI X 1238 0 l = v l) (a1 : mI X 1239 0 p = nI a) (ha : a < nH N p) (ha4 : a < 4) (hp : p < nP N) :
    Ok (fX11_fireMark (nI p) X) (fun m => Fr kM X m ∧ (∀ l, l < nL N → mI m 1238 0 l = v l - nI (tkA N p a l) + nI (gvA N p a l)) ∧ mI m 1239 0 p = nI ((a + 1) % nH N p) ∧ ∀ q, ¬ q = p → mI m 1239 0 q = mI X 1239 0 q) := by
  have hb := hN.1
  have key : Ok (fX11_fireMark_l2 (nI p) FU 0 X) (fun m => Fr [1238] X m ∧ ∀ l, l < nL N → mI m 1238 0 l = v l - nI (tkA N p a l) + nI (gvA N p a l)) := by
    refine loop0 (fun n i m => fX11_fireMark_l2 (nI p) n i m) (nL N) (fun i m => Fr [1238] X m ∧ ∀ l, l < nL N → mI m 1238 0 l = (if l < i then v l - nI (tkA N p a l) + nI (gvA N p a l) else v l)) _ (by omega) ?_ ?_ X ⟨Fr.refl, fun l hl => by rw [if_neg (by omega)]; exact hv l hl⟩
    · rintro n m ⟨F, h⟩
      rw [fX11_fireMark_l2, F.oI (by decide), hG.1.2, if_pos (nI_le (Nat.le_refl _) (by omega))]
      exact ok_some ⟨F, fun l hl => by rw [h l hl, if_pos hl]⟩
    · rintro n i m hi ⟨F, h⟩ kk
      have hg := hG.2.2.1 i hi
      have hq := hG.2.2.2 i a hi ha4
      have hti := (hN.2.2.1 i hi).2.1
      have hff := (hN.2.2.1 i hi).1
      have hmi := h i hi
      rw [if_neg (Nat.lt_irrefl _)] at hmi
      have e4 : 4 * nI i + nI a = nI (4 * i + a) := by rw [L32 4, pk_mul, nI_add]
      rw [fX11_fireMark_l2, F.oI (by decide), hG.1.2, if_neg (nI_ge hi (by omega)), F.n, ln1238 hl, chk_nI (by omega) (by omega), F.n, ln1214 hl, chk_nI (by omega) (by omega), nI_clamp (by omega), F.aI (k := 1214) (by decide), hg.2.1]
      refine ok_call (P := fun x => x = nI (tkA N p a i)) ?_ ?_
      · by_cases e : nT N i = p
        · rw [if_pos (by rw [e]), F.n, ln1239 hl, chk_nI (by omega) (by omega), nI_clamp (by omega), F.aI (by decide), a1, e4, F.n, ln1216 hl, chk_nI (by omega) (by omega), nI_clamp (by omega), F.aI (by decide), hq.2, tkA, if_pos e]
          exact ok_some rfl
        · rw [if_neg (fun q => e ((nI_eq (by omega) (by omega)).mp q)), tkA, if_neg e]
          exact ok_some rfl
      · rintro _ rfl
        rw [chk_nI (by omega) (by omega), bnd_eq, hmi]
        have F1 : Fr [1238] X (sI m 1238 0 i (v i - nI (tkA N p a i))) := F.wI (by decide)
        have v1 : mI (sI m 1238 0 i (v i - nI (tkA N p a i))) 1238 0 i = v i - nI (tkA N p a i) := by rw [mI_sI, if_pos ⟨rfl, rfl, rfl⟩]
        have o1 : ∀ l, ¬ l = i → mI (sI m 1238 0 i (v i - nI (tkA N p a i))) 1238 0 l = mI m 1238 0 l := fun l hl => by rw [mI_sI, if_neg (fun z => hl z.2.2)]
        generalize sI m 1238 0 i (v i - nI (tkA N p a i)) = m1 at *
        rw [F1.n, ln1238 hl, chk_nI (by omega) (by omega), F1.n, ln1213 hl, chk_nI (by omega) (by omega), F1.aI (k := 1213) (by decide), hg.1]
        refine ok_call (P := fun x => x = nI (gvA N p a i)) ?_ ?_
        · by_cases e : nF N i = p
          · rw [if_pos (by rw [e]), F1.n, ln1239 hl, chk_nI (by omega) (by omega), nI_clamp (by omega), F1.aI (by decide), a1, e4, F1.n, ln1215 hl, chk_nI (by omega) (by omega), nI_clamp (by omega), F1.aI (by decide), hq.1, gvA, if_pos e]
            exact ok_some rfl
          · rw [if_neg (fun q => e ((nI_eq (by omega) (by omega)).mp q)), gvA, if_neg e]
            exact ok_some rfl
        · rintro _ rfl
          rw [chk_nI (by omega) (by omega), bnd_eq, v1, bnd_eq, nI_1]
          refine kk _ ⟨F1.wI (by decide), fun l hl' => ?_⟩
          rw [mI_sI]
          by_cases e : l = i
          · rw [if_pos ⟨rfl, rfl, e⟩, if_pos (by omega), e]
          · rw [if_neg (fun z => e z.2.2), o1 l e, h l hl']
            by_cases q : l < i
            · rw [if_pos q, if_pos (by omega)]
            · rw [if_neg q, if_neg (by omega)]
  rw [fX11_fireMark]
  refine ok_call key ?_
  rintro m ⟨F, h⟩
  have hh := (hN.2.1 p hp).2
  have e5 : mI m 1205 0 p = nI (nH N p) := (F.aI (by decide)).trans (hG.2.1 p hp).2
  have e9 : mI m 1239 0 p = nI a := (F.aI (by decide)).trans a1
  have nz : nz4 (nI (nH N p)) = true := decide_eq_true (fun q => by have := (nI_eq (b := 0) (by omega) (by decide)).mp q; omega)
  have er : nI (a + 1) - nI (a + 1) / nI (nH N p) * nI (nH N p) = nI ((a + 1) % nH N p) := pk_rem (by omega) (by omega) (by omega)
  rw [F.n, ln1239 hl, chk_nI (by omega) (by omega), F.n, ln1205 hl, chk_nI (by omega) (by omega), nI_clamp (by omega), e5, chk_tr nz, chk_nI (by omega) (by omega), e9, nI_1, er, bnd_eq, mN_sI, F.n, ln1240 hl, chk_nI (by omega) (by omega), chk_nI (by omega) (by omega), bnd_eq]
  refine ok_some ⟨((F.mono (by decide)).wI (by decide)).wI (by decide), fun l hl' => ?_, ?_, fun q hq => ?_⟩
  · rw [mI_sI, if_neg (by simp), mI_sI, if_neg (by simp)]; exact h l hl'
  · rw [mI_sI, if_neg (by simp), mI_sI, if_pos ⟨rfl, rfl, rfl⟩]
  · rw [mI_sI, if_neg (by simp), mI_sI, if_neg (fun z => hq z.2.2), F.aI (by decide)]
/-- how often, how much stored, when last: along an order -/
def cO (od : Nat → Nat) : Nat → (Nat → Nat)
  | 0 => fun _ => 0
  | k + 1 => fi (cO od k) (od k)
/-- a LINE's marks along an order, as they are computed -/
def vO (N : NG) (od : Nat → Nat) (l : Nat) : Nat → Int32
  | 0 => nI (nS N l)
  | k + 1 => vO N od l k - nI (tkA N (od k) (cO od k (od k) % nH N (od k)) l) + nI (gvA N (od k) (cO od k (od k) % nH N (od k)) l)
theorem ph_next {od : Nat → Nat} {k q : Nat} : cO od (k + 1) q = if q = od k then cO od k q + 1 else cO od k q := rfl
theorem m_mark {X : tM} {N : NG} {od : Nat → Nat} {z : Nat} {z2 : Int32} (hN : NOK N) (hl : Len X) (hG : Gr X N) (hz : z ≤ 2000) (ho : ∀ i, i < z → od i < nP N ∧ mI X 1242 0 i = nI (od i)) (hM : (∀ l, l < nL N → mI X 1238 0 l = nI (nS N l)) ∧ ∀ p, p < nP N → mI X 1239 0 p = 0) :
    Ok (fX11_marking_l45 (nI z) z2 FU 0 X) (fun m => Fr kM X m ∧ ∀ l, l < nL N → mI m 1238 0 l = vO N od l z) := by
  have hb := hN.1
  refine loop0 (fun n i m => fX11_marking_l45 (nI z) z2 n i m) z (fun i m => Fr kM X m ∧ (∀ l, l < nL N → mI m 1238 0 l = vO N od l i) ∧ ∀ p, p < nP N → mI m 1239 0 p = nI (cO od i p % nH N p)) _ (by omega) ?_ ?_ X ⟨Fr.refl, hM.1, fun p hp => by rw [hM.2 p hp]; show 0 = nI (0 % nH N p); rw [Nat.zero_mod]; rfl⟩
  · rintro n m ⟨F, h1, h2⟩
    rw [fX11_marking_l45, if_pos (nI_le (Nat.le_refl _) (by omega))]
    exact ok_some ⟨F, h1⟩
  · rintro n i m hi ⟨F, h1, h2⟩ kk
    obtain ⟨o1, o2⟩ := ho i hi
    obtain ⟨ha, ha4⟩ := ph_lt hN o1 (cO od i (od i))
    rw [fX11_marking_l45, if_neg (nI_ge hi (by omega)), F.n, ln1242 hl, chk_nI (by omega) (by omega), nI_clamp (by omega), F.aI (by decide), o2]
    refine ok_call (m_fireR hN (hl.fr F) (hG.fr F (by decide)) h1 (h2 _ o1) ha ha4 o1) ?_
    rintro m2 ⟨F2, k1, k2, k3⟩
    rw [bnd_eq, nI_1]
    refine kk m2 ⟨F.step F2 (by decide), k1, fun p hp => ?_⟩
    rw [ph_next]
    by_cases e : p = od i
    · rw [if_pos e, e, k2, Nat.mod_add_mod]
    · rw [if_neg e, k3 p e]; exact h2 p hp
theorem c_phase {M X : tM} {N : NG} {p n : Nat} (hN : NOK N) (hC : Cg M X N) (hp : p < nP N) : fX7_phaseBehind p (nI (n % nH N p)) M = some (nI ((n + 1) % nH N p)) := by
  have hh := (hN.2.1 p hp).2
  obtain ⟨ha, ha4⟩ := ph_lt hN hp n
  rw [fX7_phaseBehind, (hC.2.1 p hp).1.2.2.2.2.1, nI_1, ← Nat.mod_add_mod]
  generalize n % nH N p = a at *
  by_cases c : nH N p ≤ a + 1
  · rw [if_pos (nI_le c (by omega)), show a + 1 = nH N p by omega, Nat.mod_self]; rfl
  · rw [if_neg (nI_ge (by omega) (by omega)), Nat.mod_eq_of_lt (by omega)]
theorem c_mark {M : tM} {N : NG} {od : Nat → Nat} {z k l : Nat} (hN : NOK N) (hl : Len M) (hC : Cg M M N) (hz : z ≤ 2000) (hk : k ≤ z) (h83 : mI M 8 0 3 = nI z) (ho : ∀ i, i < z → od i < nP N ∧ mI M 902 0 i = nI (od i)) (hl' : l < nL N) :
    fX8_onLineBehind (some l) (nI k) M = some (vO N od l k) := by
  have hb := hN.1
  have cl := (hC.2.2.1 l hl').1
  obtain ⟨f1, f2, -⟩ := hN.2.2.1 l hl'
  have key : Ok (fX8_onLineBehind_l14 l (nI k) M FU (nI (nS N l)) 0 0 0) (fun w => w = vO N od l k) := by
    refine loop0 (fun n i (s : Int32 × Int32 × Int32) => fX8_onLineBehind_l14 l (nI k) M n s.1 s.2.1 s.2.2 i) k (fun i s => s.1 = vO N od l i ∧ s.2.1 = nI (cO od i (nF N l) % nH N (nF N l)) ∧ s.2.2 = nI (cO od i (nT N l) % nH N (nT N l))) _ (by omega) ?_ ?_ (nI (nS N l), 0, 0) ⟨rfl, by show 0 = nI (0 % _); rw [Nat.zero_mod]; rfl, by show 0 = nI (0 % _); rw [Nat.zero_mod]; rfl⟩
    · rintro n ⟨a, b, c⟩ ⟨h1, h2, h3⟩
      show Ok (fX8_onLineBehind_l14 l (nI k) M (n + 1) a b c (nI k)) _
      rw [fX8_onLineBehind_l14, if_pos (nI_le (Nat.le_refl _) (by omega))]
      exact ok_some h1
    · rintro n i ⟨a, b, c⟩ hi ⟨h1, h2, h3⟩ kk
      have h1 : a = vO N od l i := h1
      have h2 : b = nI (cO od i (nF N l) % nH N (nF N l)) := h2
      have h3 : c = nI (cO od i (nT N l) % nH N (nT N l)) := h3
      subst h1 h2 h3
      obtain ⟨o1, o2⟩ := ho i (by omega)
      obtain ⟨hb1, hb4⟩ := ph_lt hN f1 (cO od i (nF N l))
      obtain ⟨hc1, hc4⟩ := ph_lt hN f2 (cO od i (nT N l))
      show Ok (fX8_onLineBehind_l14 l (nI k) M (n + 1) (vO N od l i) (nI (cO od i (nF N l) % nH N (nF N l))) (nI (cO od i (nT N l) % nH N (nT N l))) (nI i)) _
      rw [fX8_onLineBehind_l14, if_neg (nI_ge hi (by omega)), h83, if_neg (nI_ge (show i < z by omega) (by omega)), ln902 hl, chk_nI (by omega) (by omega), bnd_eq, cl.2.2.2.1, Option.bind_some, nI_clamp (by omega), o2, (hC.2.1 _ f2).1.2.1]
      refine ok_call (P := fun w => w.1 = vO N od l i - nI (tkA N (od i) (cO od i (od i) % nH N (od i)) l) ∧ w.2 = nI (cO od (i + 1) (nT N l) % nH N (nT N l))) ?_ ?_
      · by_cases e : od i = nT N l
        · rw [if_pos (by rw [e]), cTakes hN hC hl' hc1, Option.bind_some, bnd_eq, bnd_eq, Option.bind_some, c_phase hN hC f2, Option.bind_some]
          refine ok_some ⟨?_, ?_⟩
          · show vO N od l i - nI _ = vO N od l i - nI (tkA N (od i) (cO od i (od i) % nH N (od i)) l)
            rw [tkA, if_pos e.symm, e]
          · show nI _ = nI (cO od (i + 1) (nT N l) % nH N (nT N l))
            rw [ph_next, if_pos e.symm]
        · rw [if_neg (fun q => e ((nI_eq (by omega) (by omega)).mp q))]
          refine ok_some ⟨?_, ?_⟩
          · show vO N od l i = vO N od l i - nI (tkA N (od i) (cO od i (od i) % nH N (od i)) l)
            rw [tkA, if_neg (fun q => e q.symm)]
            exact (Int32.sub_zero _).symm
          · show nI _ = nI (cO od (i + 1) (nT N l) % nH N (nT N l))
            rw [ph_next, if_neg (fun q => e q.symm)]
      · rintro ⟨x9, x10⟩ ⟨g1, g2⟩
        have g1 : x9 = vO N od l i - nI (tkA N (od i) (cO od i (od i) % nH N (od i)) l) := g1
        have g2 : x10 = nI (cO od (i + 1) (nT N l) % nH N (nT N l)) := g2
        subst g1 g2
        show Ok (chk (inb (nI i) 2000) <| bnd (mR M 4 l 1) fun r17 => Option.bind r17 fun i18 => _) _
        rw [chk_nI (by omega) (by omega), bnd_eq, cl.2.2.1, Option.bind_some, (hC.2.1 _ f1).1.2.1]
        refine ok_call (P := fun w => w.1 = vO N od l (i + 1) ∧ w.2 = nI (cO od (i + 1) (nF N l) % nH N (nF N l))) ?_ ?_
        · by_cases e : od i = nF N l
          · rw [if_pos (by rw [e]), cGives hN hC hl' hb1, Option.bind_some, bnd_eq, bnd_eq, Option.bind_some, c_phase hN hC f1, Option.bind_some]
            refine ok_some ⟨?_, ?_⟩
            · show _ = vO N od l i - nI (tkA N (od i) (cO od i (od i) % nH N (od i)) l) + nI (gvA N (od i) (cO od i (od i) % nH N (od i)) l)
              rw [gvA, if_pos e.symm, ← e]
            · show nI _ = nI (cO od (i + 1) (nF N l) % nH N (nF N l))
              rw [ph_next, if_pos e.symm]
          · rw [if_neg (fun q => e ((nI_eq (by omega) (by omega)).mp q))]
            refine ok_some ⟨?_, ?_⟩
            · show _ = vO N od l i - nI (tkA N (od i) (cO od i (od i) % nH N (od i)) l) + nI (gvA N (od i) (cO od i (od i) % nH N (od i)) l)
              rw [gvA, if_neg (fun q => e q.symm)]
              exact (Int32.add_zero _).symm
            · show nI _ = nI (cO od (i + 1) (nF N l) % nH N (nF N l))
              rw [ph_next, if_neg (fun q => e q.symm)]
        · rintro ⟨x20, x21⟩ ⟨g3, g4⟩
          show Ok (bnd (nI i + 1) fun x27 => fX8_onLineBehind_l14 l (nI k) M n x20 x21 (nI (cO od (i + 1) (nT N l) % nH N (nT N l))) x27) _
          rw [bnd_eq, nI_1]
          exact kk (x20, x21, _) ⟨g3, g4, rfl⟩
  obtain ⟨w, e, rfl⟩ := key
  rw [fX8_onLineBehind, Option.bind_some, bnd_eq, cl.2.2.2.2.1]
  first | (rw [e]; rfl) | (show Option.bind (fX8_onLineBehind_l14 l (nI k) M FU (nI (nS N l)) 0 0 0) _ = _; rw [e]; rfl)
/-- the order of the latest SCHEDULE -/
theorem Cs_ord {M : tM} {N : NG} (h : Cs M M N) : (mI M 11 0 43 = (-9) ∧ mI M 8 0 3 = 0) ∨ ∃ (z : Nat) (od : Nat → Nat), (1 ≤ z ∧ z ≤ 2000) ∧ mI M 11 0 43 = nI z ∧ mI M 8 0 3 = nI z ∧ ∀ i, i < z → od i < nP N ∧ mI M 1242 0 i = nI (od i) ∧ mI M 902 0 i = nI (od i) := by
  rcases h with ⟨s1, s2, s3⟩ | ⟨z, hz1, hz2, s1, s2, s3, -⟩
  · exact Or.inl ⟨s1, s2⟩
  · have ho : ∀ i, ∃ p, i < z → p < nP N ∧ mI M 1242 0 i = nI p ∧ mI M 902 0 i = nI p := fun i => by
      by_cases q : i < z
      · obtain ⟨p, h⟩ := s3 i q; exact ⟨p, fun _ => h⟩
      · exact ⟨0, fun h => absurd h q⟩
    obtain ⟨od, hod⟩ := Classical.axiomOfChoice ho
    exact Or.inr ⟨z, od, ⟨hz1, hz2⟩, s1, s2, hod⟩
theorem c23 : call23 Rel := by
  rintro a1 a2 M ⟨N, hA⟩
  obtain ⟨⟨hN, hl, hG⟩, hC, hT, hV, hF, hR, hD, hOn, hS, -⟩ := id hA
  have hb := hN.1
  rcases ix_cases a2 (n := nL N) (by omega) with ⟨l, hl', rfl⟩ | ha
  rotate_left
  · refine ⟨-1, M, ?_, ?_, N, hA⟩
    · rw [fX10_marking, cLine_out hC ha]; rfl
    · rw [fX11_marking, mLine_out hN hG ha]; rfl
  rcases Cs_ord hS with ⟨s1, s2⟩ | ⟨z, od, ⟨hz1, hz2⟩, s1, s2, ho⟩
  · refine ⟨-9, M, ?_, ?_, N, hA⟩
    · rw [fX10_marking, cLine_in hN hl hC hl', Option.bind_some, if_neg (by simp), s2, if_pos rfl]
    · rw [fX11_marking, mLine_in hN hG hl', Option.bind_some, if_neg (by decide), s1, if_pos (by decide)]
  · have prc : fX10_marking a1 (nI l) M = if a1 < 0 then some (-9) else if a1 ≤ nI z then (fX8_onLineBehind (some l) a1 M).bind fun x7 => some x7 else some (-9) := by
      rw [fX10_marking, cLine_in hN hl hC hl', Option.bind_some, if_neg (by simp), s2, if_neg (nI_ne0 (by omega) (by omega))]
    rcases ix_cases a1 (n := z + 1) (by omega) with ⟨k, hk, rfl⟩ | ha
    · have ii := in_nI (M := M) (j := k) (n := z) rfl (by omega) (by omega)
      obtain ⟨⟨y, M1⟩, e1, F1, -⟩ := m_bal hN hl hG
      have F1 : Fr kBal M M1 := F1
      have hR1 : ∃ R : Nat → Nat, ∀ p, p < nP N → mI M1 1235 0 p = nI (R p) := ⟨fun p => (mI M1 1235 0 p).toBitVec.toNat, fun p _ => i32_nat _⟩
      obtain ⟨R, hR1⟩ := hR1
      obtain ⟨M2, e2, F2, k2⟩ := m_first (fs := nS N) (y := 0) hN (hl.fr F1) (hG.fr F1 (by decide)) hR1 (fun q _ => Or.inl ⟨rfl, rfl⟩)
      have G2 : Fr kBM M M2 := (F1.mono (by decide)).step F2 (by decide)
      obtain ⟨M3, e3, F3, k3⟩ := m_mark (z := k) (z2 := nI l) (od := od) hN (hl.fr G2) (hG.fr G2 (by decide)) (by omega) (fun i hi => ⟨(ho i (by omega)).1, (G2.aI (by decide)).trans (ho i (by omega)).2.1⟩) ⟨fun q hq => by rw [k2.1 q hq, mk_0], fun p hp => by rw [(k2.2 p hp).1, Nat.zero_mod]; rfl⟩
      have G3 : Fr kBM M M3 := G2.step F3 (by decide)
      refine ⟨vO N od l k, M3, ?_, ?_, N, hA.fr G3 (by decide)⟩
      · rw [prc, if_neg ii.2.1, if_pos ii.2.2, c_mark hN hl hC hz2 (by omega) s2 (fun i hi => ⟨(ho i hi).1, (ho i hi).2.2⟩) hl']; rfl
      · rw [fX11_marking, mLine_in hN hG hl', Option.bind_some, if_neg (by decide), s1, if_neg (nI_pos (by omega)), ii.1, Option.bind_some, if_neg (by decide), e1, Option.bind_some]
        show (fX11_markFirst 0 M1).bind _ = _
        rw [e2, Option.bind_some, e3, Option.bind_some, G3.n, ln1238 hl, chk_nI (by omega) (by omega), nI_clamp (by omega), k3 l hl']
    · have ii := out_nI (M := M) (a := a1) (b := nI z) rfl (by omega) ha
      refine ⟨-9, M, ?_, ?_, N, hA⟩
      · rw [prc]
        by_cases q : a1 < 0
        · rw [if_pos q]
        · rw [if_neg q, if_neg]
          rcases ii.2 with h | h
          · exact absurd h q
          · exact h
      · rw [fX11_marking, mLine_in hN hG hl', Option.bind_some, if_neg (by decide), s1, if_neg (nI_pos (by omega)), ii.1, Option.bind_some, if_pos rfl]
