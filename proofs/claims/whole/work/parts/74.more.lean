/-! ends, look, given, is, may -/
theorem cGives {M X : tM} {N : NG} {l h : Nat} (hN : NOK N) (hC : Cg M X N) (hl : l < nL N) (hh : h < nH N (nF N l)) : fX4_givesIn l (nI h) M = some (nI (nG N l h)) := by
  have hc := (hC.2.2.1 l hl).2
  have h4 := (hN.2.1 _ (hN.2.2.1 l hl).1).2.2.1
  rw [fX4_givesIn, if_neg (nI_pos (by omega)), hc.1, if_neg (nI_ge hh (by omega)), chk_nI hh (by omega), nI_clamp (by omega), hc.2.2.2.2.2.1 h hh]
theorem cTakes {M X : tM} {N : NG} {l h : Nat} (hN : NOK N) (hC : Cg M X N) (hl : l < nL N) (hh : h < nH N (nT N l)) : fX4_takesIn l (nI h) M = some (nI (nK N l h)) := by
  have hc := (hC.2.2.1 l hl).2
  have h4 := (hN.2.1 _ (hN.2.2.1 l hl).2.1).2.2.1
  rw [fX4_takesIn, if_neg (nI_pos (by omega)), hc.2.1, if_neg (nI_ge hh (by omega)), chk_nI hh (by omega), nI_clamp (by omega), hc.2.2.2.2.2.2.1 h hh]
def ew (N : NG) (l : Nat) (w : Int32) : Int32 := if w = 0 then nI (nF N l) else if w = 1 then nI (nT N l) else if w = 2 then nI (nG N l 0) else if w = 3 then nI (nK N l 0) else nI (nS N l)
theorem endsM {M : tM} {N : NG} {l : Nat} (hN : NOK N) (hl : Len M) (hG : Gr M N) (hp : l < nL N) (w : Int32) : fX11_endsOf (nI l) w M = some (ew N l w) := by
  have h1 := hN.1.2
  have hg := hG.2.2.1 l hp
  have hk := hG.2.2.2 l 0 hp (by decide)
  rw [Nat.add_zero] at hk
  unfold fX11_endsOf ew
  simp (disch := omega) only [ln1213 hl, ln1214 hl, ln1215 hl, ln1216 hl, ln1217 hl, chk_nI, nI_clamp, hg.1, hg.2.1, hg.2.2]
  have e4 : 4 * nI l = nI (4 * l) := by rw [L32 4, pk_mul]
  simp (disch := omega) only [e4, chk_nI, nI_clamp, hk.1, hk.2]
  repeat' split
  all_goals rfl
theorem endC {M : tM} {N : NG} {l : Nat} (hN : NOK N) (hC : Cg M M N) (hp : l < nL N) {w : Int32} (h : w = 0 ∨ w = 1 ∨ w = 2 ∨ w = 3 ∨ w = 4) : fX4_endOf l w M = some (ew N l w) := by
  have hc := (hC.2.2.1 l hp).1
  have hb := hN.2.2.1 l hp
  rcases h with rfl | rfl | rfl | rfl | rfl
  · rw [fX4_endOf, if_neg (by decide), if_pos rfl, bnd_eq, hc.2.2.1, Option.bind_some, (hC.2.1 _ hb.1).1.2.1]; rfl
  · rw [fX4_endOf, if_neg (by decide), if_neg (by decide), if_pos rfl, bnd_eq, hc.2.2.2.1, Option.bind_some, (hC.2.1 _ hb.2.1).1.2.1]; rfl
  · rw [fX4_endOf, if_neg (by decide), if_neg (by decide), if_neg (by decide), if_pos rfl, show fX4_givesIn l 0 M = _ from cGives (h := 0) hN hC hp (hN.2.1 _ hb.1).2.1]; rfl
  · rw [fX4_endOf, if_neg (by decide), if_neg (by decide), if_neg (by decide), if_neg (by decide), if_pos rfl, show fX4_takesIn l 0 M = _ from cTakes (h := 0) hN hC hp (hN.2.1 _ hb.2.1).2.1]; rfl
  · rw [fX4_endOf, if_pos (by decide), hc.2.2.2.2.1]; rfl
theorem key5 (a2 : Int32) : (a2 = 0 ∨ a2 = 1 ∨ a2 = 2 ∨ a2 = 3 ∨ a2 = 4) ∨ (a2 < 0 ∨ nI 5 ≤ a2) := by
  rcases cs5 a2 with h | h | h | h | h | h
  · exact Or.inl (Or.inl h)
  · exact Or.inl (Or.inr (Or.inl h))
  · exact Or.inl (Or.inr (Or.inr (Or.inl h)))
  · exact Or.inl (Or.inr (Or.inr (Or.inr (Or.inl h))))
  · exact Or.inl (Or.inr (Or.inr (Or.inr (Or.inr h))))
  · exact Or.inr h
theorem c10 : call10 Rel := by
  rintro a1 a2 M ⟨N, hA⟩
  obtain ⟨⟨hN, hl, hG⟩, hC, -⟩ := id hA
  have hb := hN.1
  rcases ix_cases a1 (n := nL N) (by omega) with ⟨l, hp, rfl⟩ | ha
  · rcases key5 a2 with h | h
    · obtain ⟨e1, e2, e3⟩ := in5 (M := M) h
      refine ⟨ew N l a2, ?_, ?_, N, hA⟩
      · rw [fX10_ends, cLine_in hN hl hC hp, Option.bind_some, if_neg (by simp), if_neg e2, if_pos e3, Option.bind_some, endC hN hC hp h]; rfl
      · rw [fX11_ends, mLine_in hN hG hp, Option.bind_some, if_neg (by decide), e1, Option.bind_some, if_neg (by decide), endsM hN hl hG hp]; rfl
    · obtain ⟨e1, e2⟩ := out5 (M := M) h
      refine ⟨-1, ?_, ?_, N, hA⟩
      · rw [fX10_ends, cLine_in hN hl hC hp, Option.bind_some, if_neg (by simp)]
        by_cases q : a2 < 0
        · rw [if_pos q]
        · rw [if_neg q, if_neg (e2.resolve_left q)]
      · rw [fX11_ends, mLine_in hN hG hp, Option.bind_some, if_neg (by decide), e1]; rfl
  · rw [fX10_ends, fX11_ends, cLine_out hC ha, mLine_out hN hG ha]
    exact ⟨-1, rfl, rfl, N, hA⟩
/-- a thing on a LINE -/
theorem cThing {M : tM} {l o h i : Nat} (ho : o ≤ 400) (hh : h < 400) (h9 : mI M 4 l 9 = nI o) (h8 : mI M 4 l 8 = nI h) (hn : mN M 507 l = 400) (hi : i < o) : fX4_thingAt l (nI i) M = some (mL M 507 l ((h + i) % 400)) := by
  have e : nI h + nI i - (nI h + nI i) / 400 * 400 = nI ((h + i) % 400) := by
    rw [nI_add, L32 400]
    exact pk_rem (by omega) (by omega) (by omega)
  rw [fX4_thingAt, if_neg (nI_pos (by omega)), h9, if_neg (nI_ge hi (by omega)), h8, e, chk_tr (by decide), hn, chk_nI (by omega) (by omega), nI_clamp (by omega)]
theorem c36 : call36 Rel := by
  rintro a1 a2 M ⟨N, hA⟩
  obtain ⟨⟨hN, hl, hG⟩, hC, hT, hV, hF, hR, hD, hO, hS, hk1, hk2, hk3⟩ := id hA
  have hb := hN.1
  rcases ix_cases a1 (n := nL N) (by omega) with ⟨l, hp, rfl⟩ | ha
  · obtain ⟨f, -, -, -, -, hv⟩ := id hV
    obtain ⟨o, h, g, ho, hh, -, e1, e2, e3, e4, -⟩ := hv l hp
    rcases ix_cases a2 (n := o) (by omega) with ⟨i, hi, rfl⟩ | h2
    · have F1 : Fr [110011] M (sL M 10 0 11 (mL M 1222 0 (450 * l + i))) := Fr.refl.wLo (by decide)
      have FF : Fr [110011, 120029] M (sL (sL M 10 0 11 (mL M 1222 0 (450 * l + i))) 11 0 29 (mL M 1222 0 (450 * l + i))) := (F1.mono (by decide)).wLo (by decide)
      refine ⟨1, sL M 10 0 11 (mL M 1222 0 (450 * l + i)), _, ?_, ?_, N, ⟨⟨hN, hl.fr FF, hG.fr FF (by decide)⟩, hC.fr FF (by decide), hT.fr FF (by decide), hV.fr FF (by decide), ?_, hR.fr FF (by decide), hD.fr FF (by decide), hO.fr FF (by decide), hS.fr FF (by decide), hk1.fr FF (by decide), hk2.fr FF (by decide), hk3.fr FF (by decide)⟩⟩
      · rw [fX10_look, cLine_in hN hl hC hp, Option.bind_some, if_neg (by simp), if_neg (nI_pos (by omega)), Option.bind_some, e2, if_pos (nI_lt hi (by omega)), cThing ho hh e2 e3 (hC.2.2.1 l hp).2.2.2.2.1 hi, e4 i hi]; rfl
      · rw [fX11_look, mLine_in hN (hG.fr F1 (by decide)) hp, Option.bind_some, if_neg (by decide), ln1221 (hl.fr F1), chk_nI (by omega) (by omega), nI_clamp (by omega), F1.aI (by decide), e1, inI_in hi (by omega), Option.bind_some, if_neg (by decide)]
        simp (disch := omega) only [L32, pk_mul, nI_add, ln1222 (hl.fr F1), chk_nI, bnd_eq, nI_clamp]
        rw [F1.aL (by decide)]
      · obtain ⟨f1, f2, f3, f4, f5⟩ := hF
        exact ⟨by simpa [mI_sL] using f1, fun j hj => by simpa [mI_sL] using f2 j hj, by simp [mL_sL], by simpa [mL_sL] using f4, by simpa [mI_sL] using f5⟩
    · obtain ⟨M1, M2, m1, F1, m2, m3⟩ := meets_ok hA (f := 2) (by decide)
      refine ⟨-3, M1, M2, ?_, ?_, N, m3⟩
      · rw [fX10_look, cLine_in hN hl hC hp, Option.bind_some, if_neg (by simp)]
        by_cases q : a2 < 0
        · rw [if_pos q, show fX10_meets 2 M = _ from m1]; rfl
        · rw [if_neg q, Option.bind_some, e2, if_neg (nlt_le (h2.resolve_left q)), show fX10_meets 2 M = _ from m1]; rfl
      · rw [fX11_look, mLine_in hN (hG.fr F1 (by decide)) hp, Option.bind_some, if_neg (by decide), ln1221 (hl.fr F1), chk_nI (by omega) (by omega), nI_clamp (by omega), F1.aI (by decide), e1, inI_out (by omega) h2, Option.bind_some, if_pos rfl, show fX11_meets 2 M1 = _ from m2]; rfl
  · refine ⟨-1, M, M, ?_, ?_, N, hA⟩
    · rw [fX10_look, cLine_out hC ha]; rfl
    · rw [fX11_look, mLine_out hN hG ha]; rfl
theorem c37 : call37 Rel := by
  rintro a1 a2 M ⟨N, hA⟩
  obtain ⟨⟨hN, hl, hG⟩, hC, hT, hV, hF, hR, hD, hO, hS, hk1, hk2, hk3⟩ := id hA
  have hb := hN.1
  rcases ix_cases a1 (n := nL N) (by omega) with ⟨l, hp, rfl⟩ | ha
  · obtain ⟨f, hf, -, -, -, hv⟩ := id hV
    obtain ⟨o, h, g, ho, hh, hg, e1, e2, e3, e4, e5, e6, e7⟩ := hv l hp
    rcases ix_cases a2 (n := 199 + 1) (by decide) with ⟨i, hi, rfl⟩ | h2
    · by_cases hgi : i < g
      · have F1 : Fr [110011] M (sL M 10 0 11 (mL M 1224 0 (200 * l + i))) := Fr.refl.wLo (by decide)
        have FF : Fr [110011, 120029] M (sL (sL M 10 0 11 (mL M 1224 0 (200 * l + i))) 11 0 29 (mL M 1224 0 (200 * l + i))) := (F1.mono (by decide)).wLo (by decide)
        refine ⟨1, sL M 10 0 11 (mL M 1224 0 (200 * l + i)), _, ?_, ?_, N, ⟨⟨hN, hl.fr FF, hG.fr FF (by decide)⟩, hC.fr FF (by decide), hT.fr FF (by decide), hV.fr FF (by decide), ?_, hR.fr FF (by decide), hD.fr FF (by decide), hO.fr FF (by decide), hS.fr FF (by decide), hk1.fr FF (by decide), hk2.fr FF (by decide), hk3.fr FF (by decide)⟩⟩
        · rw [fX10_given, cLine_in hN hl hC hp, Option.bind_some, if_neg (by simp), if_neg (nI_pos (by omega)), if_pos (show nI i < (200 : Int32) from nI_lt (b := 200) (by omega) (by decide)), Option.bind_some, e6, if_pos (nI_lt (by omega) (by omega)), (hC.2.2.1 l hp).2.2.2.2.2.1, chk_nI (by omega) (by omega), bnd_eq, nI_clamp (by omega), e7 i (by omega)]
        · rw [fX11_given, mLine_in hN (hG.fr F1 (by decide)) hp, Option.bind_some, if_neg (by decide), (in_nI (b := 199) (n := 199) rfl (show i ≤ 199 by omega) (by decide)).1, Option.bind_some, if_neg (by decide), ln1223 (hl.fr F1), chk_nI (by omega) (by omega), nI_clamp (by omega), F1.aI (by decide), e5, if_pos (nI_lt hgi (by omega))]
          simp (disch := omega) only [L32, pk_mul, nI_add, ln1224 (hl.fr F1), chk_nI, bnd_eq, nI_clamp]
          rw [F1.aL (by decide)]
        · obtain ⟨f1, f2, f3, f4, f5⟩ := hF
          exact ⟨by simpa [mI_sL] using f1, fun j hj => by simpa [mI_sL] using f2 j hj, by simp [mL_sL], by simpa [mL_sL] using f4, by simpa [mI_sL] using f5⟩
      · refine ⟨-9, M, M, ?_, ?_, N, hA⟩
        · rw [fX10_given, cLine_in hN hl hC hp, Option.bind_some, if_neg (by simp), if_neg (nI_pos (by omega)), if_pos (show nI i < (200 : Int32) from nI_lt (b := 200) (by omega) (by decide)), Option.bind_some, e6, if_neg (nI_nlt (by omega) (by omega))]
        · rw [fX11_given, mLine_in hN hG hp, Option.bind_some, if_neg (by decide), (in_nI (b := 199) (n := 199) rfl (show i ≤ 199 by omega) (by decide)).1, Option.bind_some, if_neg (by decide), ln1223 hl, chk_nI (by omega) (by omega), nI_clamp (by omega), e5, if_neg (nI_nlt (by omega) (by omega))]
    · refine ⟨-1, M, M, ?_, ?_, N, hA⟩
      · rw [fX10_given, cLine_in hN hl hC hp, Option.bind_some, if_neg (by simp)]
        by_cases q : a2 < 0
        · rw [if_pos q]
        · rw [if_neg q, if_neg (show ¬ a2 < (200 : Int32) from nlt_le (h2.resolve_left q))]
      · rw [fX11_given, mLine_in hN hG hp, Option.bind_some, if_neg (by decide), (out_nI (b := 199) (n := 199) rfl (by decide) h2).1]; rfl
  · refine ⟨-1, M, M, ?_, ?_, N, hA⟩
    · rw [fX10_given, cLine_out hC ha]; rfl
    · rw [fX11_given, mLine_out hN hG ha]; rfl
/-- a PART may fire, with the things themselves -/
def rdy (M : tM) (N : NG) (p : Nat) : Prop := ∀ l, l < nL N → nT N l = p → nK N l (mI M 1219 0 p).toNatClampNeg ≤ (mI M 1221 0 l).toNatClampNeg
def b01 (c : Prop) [Decidable c] : Int32 := if c then 1 else 0
theorem Cv.ph {M X : tM} {N : NG} (h : Cv M X N) (hN : NOK N) {p : Nat} (hp : p < nP N) : ∃ a, a < nH N p ∧ a < 4 ∧ mI X 1219 0 p = nI a ∧ mI M 7 p 7 = nI a ∧ (mI X 1219 0 p).toNatClampNeg = a := by
  obtain ⟨f, -, -, -, h1, -⟩ := h
  obtain ⟨⟨a, ha, e⟩, -, e2, -⟩ := h1 p hp
  have := (hN.2.1 p hp).2.2.1
  exact ⟨a, ha, by omega, e, by rw [e2, e], by rw [e, nI_clamp (by omega)]⟩
theorem Cv.on {M X : tM} {N : NG} (h : Cv M X N) {l : Nat} (hl : l < nL N) : ∃ o, o ≤ 400 ∧ mI X 1221 0 l = nI o ∧ mI M 4 l 9 = nI o ∧ (mI X 1221 0 l).toNatClampNeg = o := by
  obtain ⟨f, -, -, -, -, h1⟩ := h
  obtain ⟨o, _, _, ho, _, _, e1, e2, _⟩ := h1 l hl
  exact ⟨o, ho, e1, e2, by rw [e1, nI_clamp (by omega)]⟩
theorem cReady {M X : tM} {N : NG} (hN : NOK N) (hC : Cg M X N) (hV : Cv M X N) {p : Nat} (hp : p < nP N) : (fX9_isReady (some p) M = some 1 ∧ rdy X N p) ∨ (fX9_isReady (some p) M = some 0 ∧ ¬ rdy X N p) := by
  have hb := hN.1
  obtain ⟨a, ha, ha4, a1, a2, a3⟩ := hV.ph hN hp
  have key : Ok (fX9_isReady_l5 p M FU (nx (nT N) p (nL N) 0)) (fun w => (w = .inr () ∧ rdy X N p) ∨ (w = .inl 0 ∧ ¬ rdy X N p)) := by
    refine loopC0 (fun n r (_ : Unit) => fX9_isReady_l5 p M n r) (nT N) p (nL N) (fun i _ => ∀ l, l < i → nT N l = p → nK N l (mI X 1219 0 p).toNatClampNeg ≤ (mI X 1221 0 l).toNatClampNeg) _ hb.2 ?_ ?_ ?_ () (fun l hl => by omega)
    · intro n _ h
      rw [fX9_isReady_l5, if_pos rfl]
      exact ok_some (Or.inl ⟨rfl, h⟩)
    · intro i _ hi hne h l hl ht
      by_cases e : l = i
      · subst e; exact absurd ht hne
      · exact h l (by omega) ht
    · intro n i _ hi he h kk
      obtain ⟨o, ho, o1, o2, o3⟩ := hV.on hi
      have hk := (hN.2.2.2 i a hi ha4).2.1
      rw [fX9_isReady_l5, if_neg (by simp), Option.bind_some, a2, cTakes hN hC hi (by rw [he]; exact ha), Option.bind_some, o2]
      by_cases q : nK N i a ≤ o
      · rw [if_pos (nI_le q (by omega)), bnd_eq, (hC.2.2.1 i hi).1.2.2.2.2.2.1, he]
        refine kk () (fun l hl ht => ?_)
        by_cases e : l = i
        · subst e; rw [a3, o3]; exact q
        · exact h l (by omega) ht
      · rw [if_neg (nI_ge (by omega) (by omega))]
        refine ok_some (Or.inr ⟨rfl, fun hr => q ?_⟩)
        have := hr i hi he
        rw [a3, o3] at this
        exact this
  obtain ⟨w, e, k⟩ := key
  rw [fX9_isReady, Option.bind_some, bnd_eq, (hC.2.1 p hp).1.2.2.2.2.2.1, e]
  rcases k with ⟨rfl, k⟩ | ⟨rfl, k⟩
  · exact Or.inl ⟨rfl, k⟩
  · exact Or.inr ⟨rfl, k⟩
theorem mReady {M X : tM} {N : NG} (hN : NOK N) (hl : Len X) (hG : Gr X N) (hV : Cv M X N) {p : Nat} (hp : p < nP N) : (fX11_mayFire (nI p) X = some 1 ∧ rdy X N p) ∨ (fX11_mayFire (nI p) X = some 0 ∧ ¬ rdy X N p) := by
  have hb := hN.1
  obtain ⟨a, ha, ha4, a1, a2, a3⟩ := hV.ph hN hp
  have key : Ok (fX11_mayFire_l4 (nI p) X FU 1 0) (fun w => (w = 1 ∧ rdy X N p) ∨ (w = 0 ∧ ¬ rdy X N p)) := by
    refine loop0 (fun n i s => fX11_mayFire_l4 (nI p) X n s i) (nL N) (fun i s => (s = 1 ∧ ∀ l, l < i → nT N l = p → nK N l (mI X 1219 0 p).toNatClampNeg ≤ (mI X 1221 0 l).toNatClampNeg) ∨ (s = 0 ∧ ¬ rdy X N p)) _ (by omega) ?_ ?_ 1 (Or.inl ⟨rfl, fun l hl => by omega⟩)
    · intro n s h
      rw [fX11_mayFire_l4, hG.1.2, if_pos (nI_le (Nat.le_refl _) (by omega))]
      exact ok_some h
    · intro n i s hi h kk
      obtain ⟨o, ho, o1, o2, o3⟩ := hV.on hi
      have hk := (hN.2.2.2 i a hi ha4).2.1
      have hg := hG.2.2.1 i hi
      have hq := (hG.2.2.2 i a hi ha4).2
      have hti := (hN.2.2.1 i hi).2.1
      rw [fX11_mayFire_l4, hG.1.2, if_neg (nI_ge hi (by omega))]
      rcases h with ⟨rfl, h⟩ | ⟨rfl, h⟩
      · rw [if_neg (by decide)]
        simp (disch := omega) only [ln1214 hl, ln1221 hl, ln1219 hl, ln1216 hl, chk_nI, nI_clamp, hg.2.1, a1, L32, pk_mul, nI_add, hq, o1, nI_eq, nI_ltI, bnd_eq]
        by_cases e : nT N i = p
        · rw [if_pos e]
          by_cases q : o < nK N i a
          · rw [if_pos q]
            refine ok_call (P := fun w => w = 0) (ok_some rfl) ?_
            rintro _ rfl
            refine kk 0 (Or.inr ⟨rfl, fun hr => ?_⟩)
            have := hr i hi e
            rw [a3, o3] at this
            omega
          · rw [if_neg q]
            refine ok_call (P := fun w => w = 1) (ok_some rfl) ?_
            rintro _ rfl
            refine kk 1 (Or.inl ⟨rfl, fun l hl ht => ?_⟩)
            by_cases e2 : l = i
            · subst e2; rw [a3, o3]; omega
            · exact h l (by omega) ht
        · rw [if_neg e]
          refine ok_call (P := fun w => w = 1) (ok_some rfl) ?_
          rintro _ rfl
          refine kk 1 (Or.inl ⟨rfl, fun l hl ht => ?_⟩)
          by_cases e2 : l = i
          · subst e2; exact absurd ht e
          · exact h l (by omega) ht
      · rw [if_pos rfl, Option.bind_some, bnd_eq, nI_1]
        exact kk 0 (Or.inr ⟨rfl, h⟩)
  obtain ⟨w, e, k⟩ := key
  rw [fX11_mayFire, e, Option.bind_some]
  rcases k with ⟨rfl, k⟩ | ⟨rfl, k⟩
  · exact Or.inl ⟨rfl, k⟩
  · exact Or.inr ⟨rfl, k⟩
theorem c28 : call28 Rel := by
  rintro a1 M ⟨N, hA⟩
  obtain ⟨⟨hN, hl, hG⟩, hC, hT, hV, -⟩ := id hA
  have hb := hN.1
  rcases ix_cases a1 (n := nP N) (by omega) with ⟨p, hp, rfl⟩ | ha
  · rcases cReady hN hC hV hp with ⟨e1, r1⟩ | ⟨e1, r1⟩ <;> rcases mReady hN hl hG hV hp with ⟨e2, r2⟩ | ⟨e2, r2⟩
    · refine ⟨1, ?_, ?_, N, hA⟩
      · rw [fX10_may, cPart_in hN hl hC hp, Option.bind_some, if_neg (by simp), e1]; rfl
      · rw [fX11_may, mPart_in hN hG hp, Option.bind_some, if_neg (by decide), e2]; rfl
    · exact absurd r1 r2
    · exact absurd r2 r1
    · refine ⟨0, ?_, ?_, N, hA⟩
      · rw [fX10_may, cPart_in hN hl hC hp, Option.bind_some, if_neg (by simp), e1]; rfl
      · rw [fX11_may, mPart_in hN hG hp, Option.bind_some, if_neg (by decide), e2]; rfl
  · rw [fX10_may, fX11_may, cPart_out hC ha, mPart_out hN hG ha]
    exact ⟨-1, rfl, rfl, N, hA⟩
