/-! beat: the model's nodes and waits -/
def EX (X : tM) (E : List ED) : Prop := mI X 11 0 71 = nI E.length ∧ ∀ e, e < E.length → mI X 1268 0 e = nI (E.getD e (0, 0, 0)).1 ∧ mI X 1269 0 e = nI (E.getD e (0, 0, 0)).2.1 ∧ mI X 1270 0 e = nI (E.getD e (0, 0, 0)).2.2
theorem EX.fr {ks : List Nat} {M M2 : tM} {E : List ED} (h : EX M E) (hF : Fr ks M M2) (hd : disj ks [11, 1268, 1269, 1270, 120071] = true) : EX M2 E := by
  refine ⟨(hF.hI hd 11 71 (by decide) 0).trans h.1, fun e he => ?_⟩
  rw [hF.gI hd 1268 (by decide), hF.gI hd 1269 (by decide), hF.gI hd 1270 (by decide)]
  exact h.2 e he
def kWm : List Nat := [1268, 1269, 1270, 120071]
theorem m_wait {M : tM} {E : List ED} {a b r : Nat} (hl : Len M) (h : EX M E) (hE : E.length < 1400) : Ok (fX11_waits (nI a) (nI b) (nI r) M) (fun m => Fr kWm M m ∧ EX m (E ++ [(a, b, r)])) := by
  obtain ⟨h1, h2⟩ := h
  rw [fX11_waits, h1, ln1268 hl, chk_nI hE (by omega), bnd_eq, nI_clamp (by omega), mI_sI, if_neg (by simp), h1, mN_sI, ln1269 hl, chk_nI hE (by omega), bnd_eq, mI_sI, if_neg (by simp), mI_sI, if_neg (by simp), h1, mN_sI, mN_sI, ln1270 hl, chk_nI hE (by omega), bnd_eq, bnd_eq, mI_sI, if_neg (by simp), mI_sI, if_neg (by simp), mI_sI, if_neg (by simp), h1, nI_1, nI_clamp (by omega)]
  refine ok_some ⟨(((Fr.refl.wI (by decide)).wI (by decide)).wI (by decide)).wIo (by decide), ?_, fun e he => ?_⟩
  · rw [mI_sI, if_pos ⟨rfl, rfl, rfl⟩, List.length_append]; rfl
  · rw [List.length_append] at he
    have he : e < E.length + 1 := he
    by_cases q : e = E.length
    · subst q
      rw [gd_last]
      simp [mI_sI]
    · rw [gdl (show e < E.length by omega)]
      have := h2 e (by omega)
      simp [mI_sI, q, this]
theorem m_number {X : tM} {N : NG} {R tm : Nat → Nat} (hN : NOK N) (hl : Len X) (hG : Gr X N) (hR : ∀ p, p < nP N → mI X 1235 0 p = nI (R p)) (hT : ∀ p, p < nP N → mI X 1210 0 p = nI (tm p)) (hn : bs R (nP N) ≤ 60) :
    Ok (fX11_setWaits_l9 FU 0 0 X) (fun m => Fr [1266, 1267] X m ∧ VT m 1266 1267 N R tm) := by
  have hb := hN.1
  refine loop0 (fun n i (s : Int32 × tM) => fX11_setWaits_l9 n s.1 i s.2) (nP N) (fun i s => s.1 = nI (bs R i) ∧ Fr [1266, 1267] X s.2 ∧ (∀ q, q < i → mI s.2 1266 0 q = nI (bs R q)) ∧ ∀ q j, q < i → j < R q → mI s.2 1267 0 (bs R q + j) = nI (tm q)) _ (by omega) ?_ ?_ (0, X) ⟨rfl, Fr.refl, fun q hq => by omega, fun q j hq => by omega⟩
  · rintro n ⟨y, m⟩ ⟨k0, F, k3, k4⟩
    have F : Fr [1266, 1267] X m := F
    show Ok (fX11_setWaits_l9 (n + 1) y (nI (nP N)) m) _
    rw [fX11_setWaits_l9, F.oI (by decide), hG.1.1, if_pos (nI_le (Nat.le_refl _) (by omega))]
    exact ok_some ⟨F, k3, k4⟩
  · rintro n i ⟨y, m⟩ hi ⟨k0, F, k3, k4⟩ kk
    have k0 : y = nI (bs R i) := k0
    have F : Fr [1266, 1267] X m := F
    have k3 : ∀ q, q < i → mI m 1266 0 q = nI (bs R q) := k3
    have k4 : ∀ q j, q < i → j < R q → mI m 1267 0 (bs R q + j) = nI (tm q) := k4
    subst k0
    show Ok (fX11_setWaits_l9 (n + 1) (nI (bs R i)) (nI i) m) _
    rw [fX11_setWaits_l9, F.oI (by decide), hG.1.1, if_neg (nI_ge hi (by omega)), F.n, ln1266 hl, chk_nI (by omega) (by omega), bnd_eq, nI_clamp (by omega)]
    have F1 : Fr [1266] m (sI m 1266 0 i (nI (bs R i))) := Fr.refl.wI (by decide)
    have v4 : ∀ q, mI (sI m 1266 0 i (nI (bs R i))) 1266 0 q = if q = i then nI (bs R i) else mI m 1266 0 q := fun q => by
      by_cases e : q = i
      · subst e; simp [mI_sI]
      · simp [mI_sI, e]
    generalize sI m 1266 0 i (nI (bs R i)) = m1 at *
    have G1 : Fr [1266, 1267] X m1 := F.step F1 (by decide)
    have b1 := bs_le (R := R) (show i + 1 ≤ nP N by omega)
    have b2 : bs R (i + 1) = bs R i + R i := rfl
    have key : Ok (fX11_setWaits_l26 (nI i) FU (nI (bs R i)) 0 m1) (fun w => w.1 = nI (bs R (i + 1)) ∧ Fr [1267] m1 w.2 ∧ (∀ v, v < bs R i → mI w.2 1267 0 v = mI m1 1267 0 v) ∧ ∀ j, j < R i → mI w.2 1267 0 (bs R i + j) = nI (tm i)) := by
      refine loop0 (fun n j (s : Int32 × tM) => fX11_setWaits_l26 (nI i) n s.1 j s.2) (R i) (fun j s => s.1 = nI (bs R i + j) ∧ Fr [1267] m1 s.2 ∧ (∀ v, v < bs R i → mI s.2 1267 0 v = mI m1 1267 0 v) ∧ ∀ j', j' < j → mI s.2 1267 0 (bs R i + j') = nI (tm i)) _ (by omega) ?_ ?_ (nI (bs R i), m1) ⟨rfl, Fr.refl, fun _ _ => rfl, fun j' h => by omega⟩
      · rintro n ⟨y, m2⟩ ⟨g0, F2, g1, g2⟩
        have F2 : Fr [1267] m1 m2 := F2
        show Ok (fX11_setWaits_l26 (nI i) (n + 1) y (nI (R i)) m2) _
        rw [fX11_setWaits_l26, F2.n, G1.n, ln1235 hl, chk_nI (by omega) (by omega), nI_clamp (by omega), F2.aI (by decide), G1.aI (by decide), hR i hi, if_pos (nI_le (Nat.le_refl _) (by omega))]
        exact ok_some ⟨g0, F2, g1, g2⟩
      · rintro n j ⟨y, m2⟩ hj ⟨g0, F2, g1, g2⟩ kk2
        have F2 : Fr [1267] m1 m2 := F2
        have g0 : y = nI (bs R i + j) := g0
        have g1 : ∀ v, v < bs R i → mI m2 1267 0 v = mI m1 1267 0 v := g1
        have g2 : ∀ j', j' < j → mI m2 1267 0 (bs R i + j') = nI (tm i) := g2
        subst g0
        show Ok (fX11_setWaits_l26 (nI i) (n + 1) (nI (bs R i + j)) (nI j) m2) _
        rw [fX11_setWaits_l26, F2.n, G1.n, ln1235 hl, chk_nI (by omega) (by omega), nI_clamp (by omega), F2.aI (k := 1235) (by decide), G1.aI (k := 1235) (by decide), hR i hi, if_neg (nI_ge hj (by omega)), F2.n, G1.n, ln1210 hl, chk_nI (by omega) (by omega), F2.n, G1.n, ln1267 hl, chk_nI (by omega) (by omega), bnd_eq, bnd_eq, bnd_eq, nI_clamp (by omega), F2.aI (k := 1210) (by decide), G1.aI (k := 1210) (by decide), hT i hi, nI_1, nI_1]
        refine kk2 (_, _) ⟨rfl, F2.wI (by decide), fun v hv => ?_, fun j' hj' => ?_⟩
        · show mI (sI m2 1267 0 (bs R i + j) (nI (tm i))) 1267 0 v = _
          rw [mI_sI, if_neg (fun z => by have := z.2.2; omega)]; exact g1 v hv
        · show mI (sI m2 1267 0 (bs R i + j) (nI (tm i))) 1267 0 (bs R i + j') = _
          rw [mI_sI]
          by_cases e : j' = j
          · rw [if_pos ⟨rfl, rfl, by omega⟩]
          · rw [if_neg (fun z => by have := z.2.2; omega)]; exact g2 j' (by omega)
    refine ok_call key ?_
    rintro ⟨y, m2⟩ ⟨g0, F2, g1, g2⟩
    have g0 : y = nI (bs R (i + 1)) := g0
    have F2 : Fr [1267] m1 m2 := F2
    have g1 : ∀ v, v < bs R i → mI m2 1267 0 v = mI m1 1267 0 v := g1
    show Ok (bnd (nI i + 1) fun x16 => fX11_setWaits_l9 n y x16 m2) _
    rw [bnd_eq, nI_1]
    refine kk (y, m2) ⟨g0, G1.step F2 (by decide), fun q hq => ?_, fun q j hq hj => ?_⟩
    · show mI m2 1266 0 q = _
      rw [F2.aI (by decide), v4]
      by_cases e : q = i
      · rw [if_pos e, e]
      · rw [if_neg e]; exact k3 q (by omega)
    · show mI m2 1267 0 (bs R q + j) = _
      by_cases e : q = i
      · subst e; exact g2 j hj
      · rw [g1 _ (bs_lt (show q < i by omega) hj), F1.aI (by decide)]; exact k4 q j (by omega) hj
theorem own_mod {j r : Nat} (hj : j < r) : (j + r - 1) % r = if j = 0 then r - 1 else j - 1 := by
  by_cases z : j = 0
  · rw [if_pos z, z, Nat.zero_add, Nat.mod_eq_of_lt (by omega)]
  · rw [if_neg z, show j + r - 1 = (j - 1) + r by omega, Nat.add_mod_right, Nat.mod_eq_of_lt (by omega)]
theorem m_own {X : tM} {N : NG} {R tm : Nat → Nat} (hN : NOK N) (hl : Len X) (hG : Gr X N) (hR : ∀ p, p < nP N → mI X 1235 0 p = nI (R p)) (hn : bs R (nP N) ≤ 60) (hV : VT X 1266 1267 N R tm) (h71 : mI X 11 0 71 = 0) :
    Ok (fX11_setWaits_l65 FU 0 X) (fun m => Fr kWm X m ∧ EX m (ownA R (nP N))) := by
  have hb := hN.1
  refine loop0 (fun n i m => fX11_setWaits_l65 n i m) (nP N) (fun i m => Fr kWm X m ∧ EX m (ownA R i)) _ (by omega) ?_ ?_ X ⟨Fr.refl, h71, fun e he => by cases he⟩
  · rintro n m ⟨F, h⟩
    rw [fX11_setWaits_l65, F.oI (by decide), hG.1.1, if_pos (nI_le (Nat.le_refl _) (by omega))]
    exact ok_some ⟨F, h⟩
  · rintro n i m hi ⟨F, h⟩ kk
    have b1 := bs_le (R := R) (show i + 1 ≤ nP N by omega)
    have b2 : bs R (i + 1) = bs R i + R i := rfl
    have ol := ownA_len (R := R) i
    rw [fX11_setWaits_l65, F.oI (by decide), hG.1.1, if_neg (nI_ge hi (by omega))]
    have key : Ok (fX11_setWaits_l75 (nI i) FU 0 m) (fun m2 => Fr kWm X m2 ∧ EX m2 (ownA R (i + 1))) := by
      refine loop0 (fun n j m2 => fX11_setWaits_l75 (nI i) n j m2) (R i) (fun j m2 => Fr kWm X m2 ∧ EX m2 (ownA R i ++ own R i j)) _ (by omega) ?_ ?_ m ⟨F, by rw [own, List.append_nil]; exact h⟩
      · rintro n m2 ⟨F2, h2⟩
        rw [fX11_setWaits_l75, F2.n, ln1235 hl, chk_nI (by omega) (by omega), nI_clamp (by omega), F2.aI (by decide), hR i hi, if_pos (nI_le (Nat.le_refl _) (by omega))]
        exact ok_some ⟨F2, h2⟩
      · rintro n j m2 hj ⟨F2, h2⟩ kk2
        have e66 : mI m2 1266 0 i = nI (bs R i) := (F2.aI (by decide)).trans (hV.1 i hi)
        rw [fX11_setWaits_l75, F2.n, ln1235 hl, chk_nI (by omega) (by omega), nI_clamp (by omega), F2.aI (k := 1235) (by decide), hR i hi, if_neg (nI_ge hj (by omega)), F2.n, ln1266 hl, chk_nI (by omega) (by omega), chk_nI (by omega) (by omega), chk_nI (by omega) (by omega), chk_nI (by omega) (by omega), chk_tr (nz_nI (by omega) (by omega)), e66, nI_add, nI_add, L32 1, pk_sub (by omega), pk_rem (by omega) (by omega) (by omega), own_mod hj, nI_add]
        have ow := own_len (R := R) (p := i) j
        refine ok_call (P := fun x => x = nI (if j = 0 then 1 else 0)) ?_ ?_
        · by_cases z : j = 0
          · rw [if_pos (by rw [z]; rfl), if_pos z]; exact ok_some rfl
          · rw [if_neg (nI_ne0 (by omega) (by omega)), if_neg z]; exact ok_some rfl
        · rintro _ rfl
          refine ok_call (m_wait (a := bs R i + j) (b := bs R i + (if j = 0 then R i - 1 else j - 1)) (r := if j = 0 then 1 else 0) (hl.fr F2) h2 (by rw [List.length_append]; omega)) ?_
          rintro m3 ⟨F3, h3⟩
          rw [bnd_eq, nI_add]
          refine kk2 m3 ⟨F2.step F3 (by decide), ?_⟩
          rw [own, ← List.append_assoc]
          by_cases z : j = 0
          · rw [if_pos z, if_pos z] at h3 ⊢; exact h3
          · rw [if_neg z, if_neg z] at h3 ⊢; exact h3
    refine ok_call key ?_
    rintro m2 ⟨F2, h2⟩
    rw [bnd_eq, nI_1]
    exact kk m2 ⟨F2, h2⟩
theorem flm2 {w Q m : Nat} {M : tM} (hm0 : 0 < m) (hm : m ≤ 100000000) (hw : w ≤ 100000000) (hb : Q * m ≤ 100000000) (h : w ≤ Q * m ∨ Q = 0) : fJ9_floorMod_7cf53 (nI w - nI (Q * m)) (nI m) M = some (nI (w % m)) := by
  have hmod := Nat.mod_lt w hm0
  by_cases z : Q = 0
  · subst z
    rw [Nat.zero_mul, show nI w - nI 0 = nI w from Int32.sub_zero _, fJ9_floorMod_7cf53, chk_tr (nz_nI (by omega) (by omega)), bnd_eq, if_pos ((xor_sgn _ _).mpr (by rw [nI_toInt (by omega), nI_toInt (by omega)]; omega)), pk_rem (by omega) (by omega) (by omega)]
  · have hw' : w ≤ Q * m := by omega
    have hd : w / m ≤ Q := by
      have := Nat.div_le_div_right (c := m) hw'
      rwa [Nat.mul_div_cancel _ hm0] at this
    have hdm := Nat.div_add_mod w m
    have e3 : (Q - w / m) * m + m * (w / m) = Q * m := by
      rw [Nat.mul_comm m, ← Nat.add_mul, Nat.sub_add_cancel hd]
    have e : nI w - nI (Q * m) = nI (w % m) - nI ((Q - w / m) * m) := by
      apply Int32.toInt_inj.mp
      rw [t_nsub hw hb, t_nsub (by omega) (by omega)]; omega
    rw [e]
    exact fmd hmod hm (by omega)
theorem gN_round {N : NG} {R : Nat → Nat} (hN : NOK N) (hB : RBal N R) {l : Nat} (hl : l < nL N) (q : Nat) : gN N l (q * R (nF N l)) = q * gN N l (R (nF N l)) := by
  obtain ⟨f1, f2, f3⟩ := hN.2.2.1 l hl
  have hH : 0 < nH N (nF N l) := (hN.2.1 _ f1).2.1
  have h1 := hB.1 _ f1
  have h2 := (hB.2 l hl).2
  have e := gsum_mul (nG N l) (nH N (nF N l)) hH (R (nF N l) / nH N (nF N l) * q)
  rw [h2]
  rw [show q * R (nF N l) = nH N (nF N l) * (R (nF N l) / nH N (nF N l) * q) by rw [← Nat.mul_assoc, ← h1, Nat.mul_comm]]
  show gsum (nG N l) (nH N (nF N l)) _ = _
  rw [e]
  show _ * _ * sG N l = _
  ac_rfl
/-- the model's way back -/
theorem m_gback {X : tM} {N : NG} {R : Nat → Nat} {l need q u W : Nat} (hN : NOK N) (hl : Len X) (hG : Gr X N) (hB : RBal N R) (hl' : l < nL N) (hR6 : R (nF N l) ≤ 60) (hq6 : q ≤ 60) (hn : need ≤ 3000) (hg : gvr N R l need q u) (hW : u ≤ W) (h0 : q = 0 → W = u) (h1 : 1 ≤ q → W < q * R (nF N l)) :
    Ok (fX11_giver_l56 (nI l) (nI need) (nI (nF N l)) X FU (nI W - nI (q * R (nF N l))) (nI (nS N l + gN N l (W + 1) - q * gN N l (R (nF N l)))) 1) (fun w => w = nI u - nI (q * R (nF N l))) := by
  have hb := hN.1
  obtain ⟨f1, f2, f3⟩ := hN.2.2.1 l hl'
  have hH := (hN.2.1 _ f1).2
  obtain ⟨g1, g2, g3⟩ := hg
  have hqR : q * R (nF N l) ≤ 60 * 60 := Nat.mul_le_mul hq6 hR6
  have hWb : W ≤ 3660 := by
    by_cases z : q = 0
    · have := h0 z; omega
    · have := h1 (by omega); omega
  have hQ : q * R (nF N l) = (q * (R (nF N l) / nH N (nF N l))) * nH N (nF N l) := by
    have := hB.1 _ f1
    rw [Nat.mul_assoc, Nat.mul_comm (R (nF N l) / nH N (nF N l)), ← this]
  have e5 : mI X 1205 0 (nF N l) = nI (nH N (nF N l)) := (hG.2.1 _ f1).2
  refine loop0 (fun n _ (s : Int32 × Int32 × Int32) => fX11_giver_l56 (nI l) (nI need) (nI (nF N l)) X n s.1 s.2.1 s.2.2) (W - u + 1) (fun i s => (i < W - u + 1 ∧ s.1 = nI (W - i) - nI (q * R (nF N l)) ∧ s.2.1 = nI (nS N l + gN N l (W - i + 1) - q * gN N l (R (nF N l))) ∧ s.2.2 = 1) ∨ (i = W - u + 1 ∧ s.1 = nI u - nI (q * R (nF N l)) ∧ s.2.2 = 0)) _ (by omega) ?_ ?_ (_, _, 1) (Or.inl ⟨by omega, rfl, rfl, rfl⟩)
  · rintro n ⟨y4, y5, y6⟩ (⟨h, -⟩ | ⟨-, h2, h3⟩)
    · omega
    · have h2 : y4 = nI u - nI (q * R (nF N l)) := h2
      have h3 : y6 = 0 := h3
      show Ok (fX11_giver_l56 (nI l) (nI need) (nI (nF N l)) X (n + 1) y4 y5 y6) _
      rw [fX11_giver_l56, h3, if_pos rfl]
      exact ok_some h2
  · rintro n i ⟨y4, y5, y6⟩ hi (⟨-, h2, h3, h4⟩ | ⟨h, -⟩) kk
    rotate_left
    · omega
    have h2 : y4 = nI (W - i) - nI (q * R (nF N l)) := h2
    have h3 : y5 = nI (nS N l + gN N l (W - i + 1) - q * gN N l (R (nF N l))) := h3
    have h4 : y6 = 1 := h4
    subst h2 h3 h4
    obtain ⟨w, hw⟩ : ∃ w, W - i = w := ⟨_, rfl⟩
    rw [hw]
    have hwu : u ≤ w := by omega
    obtain ⟨ha, ha4⟩ := ph_lt hN f1 w
    have gw : gN N l (w + 1) = gN N l w + nG N l (w % nH N (nF N l)) := rfl
    have gm := gN_mono (N := N) (l := l) (show u + 1 ≤ w + 1 by omega)
    have gb := gN_le hN hl' (n := w + 1)
    have hg50 := (hN.2.2.2 l _ hl' ha4).1
    show Ok (fX11_giver_l56 (nI l) (nI need) (nI (nF N l)) X (n + 1) (nI w - nI (q * R (nF N l))) (nI (nS N l + gN N l (w + 1) - q * gN N l (R (nF N l)))) 1) _
    have ef : fJ9_floorMod_7cf53 (nI w - nI (q * R (nF N l))) (nI (nH N (nF N l))) X = some (nI (w % nH N (nF N l))) := by
      rw [hQ]
      refine flm2 (by omega) (by omega) (by omega) (by omega) ?_
      by_cases z : q = 0
      · right; rw [z, Nat.zero_mul]
      · left; rw [← hQ]; have := h1 (by omega); omega
    have e4 : 4 * nI l + nI (w % nH N (nF N l)) = nI (4 * l + w % nH N (nF N l)) := by rw [L32 4, pk_mul, nI_add]
    rw [fX11_giver_l56, if_neg (by decide), ln1205 hl, chk_nI (by omega) (by omega), nI_clamp (by omega), e5, ef, Option.bind_some, e4, ln1215 hl, chk_nI (by omega) (by omega), bnd_eq, nI_clamp (by omega), (hG.2.2.2 l _ hl' ha4).1]
    generalize q * gN N l (R (nF N l)) = QK at *
    have et := t_nsub (a := nS N l + gN N l (w + 1) - QK) (b := nG N l (w % nH N (nF N l))) (by omega) (by omega)
    by_cases c : gN N l w + nS N l < need + QK
    · have hwe : w = u := by
        refine Nat.le_antisymm (Nat.le_of_not_lt fun z => ?_) hwu
        have := gN_mono (N := N) (l := l) (show u + 1 ≤ w by omega)
        omega
      rw [if_pos (by rw [Int32.lt_iff_toInt_lt, et, nI_toInt (by omega)]; omega), Option.bind_some, if_pos rfl, Option.bind_some, bnd_eq, if_pos rfl, Option.bind_some, bnd_eq]
      refine kk (_, _, 0) (Or.inr ⟨by omega, ?_, rfl⟩)
      show nI w - nI (q * R (nF N l)) - 0 = _
      rw [hwe]; exact Int32.sub_zero _
    · have hwu2 : u < w := by
        refine Nat.lt_of_le_of_ne hwu (fun z => c ?_)
        rw [← z]; exact g2
      rw [if_neg (by rw [Int32.lt_iff_toInt_lt, et, nI_toInt (by omega)]; omega), Option.bind_some, if_neg (by decide), Option.bind_some, bnd_eq, if_neg (by decide), Option.bind_some, bnd_eq, pk_sub (a := nS N l + gN N l (w + 1) - QK) (b := nG N l (w % nH N (nF N l))) (by omega)]
      refine kk (_, _, 1) (Or.inl ⟨by omega, ?_, ?_, rfl⟩)
      · show nI w - nI (q * R (nF N l)) - 1 = nI (W - (i + 1)) - nI (q * R (nF N l))
        apply Int32.toInt_inj.mp
        have e := t_nsub (a := w) (b := q * R (nF N l)) (by omega) (by omega)
        rw [L32 1, t_sub (by omega) (by omega) (by omega), e, t_nsub (by omega) (by omega)]; omega
      · show nI (nS N l + gN N l (w + 1) - QK - nG N l (w % nH N (nF N l))) = nI (nS N l + gN N l (W - (i + 1) + 1) - QK)
        rw [show W - (i + 1) + 1 = w by omega]
        congr 1; omega
theorem m_giver {X : tM} {N : NG} {R : Nat → Nat} {l need : Nat} (hN : NOK N) (hl : Len X) (hG : Gr X N) (hB : RBal N R) (hl' : l < nL N) (hR6 : R (nF N l) ≤ 60) (h1 : 1 ≤ need) (h2 : need ≤ gN N l (R (nF N l))) :
    fX11_giver (nI l) (nI need) X = some (nI (gu N R l need) - nI (gq N R l need * R (nF N l))) := by
  have hb := hN.1
  obtain ⟨f1, f2, f3⟩ := hN.2.2.1 l hl'
  have hH := (hN.2.1 _ f1).2
  have hg := gvr_ex (N := N) (R := R) (l := l) h1 h2
  have hgb := gN_le hN hl' (n := R (nF N l))
  have e5 : mI X 1205 0 (nF N l) = nI (nH N (nF N l)) := (hG.2.1 _ f1).2
  have hq6 : gq N R l need ≤ 60 := by
    unfold gq
    split
    · omega
    · have : (nS N l - need) / gN N l (R (nF N l)) ≤ nS N l - need := Nat.div_le_self _ _
      omega
  have pre : fX11_giver (nI l) (nI need) X = Option.bind (fX11_giver_l18 (nI l) (nI need) (nI (nF N l)) X FU (-1) (nI (nS N l))) fun (x13, x14) => Option.bind (fX11_giver_l56 (nI l) (nI need) (nI (nF N l)) X FU x13 x14 1) fun x37 => some x37 := by
    rw [fX11_giver, ln1213 hl, chk_nI (by omega) (by omega), bnd_eq, nI_clamp (by omega), (hG.2.2.1 l hl').1, ln1217 hl, chk_nI (by omega) (by omega), bnd_eq, (hG.2.2.1 l hl').2.2]
  by_cases c : nS N l < need
  · have q0 : gq N R l need = 0 := if_pos c
    rw [q0] at hg ⊢
    obtain ⟨g1, g2, g3⟩ := id hg
    rw [Nat.zero_mul] at g2 g3
    have gb := gN_le hN hl' (n := gu N R l need + 1)
    have key : Ok (fX11_giver_l18 (nI l) (nI need) (nI (nF N l)) X FU (-1) (nI (nS N l))) (fun w => w.1 = nI (gu N R l need) ∧ w.2 = nI (nS N l + gN N l (gu N R l need + 1))) := by
      refine loop0 (fun n _ (s : Int32 × Int32) => fX11_giver_l18 (nI l) (nI need) (nI (nF N l)) X n s.1 s.2) (gu N R l need + 1) (fun i s => s.1 = nI i - 1 ∧ s.2 = nI (nS N l + gN N l i)) _ (by omega) ?_ ?_ (-1, nI (nS N l)) ⟨show (-1 : Int32) = nI 0 - 1 by decide, rfl⟩
      · rintro n ⟨y4, y5⟩ ⟨k1, k2⟩
        have k1 : y4 = nI (gu N R l need + 1) - 1 := k1
        have k2 : y5 = nI (nS N l + gN N l (gu N R l need + 1)) := k2
        show Ok (fX11_giver_l18 (nI l) (nI need) (nI (nF N l)) X (n + 1) y4 y5) _
        rw [fX11_giver_l18, k2, if_pos (nI_le (by omega) (by omega))]
        refine ok_some ⟨?_, rfl⟩
        show y4 = _
        rw [k1, L32 1, pk_sub (by omega), Nat.add_sub_cancel]
      · rintro n i ⟨y4, y5⟩ hi ⟨k1, k2⟩ kk
        have k1 : y4 = nI i - 1 := k1
        have k2 : y5 = nI (nS N l + gN N l i) := k2
        subst k1 k2
        obtain ⟨ha, ha4⟩ := ph_lt hN f1 i
        have gm := gN_mono (N := N) (l := l) (show i ≤ gu N R l need by omega)
        have e4 : 4 * nI l + nI (i % nH N (nF N l)) = nI (4 * l + i % nH N (nF N l)) := by rw [L32 4, pk_mul, nI_add]
        show Ok (fX11_giver_l18 (nI l) (nI need) (nI (nF N l)) X (n + 1) (nI i - 1) (nI (nS N l + gN N l i))) _
        rw [fX11_giver_l18, if_neg (nI_ge (by omega) (by omega)), bnd_eq, Int32.sub_add_cancel, ln1205 hl, chk_nI (by omega) (by omega), nI_clamp (by omega), e5, chk_tr (nz_nI (by omega) (by omega)), pk_rem (by omega) (by omega) (by omega), e4, ln1215 hl, chk_nI (by omega) (by omega), bnd_eq, nI_clamp (by omega), (hG.2.2.2 l _ hl' ha4).1, nI_add]
        refine kk (_, _) ⟨?_, ?_⟩
        · show nI i = nI (i + 1) - 1
          rw [L32 1, pk_sub (by omega), Nat.add_sub_cancel]
        · show nI (nS N l + gN N l i + nG N l (i % nH N (nF N l))) = nI (nS N l + gN N l (i + 1))
          rw [Nat.add_assoc]; rfl
    obtain ⟨⟨x13, x14⟩, e, k1, k2⟩ := key
    have k1 : x13 = nI (gu N R l need) := k1
    have k2 : x14 = nI (nS N l + gN N l (gu N R l need + 1)) := k2
    obtain ⟨w, e2, rfl⟩ := m_gback (W := gu N R l need) hN hl hG hB hl' hR6 (Nat.zero_le _) (by omega) hg (Nat.le_refl _) (fun _ => rfl) (fun h => by omega)
    rw [Nat.zero_mul, Nat.zero_mul, Nat.sub_zero, show nI (gu N R l need) - nI 0 = nI (gu N R l need) from Int32.sub_zero _] at e2
    rw [pre, e, Option.bind_some]
    show Option.bind (fX11_giver_l56 (nI l) (nI need) (nI (nF N l)) X FU x13 x14 1) _ = _
    rw [k1, k2, e2, Option.bind_some, Nat.zero_mul, show nI (gu N R l need) - nI 0 = nI (gu N R l need) from Int32.sub_zero _]
  · have q1 : 1 ≤ gq N R l need := by
      unfold gq
      rw [if_neg c]; exact Nat.le_add_left _ _
    have hqR : gq N R l need * R (nF N l) ≤ 60 * 60 := Nat.mul_le_mul hq6 hR6
    have hRF := hg.1
    have hpos : 1 * R (nF N l) ≤ gq N R l need * R (nF N l) := Nat.mul_le_mul_right _ q1
    have e1 : fX11_giver_l18 (nI l) (nI need) (nI (nF N l)) X FU (-1) (nI (nS N l)) = some (-1, nI (nS N l)) := by
      obtain ⟨n, hn⟩ : ∃ n, FU = n + 1 := ⟨FU - 1, by have : 0 < FU := FU_lt (by omega); omega⟩
      rw [hn, fX11_giver_l18, if_pos (nI_le (by omega) (by omega))]
    obtain ⟨w, e2, rfl⟩ := m_gback (W := gq N R l need * R (nF N l) - 1) hN hl hG hB hl' hR6 hq6 (by omega) hg (by omega) (fun h => by omega) (fun h => by omega)
    rw [Nat.sub_add_cancel (by omega), gN_round hN hB hl', Nat.add_sub_cancel] at e2
    have e3 : nI (gq N R l need * R (nF N l) - 1) - nI (gq N R l need * R (nF N l)) = -1 := by
      apply Int32.toInt_inj.mp
      have : (-1 : Int32).toInt = -1 := by decide
      rw [t_nsub (by omega) (by omega), this]; omega
    rw [e3] at e2
    rw [pre, e1, Option.bind_some]
    show Option.bind (fX11_giver_l56 (nI l) (nI need) (nI (nF N l)) X FU (-1) (nI (nS N l)) 1) _ = _
    rw [e2, Option.bind_some]
theorem m_l165 {X : tM} {N : NG} {R tm : Nat → Nat} {l : Nat} {E0 : List ED} (hN : NOK N) (hl : Len X) (hG : Gr X N) (hl' : l < nL N) (hR : ∀ p, p < nP N → mI X 1235 0 p = nI (R p)) (hn : bs R (nP N) ≤ 60) (hB : RBal N R) (hV : VT X 1266 1267 N R tm) (hE : EX X E0) (hlen : E0.length ≤ 1200) :
    Ok (fX11_setWaits_l165 (nI l) (nI (nF N l)) FU 0 0 X) (fun m => Fr kWm X m ∧ EX m (E0 ++ lnE N R l (R (nT N l)))) := by
  have hb := hN.1
  obtain ⟨f1, f2, f3⟩ := hN.2.2.1 l hl'
  have hR6 : ∀ p, p < nP N → R p ≤ 60 := fun p hp => by have : R p ≤ bs R (nP N) := sumTo_ge hp; omega
  have hRT := hR6 _ f2
  have hRF := hR6 _ f1
  have hHT := (hN.2.1 _ f2).2
  refine loop0 (fun n i (s : Int32 × tM) => fX11_setWaits_l165 (nI l) (nI (nF N l)) n s.1 i s.2) (R (nT N l)) (fun i s => s.1 = nI (tN N l i) ∧ Fr kWm X s.2 ∧ EX s.2 (E0 ++ lnE N R l i)) _ (by omega) ?_ ?_ (0, X) ⟨rfl, Fr.refl, by rw [lnE, List.append_nil]; exact hE⟩
  · rintro n ⟨y3, m⟩ ⟨h1, F, h3⟩
    have F : Fr kWm X m := F
    have h3 : EX m (E0 ++ lnE N R l (R (nT N l))) := h3
    show Ok (fX11_setWaits_l165 (nI l) (nI (nF N l)) (n + 1) y3 (nI (R (nT N l))) m) _
    rw [fX11_setWaits_l165, F.n, ln1214 hl, chk_nI (by omega) (by omega), nI_clamp (by omega), F.aI (k := 1214) (by decide), (hG.2.2.1 l hl').2.1, F.n, ln1235 hl, chk_nI (by omega) (by omega), nI_clamp (by omega), F.aI (k := 1235) (by decide), hR _ f2, if_pos (nI_le (Nat.le_refl _) (by omega))]
    exact ok_some ⟨F, h3⟩
  · rintro n i ⟨y3, m⟩ hi ⟨h1, F, h3⟩ kk
    have h1 : y3 = nI (tN N l i) := h1
    have F : Fr kWm X m := F
    have h3 : EX m (E0 ++ lnE N R l i) := h3
    subst h1
    obtain ⟨ha, ha4⟩ := ph_lt hN f2 i
    have en : tN N l i + nK N l (i % nH N (nT N l)) = tN N l (i + 1) := rfl
    have hk50 := (hN.2.2.2 l _ hl' ha4).2.1
    have el := lnE_len (N := N) (R := R) (l := l) i
    have hGm := hG.fr F (by decide)
    have e14 : mI m 1214 0 l = nI (nT N l) := (hGm.2.2.1 l hl').2.1
    have e35 : ∀ p, p < nP N → mI m 1235 0 p = nI (R p) := fun p hp => (F.aI (by decide)).trans (hR p hp)
    have e66 : ∀ p, p < nP N → mI m 1266 0 p = nI (bs R p) := fun p hp => (F.aI (by decide)).trans (hV.1 p hp)
    have e05 : mI m 1205 0 (nT N l) = nI (nH N (nT N l)) := (hGm.2.1 _ f2).2
    have e4 : 4 * nI l + nI (i % nH N (nT N l)) = nI (4 * l + i % nH N (nT N l)) := by rw [L32 4, pk_mul, nI_add]
    show Ok (fX11_setWaits_l165 (nI l) (nI (nF N l)) (n + 1) (nI (tN N l i)) (nI i) m) _
    rw [fX11_setWaits_l165, F.n, ln1214 hl, chk_nI (by omega) (by omega), nI_clamp (show l < 2 ^ 31 by omega), e14, F.n, ln1235 hl, chk_nI (by omega) (by omega), nI_clamp (show nT N l < 2 ^ 31 by omega), e35 _ f2, if_neg (nI_ge hi (by omega)), chk_nI (by omega) (by omega), F.n, ln1205 hl, chk_nI (by omega) (by omega), e05, chk_tr (nz_nI (by omega) (by omega)), pk_rem (by omega) (by omega) (by omega), e4, F.n, ln1216 hl, chk_nI (by omega) (by omega), bnd_eq, nI_clamp (by omega), (hGm.2.2.2 l _ hl' ha4).2, bnd_eq, nI_add, en]
    refine ok_call (P := fun m2 => Fr kWm X m2 ∧ EX m2 (E0 ++ lnE N R l (i + 1))) ?_ ?_
    · by_cases z : nK N l (i % nH N (nT N l)) = 0
      · rw [z, if_pos (by decide), lnE, if_pos z, List.append_nil]
        exact ok_some ⟨F, h3⟩
      · rw [if_neg (show ¬ nI _ ≤ (0 : Int32) from nI_ge (a := 0) (by omega) (by omega)), lnE, if_neg z, ← List.append_assoc]
        have n2 := tN_mono (N := N) (l := l) (show i + 1 ≤ R (nT N l) by omega)
        have n3 := (hB.2 l hl').1
        have hg := gvr_ex (N := N) (R := R) (l := l) (need := tN N l (i + 1)) (by omega) (by omega)
        have mg := m_giver (X := m) (need := tN N l (i + 1)) hN (hl.fr F) hGm hB hl' hRF (by omega) (by omega)
        have hq6 : gq N R l (tN N l (i + 1)) ≤ 60 := by
          unfold gq
          split
          · omega
          · have : (nS N l - tN N l (i + 1)) / gN N l (R (nF N l)) ≤ nS N l - tN N l (i + 1) := Nat.div_le_self _ _
            omega
        have hqR : gq N R l (tN N l (i + 1)) * R (nF N l) ≤ 60 * 60 := Nat.mul_le_mul hq6 hRF
        have g1 := hg.1
        rw [mg, Option.bind_some, chk_nI (by omega) (by omega), F.n, ln1266 hl, chk_nI (by omega) (by omega), chk_nI (by omega) (by omega), chk_nI (by omega) (by omega), nI_clamp (show nF N l < 2 ^ 31 by omega), e35 _ f1, fmd g1 (by omega) (by omega), Option.bind_some, chk_nI (by omega) (by omega), fdv g1 (by omega) (by omega), Option.bind_some, e66 _ f2, e66 _ f1, nI_add, nI_add, Int32.neg_neg]
        refine ok_call (m_wait (a := bs R (nT N l) + i) (b := bs R (nF N l) + gu N R l (tN N l (i + 1))) (r := gq N R l (tN N l (i + 1))) (hl.fr F) h3 (by rw [List.length_append]; omega)) ?_
        rintro m2 ⟨F2, e2⟩
        exact ok_some ⟨F.step F2 (by decide), e2⟩
    · rintro m2 ⟨F2, e2⟩
      rw [bnd_eq, nI_1]
      exact kk (_, m2) ⟨rfl, F2, e2⟩
def kSw : List Nat := [1266, 1267, 1268, 1269, 1270, 120071]
theorem m_setWaits {X : tM} {N : NG} {R tm : Nat → Nat} (hN : NOK N) (hl : Len X) (hG : Gr X N) (hR : ∀ p, p < nP N → mI X 1235 0 p = nI (R p)) (hT : ∀ p, p < nP N → mI X 1210 0 p = nI (tm p)) (hn : bs R (nP N) ≤ 60) (hB : RBal N R) :
    Ok (fX11_setWaits X) (fun m => Fr kSw X m ∧ EX m (lnA N R (nL N)) ∧ VT m 1266 1267 N R tm) := by
  have hb := hN.1
  rw [fX11_setWaits, bnd_eq]
  have F0 : Fr [120071] X (sI X 11 0 71 0) := Fr.refl.wIo (by decide)
  have v0 : mI (sI X 11 0 71 0) 11 0 71 = 0 := by simp [mI_sI]
  generalize sI X 11 0 71 0 = X0 at *
  refine ok_call (m_number (tm := tm) hN (hl.fr F0) (hG.fr F0 (by decide)) (fun p hp => (F0.aI (by decide)).trans (hR p hp)) (fun p hp => (F0.aI (by decide)).trans (hT p hp)) hn) ?_
  rintro X1 ⟨F1, V1⟩
  have G1 : Fr [1266, 1267, 120071] X X1 := (F0.mono (by decide)).step F1 (by decide)
  refine ok_call (m_own (tm := tm) hN (hl.fr G1) (hG.fr G1 (by decide)) (fun p hp => (G1.aI (by decide)).trans (hR p hp)) hn V1 ((F1.oI (by decide)).trans v0)) ?_
  rintro X2 ⟨F2, E2⟩
  have G2 : Fr kSw X X2 := (G1.mono (by decide)).step F2 (by decide)
  have V2 : VT X2 1266 1267 N R tm := ⟨fun p hp => (F2.aI (by decide)).trans (V1.1 p hp), fun p j hp hj => (F2.aI (by decide)).trans (V1.2 p j hp hj)⟩
  have key : Ok (fX11_setWaits_l144 FU 0 X2) (fun m => Fr kWm X2 m ∧ EX m (lnA N R (nL N))) := by
    refine loop0 (fun n i m => fX11_setWaits_l144 n i m) (nL N) (fun i m => Fr kWm X2 m ∧ EX m (lnA N R i)) _ (by omega) ?_ ?_ X2 ⟨Fr.refl, E2⟩
    · rintro n m ⟨F, h⟩
      rw [fX11_setWaits_l144, F.oI (by decide), G2.oI (by decide), hG.1.2, if_pos (nI_le (Nat.le_refl _) (by omega))]
      exact ok_some ⟨F, h⟩
    · rintro n i m hi ⟨F, h⟩ kk
      have G : Fr kSw X m := G2.step F (by decide)
      have hGm := hG.fr G (by decide)
      have hlen := lnA_len (N := N) (R := R) hN hn i (by omega)
      rw [fX11_setWaits_l144, hGm.1.2, if_neg (nI_ge hi (by omega)), G.n, ln1213 hl, chk_nI (by omega) (by omega), bnd_eq, nI_clamp (by omega), (hGm.2.2.1 i hi).1]
      refine ok_call (m_l165 (tm := tm) hN (hl.fr G) hGm hi (fun p hp => (G.aI (by decide)).trans (hR p hp)) hn hB ⟨fun p hp => (F.aI (by decide)).trans (V2.1 p hp), fun p j hp hj => (F.aI (by decide)).trans (V2.2 p j hp hj)⟩ h (by omega)) ?_
      rintro m2 ⟨F3, e2⟩
      rw [bnd_eq, nI_1]
      exact kk m2 ⟨F.step F3 (by decide), e2⟩
  refine ok_call key ?_
  rintro X3 ⟨F3, E3⟩
  exact ok_some ⟨G2.step F3 (by decide), E3, fun p hp => (F3.aI (by decide)).trans (V2.1 p hp), fun p j hp hj => (F3.aI (by decide)).trans (V2.2 p j hp hj)⟩
