/-! fire: the model's work -/
def WX (X X' : tM) (p : Nat) (u : tU) (v : Int64) : Prop := v = u.2.1 ∧ mI X' 11 0 76 = u.1 ∧ TrX X' u.2.2.1 ∧ Fr [1209, 1220, 1227, 120028, 120076] X X' ∧ mL X' 1220 0 p = u.2.2.2.1 ∧ (∀ q, ¬ q = p → mL X' 1220 0 q = mL X 1220 0 q) ∧ (∀ r, mI X 1206 0 p = nI r → r ≤ 12 → ∀ j, j < r → mL X' 1209 0 (12 * p + j) = u.2.2.2.2 j) ∧ ∀ j, (j < 12 * p ∨ 12 * p + 12 ≤ j) → mL X' 1209 0 j = mL X 1209 0 j
theorem WX_same {X X' : tM} {p : Nat} {f : Int32} {x v : Int64} {ts : List Int32} (F : Fr [1227, 120028, 120076] X X') (T : TrX X' ts) (h3 : mI X' 11 0 76 = f) (hv : v = x) : WX X X' p (f, x, ts, mL X 1220 0 p, fun j => mL X 1209 0 (12 * p + j)) v :=
  ⟨hv, h3, T, F.mono (by decide), F.aL (by decide), fun q _ => F.aL (by decide), fun r hr h12 j hj => F.aL (by decide), fun j _ => F.aL (by decide)⟩
theorem s_l20 {M X : tM} {N : NG} (hN : NOK N) (hl : Len X) (hG : Gr X N) (hV : Cv M X N) {p : Nat} (hp : p < nP N) (h4 : ¬ nD N p = 4) (x : Int64) : fX11_shared_l20 (nI p) x X FU 0 0 0 = some (wD X N p) := by
  have hb := hN.1
  obtain ⟨a, ha, ha4, a1, a2, a3⟩ := hV.ph hN hp
  have key : Ok (fX11_shared_l20 (nI p) x X FU 0 0 0) (fun w => w = wD X N p) := by
    refine loop0 (fun n i (s : Int64 × Int32) => fX11_shared_l20 (nI p) x X n s.1 s.2 i) (nL N) (fun i s => (s.2 = 0 ∧ s.1 = 0 ∧ nx (nT N) p (nL N) 0 = nx (nT N) p (nL N) i) ∨ (s.2 = 1 ∧ s.1 = wD X N p)) _ (by omega) ?_ ?_ (0, 0) (Or.inl ⟨rfl, rfl, rfl⟩)
    · rintro n ⟨y4, y6⟩ h
      show Ok (fX11_shared_l20 (nI p) x X (n + 1) y4 y6 (nI (nL N))) _
      rw [fX11_shared_l20, hG.1.2, if_pos (nI_le (Nat.le_refl _) (by omega))]
      rcases h with ⟨-, h, h'⟩ | ⟨-, h⟩
      · have h : y4 = 0 := h
        refine ok_some ?_
        show y4 = wD X N p
        rw [h, wD, h', nx_end (Nat.le_refl _)]; rfl
      · exact ok_some h
    · rintro n i ⟨y4, y6⟩ hi h kk
      show Ok (fX11_shared_l20 (nI p) x X (n + 1) y4 y6 (nI i)) _
      rw [fX11_shared_l20, hG.1.2, if_neg (nI_ge hi (by omega))]
      rcases h with ⟨h1, h2, h'⟩ | ⟨h1, h2⟩
      · have h1 : y6 = 0 := h1
        have h2 : y4 = 0 := h2
        subst h1 h2
        have hg := hG.2.2.1 i hi
        have hq := (hG.2.2.2 i a hi ha4).2
        have hti := (hN.2.2.1 i hi).2.1
        have hk50 := (hN.2.2.2 i a hi ha4).2.1
        rw [if_pos rfl, ln1214 hl, chk_nI (by omega) (by omega), nI_clamp (by omega), hg.2.1]
        by_cases e : nT N i = p
        · have hk1 := (hN.2.2.2 i a hi ha4).2.2.2 (by rw [e]; exact h4)
          have e4 : 4 * nI i + nI a = nI (4 * i + a) := by rw [L32 4, pk_mul, nI_add]
          have e5 : 450 * nI i = nI (450 * i) := by rw [L32 450, pk_mul]
          rw [if_pos (by rw [e]), ln1219 hl, chk_nI (by omega) (by omega), nI_clamp (by omega), a1, e4, ln1216 hl, chk_nI (by omega) (by omega), nI_clamp (by omega), hq, if_neg (show ¬ nI (nK N i a) ≤ (0 : Int32) from nI_ge (b := nK N i a) (a := 0) (by omega) (by omega)), e5, ln1222 hl, chk_nI (by omega) (by omega), nI_clamp (by omega), bnd_eq, Option.bind_some]
          show Ok (bnd (nI i + 1) fun x15 => fX11_shared_l20 (nI p) x X n _ _ x15) _
          rw [bnd_eq, nI_1]
          refine kk (mL X 1222 0 (450 * i), 1) (Or.inr ⟨rfl, ?_⟩)
          show _ = wD X N p
          rw [wD, h', nx_hit hi e]; rfl
        · rw [if_neg (fun q => e ((nI_eq (by omega) (by omega)).mp q)), Option.bind_some]
          show Ok (bnd (nI i + 1) fun x15 => fX11_shared_l20 (nI p) x X n _ _ x15) _
          rw [bnd_eq, nI_1]
          exact kk (0, 0) (Or.inl ⟨rfl, rfl, by rw [h', nx_miss hi e]⟩)
      · have h1 : y6 = 1 := h1
        subst h1
        rw [if_neg (by decide)]
        exact ok_some h2
  obtain ⟨w, e, rfl⟩ := key
  exact e
theorem s_l53 {X : tM} {p r : Nat} {x y : Int64} (hl : Len X) (hp : p < 12) (hr : mI X 1208 0 p = nI r) (h1 : 1 ≤ r) (h12 : r ≤ 12) : Ok (fX11_delayed_l53 (nI p) x y FU 1 X) (fun X' => Fr [1209] X X' ∧ (∀ j, j + 1 < r → mL X' 1209 0 (12 * p + j) = mL X 1209 0 (12 * p + (j + 1))) ∧ ∀ j, (j < 12 * p ∨ 12 * p + 12 ≤ j) → mL X' 1209 0 j = mL X 1209 0 j) := by
  refine loopG (fun n i s => fX11_delayed_l53 (nI p) x y n i s) r (fun i s => (Fr [1209] X s ∧ 1 ≤ i) ∧ (∀ j, j + 1 < i → mL s 1209 0 (12 * p + j) = mL X 1209 0 (12 * p + (j + 1))) ∧ (∀ j, (j < 12 * p ∨ 12 * p + 12 ≤ j) → mL s 1209 0 j = mL X 1209 0 j) ∧ ∀ j, i ≤ j → mL s 1209 0 (12 * p + j) = mL X 1209 0 (12 * p + j)) _ ?_ ?_ FU 1 X h1 (FU_lt (by omega)) ⟨⟨Fr.refl, Nat.le_refl _⟩, fun j hj => by omega, fun _ _ => rfl, fun _ _ => rfl⟩
  · rintro n s ⟨⟨F, i1⟩, h⟩
    rw [fX11_delayed_l53, F.n, ln1208 hl, chk_nI (by omega) (by omega), nI_clamp (by omega), F.aI (by decide), hr, if_pos (nI_le (Nat.le_refl _) (by omega))]
    exact ok_some ⟨F, h.1, h.2.1⟩
  · rintro n i s hi ⟨⟨F, i1⟩, h⟩ kk
    have e1 : 12 * nI p + nI i = nI (12 * p + i) := by rw [L32 12, pk_mul, nI_add]
    have e2 : nI (12 * p + i) - 1 = nI (12 * p + i - 1) := by rw [L32 1, pk_sub (by omega)]
    rw [fX11_delayed_l53, F.n, ln1208 hl, chk_nI (by omega) (by omega), nI_clamp (by omega), F.aI (by decide), hr, if_neg (nI_ge hi (by omega)), F.n, ln1209 hl, e1, e2, chk_nI (by omega) (by omega), chk_nI (by omega) (by omega), nI_clamp (by omega), nI_clamp (by omega), bnd_eq, bnd_eq, nI_1]
    refine kk _ ⟨⟨F.wL (by decide), by omega⟩, fun j hj => ?_, fun j hj => ?_, fun j hj => ?_⟩
    · rw [mL_sL]
      by_cases e : j + 1 = i
      · rw [if_pos ⟨rfl, rfl, by omega⟩, h.2.2 i (Nat.le_refl _), e]
      · rw [if_neg (by omega)]; exact h.1 j (by omega)
    · rw [mL_sL, if_neg (by omega)]; exact h.2.1 j hj
    · rw [mL_sL, if_neg (by omega)]; exact h.2.2 j (by omega)
set_option maxHeartbeats 1000000 in
theorem s_workM {M X : tM} {N : NG} (hN : NOK N) (hl : Len X) (hG : Gr X N) (hV : Cv M X N) {p : Nat} (hp : p < nP N) (h0 : TrX X []) (h3 : mI X 11 0 76 = 0) (hw : mI X 1206 0 p = (-9) ∨ ∃ r, r ≤ 12 ∧ mI X 1206 0 p = nI r) :
    Ok (fX11_works (nI p) X) (fun w => WX X w.2 p (wk X N p) w.1) := by
  have hb := hN.1
  have c1 := (hG.2.1 p hp).1
  rw [fX11_works, ln1203 hl, chk_nI (by omega) (by omega), bnd_eq, nI_clamp (by omega), c1]
  rcases kD (hN.2.1 p hp).1 with d | d | d | d | d | d
  · rw [d, if_neg (by decide), if_pos (by decide), wk0 d]
    refine ok_call (m_fixed hN hG hV hp hl h0 (by decide)) ?_
    rintro ⟨v, M2⟩ ⟨e, F, T⟩
    exact ok_some (WX_same (F.mono (by decide)) T (by rw [F.oI (by decide)]; exact h3) e)
  · rw [d, if_neg (by decide), if_neg (by decide), if_pos (by decide), wk1 d]
    refine ok_call (m_scaled hN hG hV hp hl h0 (by decide)) ?_
    rintro ⟨v, M2⟩ ⟨e, F, T⟩
    exact ok_some (WX_same (F.mono (by decide)) T (by rw [F.oI (by decide)]; exact h3) e)
  · rw [d, if_neg (by decide), if_neg (by decide), if_neg (by decide), if_pos (by decide), wk2 d]
    refine ok_call (s_bd hl h0 (by decide)) ?_
    rintro M2 ⟨F, T⟩
    rw [F.n, ln1220 hl, chk_nI (by omega) (by omega)]
    refine ok_call (m_scaled hN (hG.fr F (by decide)) (hV.frX F (by decide)) hp (hl.fr F) T (by decide)) ?_
    rintro ⟨v, M3⟩ ⟨e, F2, T2⟩
    have e : v = mL M2 1204 0 p * wS M2 N p := e
    have e : v = mL X 1204 0 p * wS X N p := by
      rw [e]
      simp only [wS, F.aL (k := 1204) (by decide), F.aL (k := 1222) (by decide), F.aI (k := 1219) (by decide)]
    subst e
    have F3 : Fr [1227, 120028] X M3 := F.step F2 (by decide)
    show Ok (chk (inb (nI p) (mN M3 1220 0)) <| bnd (sL M3 1220 0 p (mL M2 1220 0 p + mL X 1204 0 p * wS X N p)) fun M22 => chk (inb (nI p) (mN M22 1220 0)) <| some ((mL M22 1220 0 p, M22))) _
    rw [F3.n, ln1220 hl, chk_nI (by omega) (by omega), bnd_eq, mN_sL, F3.n, ln1220 hl, chk_nI (by omega) (by omega), F.aL (by decide)]
    have F4 : Fr [1220] M3 (sL M3 1220 0 p (mL X 1220 0 p + mL X 1204 0 p * wS X N p)) := Fr.refl.wL (by decide)
    refine ok_some ⟨by simp [mL_sL], ?_, T2.fr F4 (by decide), (F3.mono (by decide)).step F4 (by decide), by simp [mL_sL], fun q hq => ?_, fun r hr' h12 j hj => ?_, fun j hj => ?_⟩
    · rw [F4.oI (by decide), F3.oI (by decide)]; exact h3
    · rw [mL_sL, if_neg (fun z => hq z.2.2), F3.aL (by decide)]
    · rw [F4.aL (by decide), F3.aL (by decide)]
    · rw [F4.aL (by decide), F3.aL (by decide)]
  · rw [d, if_neg (by decide), if_neg (by decide), if_neg (by decide), if_neg (by decide), if_pos (by decide), fX11_shared]
    refine ok_call (P := fun w => WX X w.2 p (wk X N p) w.1) ?_ (fun w h => ok_some h)
    refine ok_call (s_bd hl h0 (by decide)) ?_
    rintro M2 ⟨F, T⟩
    refine ok_call (m_scaled hN (hG.fr F (by decide)) (hV.frX F (by decide)) hp (hl.fr F) T (by decide)) ?_
    rintro ⟨v, M3⟩ ⟨e, F2, T2⟩
    have e : v = mL M2 1204 0 p * wS M2 N p := e
    have e : v = mL X 1204 0 p * wS X N p := by
      rw [e]
      simp only [wS, F.aL (k := 1204) (by decide), F.aL (k := 1222) (by decide), F.aI (k := 1219) (by decide)]
    subst e
    have F3 : Fr [1227, 120028] X M3 := F.step F2 (by decide)
    have eD : wD M3 N p = wD X N p := by
      unfold wD
      cases nx (nT N) p (nL N) 0 with
      | none => rfl
      | some l => exact F3.aL (by decide)
    have e20 := s_l20 hN (hl.fr F3) (hG.fr F3 (by decide)) (hV.frX F3 (by decide)) hp (by omega) (mL X 1204 0 p * wS X N p)
    rw [eD] at e20
    show Ok (Option.bind (fX11_shared_l20 (nI p) _ M3 FU 0 0 0) _) _
    rw [e20, Option.bind_some]
    by_cases z : lg_cmp (wD X N p) 0 = 0
    · rw [if_pos z, wk3z d z, bnd_eq]
      have F4 : Fr [120076] M3 (sI M3 11 0 76 4) := Fr.refl.wIo (by decide)
      exact ok_some (WX_same ((F3.mono (by decide)).step F4 (by decide)) (T2.fr F4 (by decide)) (by simp [mI_sI]) rfl)
    · rw [if_neg z, wk3 d z]
      have nz : nz8 (wD X N p) = true := decide_eq_true (fun q => z (by rw [q]; decide))
      rw [chk_tr nz]
      exact ok_some (WX_same (F3.mono (by decide)) T2 (by rw [F3.oI (by decide)]; exact h3) rfl)
  · rw [d, if_neg (by decide), if_neg (by decide), if_neg (by decide), if_neg (by decide), if_neg (by decide), if_pos (by decide), wk4 d]
    refine ok_call (s_bd hl h0 (by decide)) ?_
    rintro M2 ⟨F, T⟩
    refine ok_call (m_fixed hN (hG.fr F (by decide)) (hV.frX F (by decide)) hp (hl.fr F) T (by decide)) ?_
    rintro ⟨v, M3⟩ ⟨e, F2, T2⟩
    have e : v = wS M2 N p := e
    have e : v = wS X N p := by
      rw [e]
      simp only [wS, F.aL (k := 1204) (by decide), F.aL (k := 1222) (by decide), F.aI (k := 1219) (by decide)]
    subst e
    have F3 : Fr [1227, 120028] X M3 := F.step F2 (by decide)
    show Ok (chk (inb (nI p) (mN M3 1219 0)) <| some (wS X N p + (mI M3 1219 0 p).toInt64, M3)) _
    rw [F3.n, ln1219 hl, chk_nI (by omega) (by omega), F3.aI (by decide)]
    exact ok_some (WX_same (F3.mono (by decide)) T2 (by rw [F3.oI (by decide)]; exact h3) rfl)
  · rw [d, if_pos (by decide), fX11_delayed]
    refine ok_call (P := fun w => WX X w.2 p (wk X N p) w.1) ?_ (fun w h => ok_some h)
    refine ok_call (s_bd hl h0 (by decide)) ?_
    rintro M2 ⟨F, T⟩
    obtain ⟨-, -, -, -, hv, -⟩ := id hV
    have h8 := (hv p hp).2.1
    rw [F.n, ln1208 hl, chk_nI (by omega) (by omega), nI_clamp (by omega), F.aI (by decide), h8]
    rcases hw with w1 | ⟨r, w2, w3⟩
    · rw [w1, if_neg (by decide), bnd_eq, wk5n d w1]
      have F4 : Fr [120076] M2 (sI M2 11 0 76 1) := Fr.refl.wIo (by decide)
      exact ok_some (WX_same ((F.mono (by decide)).step F4 (by decide)) (T.fr F4 (by decide)) (by simp [mI_sI]) rfl)
    · rw [w3, if_pos (show (0 : Int32) ≤ nI r from nI_le (a := 0) (by omega) (by omega))]
      refine ok_call (m_fixed hN (hG.fr F (by decide)) (hV.frX F (by decide)) hp (hl.fr F) T (by decide)) ?_
      rintro ⟨v, M3⟩ ⟨e, F2, T2⟩
      have e : v = wS M2 N p := e
      have e : v = wS X N p := by
        rw [e]
        simp only [wS, F.aL (k := 1204) (by decide), F.aL (k := 1222) (by decide), F.aI (k := 1219) (by decide)]
      subst e
      have F3 : Fr [1227, 120028] X M3 := F.step F2 (by decide)
      have r3 : mI M3 1208 0 p = nI r := by rw [F3.aI (by decide), h8, w3]
      have e12 : 12 * nI p = nI (12 * p) := by rw [L32 12, pk_mul]
      have c12 : (12 * nI p).toNatClampNeg = 12 * p := by rw [e12, nI_clamp (by omega)]
      show Ok (chk (inb (nI p) (mN M3 1208 0)) (if mI M3 1208 0 p = 0 then _ else _)) _
      rw [F3.n, ln1208 hl, chk_nI (by omega) (by omega), r3]
      by_cases z : r = 0
      · subst z
        rw [if_pos (show nI 0 = (0 : Int32) from rfl), wk5z d w3]
        exact ok_some (WX_same (F3.mono (by decide)) T2 (by rw [F3.oI (by decide)]; exact h3) rfl)
      · rw [if_neg (show ¬ nI r = (0 : Int32) from fun q => z ((nI_eq (b := 0) (by omega) (by decide)).mp q)), wk5 d w3 (by omega) w2, bnd_eq, F3.n, ln1209 hl, c12, chk_tr (show inb (12 * nI p) 144 = true by rw [e12]; exact inb_nI (by omega) (by omega))]
        refine ok_call (s_l53 (hl.fr F3) (by omega) r3 (by omega) w2) ?_
        rintro M4 ⟨F4, k1, k2⟩
        have r4 : mI M4 1208 0 p = nI r := by rw [F4.aI (by decide)]; exact r3
        have e13 : nI (12 * p) + nI r - 1 = nI (12 * p + r - 1) := by rw [nI_add, L32 1, pk_sub (by omega)]
        rw [F4.n, F3.n, ln1208 hl, chk_nI (by omega) (by omega), F4.n, F3.n, ln1209 hl, r4, e12, e13, chk_nI (by omega) (by omega), bnd_eq, nI_clamp (by omega)]
        have F5 : Fr [1209] M4 (sL M4 1209 0 (12 * p + r - 1) (wS X N p)) := Fr.refl.wL (by decide)
        have F6 : Fr [1209, 1227, 120028] X (sL M4 1209 0 (12 * p + r - 1) (wS X N p)) := ((F3.mono (by decide)).step F4 (by decide)).step F5 (by decide)
        refine ok_some ⟨?_, ?_, (T2.fr F4 (by decide)).fr F5 (by decide), F6.mono (by decide), ?_, fun q hq => ?_, fun r' hr' h12 j hj => ?_, fun j hj => ?_⟩
        · exact F3.aL (by decide)
        · rw [F6.oI (by decide)]; exact h3
        · rw [F6.aL (by decide)]
        · rw [F6.aL (by decide)]
        · have er : r' = r := (nI_eq (by omega) (by omega)).mp (hr'.symm.trans w3)
          subst er
          show mL (sL M4 1209 0 (12 * p + r' - 1) (wS X N p)) 1209 0 (12 * p + j) = if j + 1 < r' then mL X 1209 0 (12 * p + (j + 1)) else wS X N p
          rw [mL_sL]
          by_cases q : j + 1 < r'
          · rw [if_neg (by omega), if_pos q, k1 j q, F3.aL (by decide)]
          · rw [if_pos ⟨rfl, rfl, by omega⟩, if_neg q]
        · rw [mL_sL, if_neg (by omega), k2 j hj, F3.aL (by decide)]
