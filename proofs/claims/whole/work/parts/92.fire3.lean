/-! fire: the work, by kind -/
theorem nx_some {f : Nat → Nat} {p L x : Nat} : ∀ d i, d = L - i → nx f p L i = some x → x < L ∧ f x = p := by
  intro d
  induction d with
  | zero => intro i hd h; rw [nx_end (by omega)] at h; cases h
  | succ d ih =>
    intro i hd h
    by_cases e : f i = p
    · rw [nx_hit (by omega) e] at h; cases h; exact ⟨by omega, e⟩
    · rw [nx_miss (by omega) e] at h; exact ih (i + 1) (by omega) h
def wDf (X : tM) : Option Nat → Int64
  | none => 0
  | some l => mL X 1222 0 (450 * l)
def wD (X : tM) (N : NG) (p : Nat) : Int64 := wDf X (nx (nT N) p (nL N) 0)
def tU : Type := Int32 × Int64 × List Int32 × Int64 × (Nat → Int64)
def wk (X : tM) (N : NG) (p : Nat) : tU :=
  if nD N p = 0 then (0, wS X N p, [1], mL X 1220 0 p, fun j => mL X 1209 0 (12 * p + j))
  else if nD N p = 1 then (0, mL X 1204 0 p * wS X N p, [2, 1], mL X 1220 0 p, fun j => mL X 1209 0 (12 * p + j))
  else if nD N p = 2 then (0, mL X 1220 0 p + mL X 1204 0 p * wS X N p, [3, 2, 1], mL X 1220 0 p + mL X 1204 0 p * wS X N p, fun j => mL X 1209 0 (12 * p + j))
  else if nD N p = 3 then (if lg_cmp (wD X N p) 0 = 0 then (4, 0, [4, 2, 1], mL X 1220 0 p, fun j => mL X 1209 0 (12 * p + j)) else (0, mL X 1204 0 p * wS X N p / wD X N p, [4, 2, 1], mL X 1220 0 p, fun j => mL X 1209 0 (12 * p + j)))
  else if nD N p = 4 then (0, wS X N p + (mI X 1219 0 p).toInt64, [5, 1], mL X 1220 0 p, fun j => mL X 1209 0 (12 * p + j))
  else if mI X 1206 0 p = (-9) then (1, 0, [6], mL X 1220 0 p, fun j => mL X 1209 0 (12 * p + j))
  else if mI X 1206 0 p = 0 then (0, wS X N p, [6, 1], mL X 1220 0 p, fun j => mL X 1209 0 (12 * p + j))
  else (0, mL X 1209 0 (12 * p), [6, 1], mL X 1220 0 p, fun j => if j + 1 < (mI X 1206 0 p).toNatClampNeg then mL X 1209 0 (12 * p + (j + 1)) else wS X N p)
section WK
variable {X : tM} {N : NG} {p : Nat}
theorem wk0 (d : nD N p = 0) : wk X N p = (0, wS X N p, [1], mL X 1220 0 p, fun j => mL X 1209 0 (12 * p + j)) := if_pos d
theorem wk1 (d : nD N p = 1) : wk X N p = (0, mL X 1204 0 p * wS X N p, [2, 1], mL X 1220 0 p, fun j => mL X 1209 0 (12 * p + j)) := (if_neg (by omega)).trans (if_pos d)
theorem wk2 (d : nD N p = 2) : wk X N p = (0, mL X 1220 0 p + mL X 1204 0 p * wS X N p, [3, 2, 1], mL X 1220 0 p + mL X 1204 0 p * wS X N p, fun j => mL X 1209 0 (12 * p + j)) := (if_neg (by omega)).trans ((if_neg (by omega)).trans (if_pos d))
theorem wk3z (d : nD N p = 3) (z : lg_cmp (wD X N p) 0 = 0) : wk X N p = (4, 0, [4, 2, 1], mL X 1220 0 p, fun j => mL X 1209 0 (12 * p + j)) := (if_neg (by omega)).trans ((if_neg (by omega)).trans ((if_neg (by omega)).trans ((if_pos d).trans (if_pos z))))
theorem wk3 (d : nD N p = 3) (z : ¬ lg_cmp (wD X N p) 0 = 0) : wk X N p = (0, mL X 1204 0 p * wS X N p / wD X N p, [4, 2, 1], mL X 1220 0 p, fun j => mL X 1209 0 (12 * p + j)) := (if_neg (by omega)).trans ((if_neg (by omega)).trans ((if_neg (by omega)).trans ((if_pos d).trans (if_neg z))))
theorem wk4 (d : nD N p = 4) : wk X N p = (0, wS X N p + (mI X 1219 0 p).toInt64, [5, 1], mL X 1220 0 p, fun j => mL X 1209 0 (12 * p + j)) := (if_neg (by omega)).trans ((if_neg (by omega)).trans ((if_neg (by omega)).trans ((if_neg (by omega)).trans (if_pos d))))
theorem wk5n (d : nD N p = 5) (r : mI X 1206 0 p = (-9)) : wk X N p = (1, 0, [6], mL X 1220 0 p, fun j => mL X 1209 0 (12 * p + j)) := (if_neg (by omega)).trans ((if_neg (by omega)).trans ((if_neg (by omega)).trans ((if_neg (by omega)).trans ((if_neg (by omega)).trans (if_pos r)))))
theorem wk5z (d : nD N p = 5) (r : mI X 1206 0 p = 0) : wk X N p = (0, wS X N p, [6, 1], mL X 1220 0 p, fun j => mL X 1209 0 (12 * p + j)) := (if_neg (by omega)).trans ((if_neg (by omega)).trans ((if_neg (by omega)).trans ((if_neg (by omega)).trans ((if_neg (by omega)).trans ((if_neg (by rw [r]; decide)).trans (if_pos r))))))
theorem wk5 (d : nD N p = 5) {r : Nat} (hr : mI X 1206 0 p = nI r) (h1 : 1 ≤ r) (h12 : r ≤ 12) : wk X N p = (0, mL X 1209 0 (12 * p), [6, 1], mL X 1220 0 p, fun j => if j + 1 < r then mL X 1209 0 (12 * p + (j + 1)) else wS X N p) := by
  have e1 : ¬ mI X 1206 0 p = (-9) := by
    rw [hr]; intro e
    have := congrArg Int32.toInt e
    rw [nI_toInt (by omega)] at this
    rw [show (-9 : Int32).toInt = -9 by decide] at this
    omega
  have e2 : ¬ mI X 1206 0 p = 0 := by
    rw [hr]; intro e
    have := (nI_eq (b := 0) (by omega) (by decide)).mp e
    omega
  refine (if_neg (by omega)).trans ((if_neg (by omega)).trans ((if_neg (by omega)).trans ((if_neg (by omega)).trans ((if_neg (by omega)).trans ((if_neg e1).trans ((if_neg e2).trans ?_))))))
  rw [hr, nI_clamp (by omega)]
end WK
def WC (M M' X : tM) (p : Nat) (u : tU) (v : Int64) : Prop := v = u.2.1 ∧ mI M' 9 0 3 = u.1 ∧ TrC M' u.2.2.1 ∧ Fr [810, 1005, 80008, 100003, 100006] M M' ∧ mL M' 7 p 8 = u.2.2.2.1 ∧ (∀ q, ¬ q = p → mL M' 7 q 8 = mL M 7 q 8) ∧ (∀ r, mI X 1206 0 p = nI r → r ≤ 12 → ∀ j, j < r → mL M' 810 p j = u.2.2.2.2 j) ∧ ∀ q, ¬ q = p → ∀ j, mL M' 810 q j = mL M 810 q j
theorem WC_same {M M' X : tM} {N : NG} {p : Nat} (hV : Cv M X N) (hp : p < nP N) {f : Int32} {x v : Int64} {ts : List Int32} (F : Fr [1005, 100003, 100006] M M') (T : TrC M' ts) (h3 : mI M' 9 0 3 = f) (hv : v = x) : WC M M' X p (f, x, ts, mL X 1220 0 p, fun j => mL X 1209 0 (12 * p + j)) v := by
  obtain ⟨-, -, -, -, h, -⟩ := hV
  obtain ⟨-, -, -, h8, -, h9⟩ := h p hp
  refine ⟨hv, h3, T, F.mono (by decide), ?_, fun q _ => by rw [F.oL (by decide)], fun r hr h12 j hj => ?_, fun q _ j => by rw [F.aL (by decide)]⟩
  · rw [F.oL (by decide)]; exact h8
  · rw [F.aL (by decide)]; exact h9 r hr h12 j hj
theorem kD {d : Nat} (h : d ≤ 5) : d = 0 ∨ d = 1 ∨ d = 2 ∨ d = 3 ∨ d = 4 ∨ d = 5 := by omega
set_option maxHeartbeats 1000000 in
theorem s_workC {M X : tM} {N : NG} (hN : NOK N) (hl : Len M) (hC : Cg M X N) (hV : Cv M X N) {p : Nat} (hp : p < nP N) (hr : rdy X N p) (h0 : TrC M []) (h3 : mI M 9 0 3 = 0) (h4 : mL M 9 0 4 = totS (nT N) p (fun l => nK N l (mI X 1219 0 p).toNatClampNeg) (fun l i => mL X 1222 0 (450 * l + i)) (nL N)) :
    Ok (fX9_workOf (some p) M) (fun w => WC M w.2 X p (wk X N p) w.1) := by
  have hb := hN.1
  obtain ⟨-, -, c1, c2, -⟩ := (hC.2.1 p hp).1
  have eS : mL M 9 0 4 + mL M 7 p 2 = wS X N p := by rw [h4, c2]; rfl
  rw [fX9_workOf, Option.bind_some, bnd_eq, c1]
  rcases kD (hN.2.1 p hp).1 with d | d | d | d | d | d
  · rw [d, if_pos (by decide), wk0 d]
    refine ok_call (c_fixed (p := p) hl h0 (by decide)) ?_
    rintro ⟨v, M2⟩ ⟨e, F, T⟩
    exact ok_some (WC_same hV hp (F.mono (by decide)) T (by rw [F.oI (by decide)]; exact h3) (Eq.trans e eS))
  · rw [d, if_neg (by decide), if_pos (by decide), wk1 d]
    refine ok_call (c_scaled (p := p) hl h0 (by decide)) ?_
    rintro ⟨v, M2⟩ ⟨e, F, T⟩
    exact ok_some (WC_same hV hp (F.mono (by decide)) T (by rw [F.oI (by decide)]; exact h3) (Eq.trans e (by rw [eS, c2])))
  · rw [d, if_neg (by decide), if_neg (by decide), if_pos (by decide), wk2 d, fX9_keeperBody]
    obtain ⟨-, -, -, -, hv, -⟩ := id hV
    obtain ⟨-, -, -, h8, -, h9⟩ := hv p hp
    have key : Ok ((fX9_writeTrace 3 M).bind fun M2 => Option.bind (some p) fun i3 => (fX9_scaledBody (some i3) M2).bind fun (x4, M6) => bnd (sL M6 7 i3 8 ((mL M2 7 i3 8) + x4)) fun M7 => some ((mL M7 7 i3 8, M7))) (fun w => WC M w.2 X p (0, mL X 1220 0 p + mL X 1204 0 p * wS X N p, [3, 2, 1], mL X 1220 0 p + mL X 1204 0 p * wS X N p, fun j => mL X 1209 0 (12 * p + j)) w.1) := by
      refine ok_call (s_wt hl h0 (by decide)) ?_
      rintro M2 ⟨F, T⟩
      rw [Option.bind_some]
      refine ok_call (c_scaled (p := p) (hl.fr F) T (by decide)) ?_
      rintro ⟨v, M3⟩ ⟨e, F2, T2⟩
      have e : v = mL M2 7 p 2 * (mL M2 9 0 4 + mL M2 7 p 2) := e
      rw [F.oL (by decide), F.oL (by decide), eS, c2] at e
      subst e
      have F3 : Fr [1005, 100006] M M3 := F.step F2 (by decide)
      show Ok (bnd (sL M3 7 p 8 (mL M2 7 p 8 + _)) fun M7 => some ((mL M7 7 p 8, M7))) _
      rw [bnd_eq, F.oL (k := 7) (j := 8) (by decide), h8]
      have F4 : Fr [80008] M3 (sL M3 7 p 8 (mL X 1220 0 p + mL X 1204 0 p * wS X N p)) := Fr.refl.wLo (by decide)
      refine ok_some ⟨by simp [mL_sL], ?_, T2.fr F4 (by decide), (F3.mono (by decide)).step F4 (by decide), by simp [mL_sL], fun q hq => ?_, fun r hr' h12 j hj => ?_, fun q hq j => ?_⟩
      · rw [F4.oI (by decide), F3.oI (by decide)]; exact h3
      · rw [mL_sL, if_neg (fun z => hq z.2.1), F3.oL (by decide)]
      · rw [F4.aL (by decide), F3.aL (by decide)]; exact h9 r hr' h12 j hj
      · rw [F4.aL (by decide), F3.aL (by decide)]
    refine ok_call key ?_
    rintro ⟨v, M2⟩ h
    exact ok_some h
  · rw [d, if_neg (by decide), if_neg (by decide), if_neg (by decide), if_pos (by decide), fX9_shareBody]
    refine ok_call (P := fun w => WC M w.2 X p (wk X N p) w.1) ?_ (fun w h => ok_some h)
    refine ok_call (s_wt hl h0 (by decide)) ?_
    rintro M2 ⟨F, T⟩
    refine ok_call (c_scaled (p := p) (hl.fr F) T (by decide)) ?_
    rintro ⟨v, M3⟩ ⟨e, F2, T2⟩
    have e : v = mL M2 7 p 2 * (mL M2 9 0 4 + mL M2 7 p 2) := e
    rw [F.oL (by decide), F.oL (by decide), eS, c2] at e
    subst e
    have F3 : Fr [1005, 100006] M M3 := F.step F2 (by decide)
    have hd : (if mR M3 7 p 11 = none then some (0 : Int64) else bnd (mR M3 7 p 11) fun r9 => Option.bind r9 fun i10 => (fX4_thingAt i10 0 M3).bind fun x11 => some x11) = some (wD X N p) := by
      rw [F3.oR (by decide), (hC.2.1 p hp).1.2.2.2.2.2.1, wD]
      cases q : nx (nT N) p (nL N) 0 with
      | none => rw [if_pos rfl]; rfl
      | some l =>
        obtain ⟨l1, l2⟩ := nx_some _ 0 rfl q
        obtain ⟨a, ha, ha4, a1, a2, a3⟩ := hV.ph hN hp
        have hk1 := (hN.2.2.2 l a l1 ha4).2.2.2 (by rw [l2]; omega)
        have hk := hr l l1 l2
        obtain ⟨f, -, -, -, -, hv⟩ := id hV
        obtain ⟨o, h8, g, ho, hh, -, e1, e2, e3, e4, -⟩ := hv l l1
        rw [a3, e1, nI_clamp (by omega)] at hk
        rw [if_neg (by simp), bnd_eq, Option.bind_some, show fX4_thingAt l 0 M3 = _ from cThing (i := 0) ho hh (by rw [F3.oI (by decide)]; exact e2) (by rw [F3.oI (by decide)]; exact e3) (by rw [F3.n]; exact (hC.2.2.1 l l1).2.2.2.2.1) (by omega), F3.aL (by decide), e4 0 (by omega)]
        rfl
    show Ok (Option.bind (some p) fun i6 => bnd (mR M3 7 i6 11) fun r7 => Option.bind (α := Int64) _ _) _
    rw [Option.bind_some, bnd_eq, hd, Option.bind_some]
    by_cases z : lg_cmp (wD X N p) 0 = 0
    · rw [if_pos z, wk3z d z, bnd_eq]
      have F4 : Fr [100003] M3 (sI M3 9 0 3 4) := Fr.refl.wIo (by decide)
      exact ok_some (WC_same hV hp ((F3.mono (by decide)).step F4 (by decide)) (T2.fr F4 (by decide)) (by simp [mI_sI]) rfl)
    · rw [if_neg z, wk3 d z]
      have nz : nz8 (wD X N p) = true := decide_eq_true (fun q => z (by rw [q]; decide))
      rw [chk_tr nz]
      exact ok_some (WC_same hV hp (F3.mono (by decide)) T2 (by rw [F3.oI (by decide)]; exact h3) rfl)
  · rw [d, if_neg (by decide), if_neg (by decide), if_neg (by decide), if_neg (by decide), if_pos (by decide), wk4 d, fX9_phasedBody]
    refine ok_call (P := fun w => WC M w.2 X p _ w.1) ?_ (fun w h => ok_some h)
    refine ok_call (s_wt hl h0 (by decide)) ?_
    rintro M2 ⟨F, T⟩
    refine ok_call (c_fixed (p := p) (hl.fr F) T (by decide)) ?_
    rintro ⟨v, M3⟩ ⟨e, F2, T2⟩
    have e : v = mL M2 9 0 4 + mL M2 7 p 2 := e
    rw [F.oL (by decide), F.oL (by decide), eS] at e
    subst e
    have F3 : Fr [1005, 100006] M M3 := F.step F2 (by decide)
    obtain ⟨a, ha, ha4, a1, a2, a3⟩ := hV.ph hN hp
    refine ok_some (WC_same hV hp (F3.mono (by decide)) T2 (by rw [F3.oI (by decide)]; exact h3) ?_)
    show wS X N p + (mI M3 7 p 7).toInt64 = _
    rw [F3.oI (by decide), a2, a1]
  · rw [d, if_neg (by decide), if_neg (by decide), if_neg (by decide), if_neg (by decide), if_neg (by decide), if_pos (by decide), fX9_delayBody]
    refine ok_call (P := fun w => WC M w.2 X p (wk X N p) w.1) ?_ (fun w h => ok_some h)
    refine ok_call (s_wt hl h0 (by decide)) ?_
    rintro M2 ⟨F, T⟩
    obtain ⟨-, -, -, -, hv, -⟩ := id hV
    obtain ⟨-, -, -, h8, h10, h9⟩ := hv p hp
    have q10 : mR M2 7 p 10 = mR M 7 p 9 := by rw [F.oR (by decide)]; exact h10
    rw [Option.bind_some, bnd_eq, q10]
    rcases (hC.2.1 p hp).2 with ⟨w1, w2⟩ | ⟨r, w1, w2, w3, w4, w5, w6, w7⟩
    · rw [w2, if_pos rfl, bnd_eq, wk5n d w1]
      have F4 : Fr [100003] M2 (sI M2 9 0 3 1) := Fr.refl.wIo (by decide)
      exact ok_some (WC_same hV hp ((F.mono (by decide)).step F4 (by decide)) (T.fr F4 (by decide)) (by simp [mI_sI]) rfl)
    · rw [w4, if_neg (by simp)]
      refine ok_call (c_fixed (p := p) (hl.fr F) T (by decide)) ?_
      rintro ⟨v, M3⟩ ⟨e, F2, T2⟩
      have e : v = mL M2 9 0 4 + mL M2 7 p 2 := e
      rw [F.oL (by decide), F.oL (by decide), eS] at e
      subst e
      have F3 : Fr [1005, 100006] M M3 := F.step F2 (by decide)
      have r10 : mR M3 7 p 10 = some p := by rw [F3.oR (by decide), h10, w4]
      have n10 : mN M3 810 p = r := by rw [F3.n]; exact w6
      show Ok (bnd (mR M3 7 p 10) fun r9 => Option.bind r9 fun i10 => _) _
      rw [bnd_eq, r10, Option.bind_some, n10]
      by_cases z : r = 0
      · subst z
        rw [if_pos (show nI 0 = (0 : Int32) from rfl), wk5z d w3]
        exact ok_some (WC_same hV hp (F3.mono (by decide)) T2 (by rw [F3.oI (by decide)]; exact h3) rfl)
      · rw [if_neg (show ¬ nI r = (0 : Int32) from fun q => z ((nI_eq (b := 0) (by omega) (by decide)).mp q)), wk5 d w3 (by omega) w2]
        have ex : nI r - 1 = nI (r - 1) := by rw [L32 1, pk_sub (by omega)]
        simp only [bnd_eq, Option.bind_some, n10, ex]
        rw [chk_tr (show inb 0 r = true from inb_nI (n := 0) (by omega) (by omega)), chk_tr (show cpok 1 0 (nI (r - 1)) r r = true from cpok_of' (i := 1) (j := 0) (n := r - 1) (by omega) (by omega) w2 w2)]
        rw [mR_cL, r10, Option.bind_some, show mN (cL M3 810 p _) 810 p = mN M3 810 p from rfl, n10, chk_nI (by omega) (by omega), nI_clamp (by omega)]
        have cz0 : (0 : Int32).toNatClampNeg = 0 := by decide
        have cz1 : (1 : Int32).toNatClampNeg = 1 := by decide
        rw [cz0, cz1]
        have row : ∀ j, j < r → mL M3 810 p j = mL X 1209 0 (12 * p + j) := fun j hj => by rw [F3.aL (by decide)]; exact h9 r w3 w2 j hj
        have F4 : Fr [810] M3 (sL (cL M3 810 p (va_cpy (mL M3 810 p) (mL M3 810 p) 1 0 (r - 1))) 810 p (r - 1) (wS X N p)) := (Fr.refl.vL (by decide)).wL (by decide)
        refine ok_some ⟨?_, ?_, T2.fr F4 (by decide), (F3.mono (by decide)).step F4 (by decide), ?_, fun q hq => ?_, fun r' hr' h12 j hj => ?_, fun q hq j => ?_⟩
        · exact row 0 (by omega)
        · rw [F4.oI (by decide), F3.oI (by decide)]; exact h3
        · rw [F4.oL (by decide), F3.oL (by decide)]; exact h8
        · rw [F4.oL (by decide), F3.oL (by decide)]
        · have er : r' = r := (nI_eq (by omega) (by omega)).mp (hr'.symm.trans w3)
          subst er
          show mL (sL (cL M3 810 p _) 810 p (r' - 1) (wS X N p)) 810 p j = if j + 1 < r' then mL X 1209 0 (12 * p + (j + 1)) else wS X N p
          rw [mL_sL]
          by_cases q : j + 1 < r'
          · rw [if_neg (by omega), if_pos q, mL_cL, if_pos ⟨rfl, rfl⟩, pk_cpy_in (by omega) (by omega), row _ (by omega)]
            congr 1
            omega
          · rw [if_pos ⟨rfl, rfl, by omega⟩, if_neg q]
        · rw [mL_sL, if_neg (fun z => hq z.2.1), mL_cL, if_neg (fun z => hq z.2), F3.aL (by decide)]
