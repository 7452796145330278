/-! a run along an order -/
def sO (N : NG) (od : Nat → Nat) : Nat → (Nat → Nat)
  | 0 => nS N
  | k + 1 => fun l => max (sO N od k l) (mk N (nS N) (cO od (k + 1)) l)
def laO (od : Nat → Nat) : Nat → (Nat → Nat)
  | 0 => fun _ => 0
  | k + 1 => fun q => if q = od k then k + 1 else laO od k q
def vr (N : NG) (R : Nat → Nat) (od : Nat → Nat) (k : Nat) : Prop := ∀ i, i < k → od i < nP N ∧ en N R (nS N) (cO od i) (od i)
theorem mk_sO {N : NG} {od : Nat → Nat} {k l : Nat} : mk N (nS N) (cO od k) l ≤ sO N od k l := by
  cases k with
  | zero => show mk N (nS N) (fun _ => 0) l ≤ nS N l; rw [mk_0]; exact Nat.le_refl _
  | succ k => exact Nat.le_max_right _ _
theorem vr_le {N : NG} {R od : Nat → Nat} {k j : Nat} (h : vr N R od k) (hj : j ≤ k) : vr N R od j := fun i hi => h i (by omega)
theorem vr_rch {N : NG} {R od : Nat → Nat} : ∀ {k : Nat}, vr N R od k → rch N R (nS N) (cO od k) := by
  intro k
  induction k with
  | zero => intro _; exact rch_0 _ _ _
  | succ k ih =>
    intro h
    exact rch_run (ps := [od k]) (ih (vr_le h (by omega))) ⟨h k (by omega), trivial⟩
theorem vr_ok {N : NG} {R od : Nat → Nat} {k : Nat} (h : vr N R od k) : cOK N R (nS N) (cO od k) := rch_ok (vr_rch h)
theorem vr_sum {N : NG} {R od : Nat → Nat} : ∀ {k : Nat}, vr N R od k → sumTo (cO od k) (nP N) = k := by
  intro k
  induction k with
  | zero => intro _; exact sumTo_zero.mpr (fun _ _ => rfl)
  | succ k ih =>
    intro h
    show sumTo (fi (cO od k) (od k)) (nP N) = k + 1
    rw [sum_up (h k (by omega)).1, ih (vr_le h (by omega))]
theorem sO_le {N : NG} {R od : Nat → Nat} (hN : NOK N) (hB : RB N R (nS N)) : ∀ {k : Nat}, vr N R od k → ∀ l, l < nL N → sO N od k l ≤ 1050000 := by
  intro k
  induction k with
  | zero => intro _ l hl; have := (hN.2.2.1 l hl).2.2; show nS N l ≤ 1050000; omega
  | succ k ih =>
    intro h l hl
    have h1 := ih (vr_le h (by omega)) l hl
    have h2 := mk_le hN hB (vr_ok h) hl
    show max (sO N od k l) (mk N (nS N) (cO od (k + 1)) l) ≤ 1050000
    omega
theorem occ {od : Nat → Nat} : ∀ {k p : Nat}, 1 ≤ cO od k p → ∃ i, i < k ∧ od i = p := by
  intro k
  induction k with
  | zero => intro p h; have : cO od 0 p = 0 := rfl; omega
  | succ k ih =>
    intro p h
    by_cases e : od k = p
    · exact ⟨k, by omega, e⟩
    · rw [ph_next, if_neg (fun q => e q.symm)] at h
      obtain ⟨i, hi, h2⟩ := ih h
      exact ⟨i, by omega, h2⟩
theorem goR_ok {N : NG} (hN : NOK N) : ∀ d s s', d ≤ nL N → RSI (nP N) s → goR N d s = .inl s' → RSI (nP N) s' := by
  intro d
  induction d with
  | zero => intro s s' _ h e; cases e; exact h
  | succ d ih =>
    intro s s' hd h e
    have e2 := goR_step (N := N) (i := nL N - (d + 1)) (s := s) (by omega)
    rw [show nL N - (nL N - (d + 1)) = d + 1 by omega, e, show nL N - (nL N - (d + 1) + 1) = d by omega] at e2
    cases hs : stepR N (nL N - (d + 1)) s with
    | inl t =>
      rw [hs] at e2
      exact ih t s' (by omega) (stepR_ok hN (by omega) h hs) e2.symm
    | inr b =>
      rw [hs] at e2
      cases b <;> cases e2
theorem rnd_pos {N : NG} {R : Nat → Nat} (hN : NOK N) (h : rndOf N = .inl R) : ∀ p, p < nP N → 1 ≤ R p := by
  unfold rndOf at h
  split at h
  · rename_i s hs
    by_cases q : cntOK N s
    · rw [if_pos q] at h
      cases h
      intro p hp
      have hr := goR_ok hN _ _ _ (Nat.le_refl _) (r0_ok _) hs
      obtain ⟨-, -, i3, i4, -⟩ := hr.1 p hp
      have hpos : ∀ q, q < nP N → 0 < rl s q := fun q hq => (hr.1 q hq).2.2.2.1
      have hd := lcmTo_dvd (s := s) (g := rg s p) (n := nP N) hp rfl
      have hl := lcmTo_pos (s := s) (g := rg s p) (n := nP N) hpos
      have hle := Nat.le_of_dvd hl hd
      have h1 : rl s p * 1 ≤ lcmTo s (rg s p) (nP N) * ru s p := Nat.mul_le_mul hle i3
      have h2 : 1 ≤ lcmTo s (rg s p) (nP N) * ru s p / rl s p := by
        rw [Nat.le_div_iff_mul_le i4]; omega
      exact Nat.mul_pos h2 (hN.2.1 p hp).2.1
    · rw [if_neg q] at h; cases h
  · cases h
theorem SC.congr {M : tM} {N : NG} {st st' la la' : Nat → Nat} {k : Nat} (h : SC M N st k la) (e : ∀ l, l < nL N → st l = st' l) (e2 : ∀ p, p < nP N → la p = la' p) : SC M N st' k la' :=
  ⟨fun l hl => by rw [← e l hl]; exact h.1 l hl, by rw [h.2.1, sumTo_congr e], h.2.2.1, fun p hp => by rw [← e2 p hp]; exact h.2.2.2 p hp⟩
theorem c_stepO {M : tM} {N : NG} {R od : Nat → Nat} {k : Nat} (hN : NOK N) (hl : Len M) (hC : Cg M M N) (hM : MC M N R (nS N) (cO od k)) (hS : SC M N (sO N od k) k (laO od k)) (hB : RB N R (nS N)) (hv : vr N R od (k + 1)) :
    Ok (fX5_step (some (od k)) M) (fun m => Fr kK M m ∧ MC m N R (nS N) (cO od (k + 1)) ∧ SC m N (sO N od (k + 1)) (k + 1) (laO od (k + 1))) := by
  have hK := vr_ok (vr_le hv (show k ≤ k + 1 by omega))
  obtain ⟨hp, he⟩ := hv k (by omega)
  refine (c_step hN hl hC hM hS hB hK hp he).mono ?_
  rintro m ⟨F, k1, k2⟩
  refine ⟨F, k1, k2.congr (fun l hl' => ?_) (fun p _ => rfl)⟩
  show st1 N (nS N) (cO od k) (sO N od k) (od k) l = max (sO N od k l) (mk N (nS N) (cO od (k + 1)) l)
  rw [st1]
  by_cases e : nF N l = od k
  · rw [if_pos e]; rfl
  · rw [if_neg e]
    have h1 := (mk_fi hK he hl').2
    have h2 : gvA N (od k) (cO od k (od k) % nH N (od k)) l = 0 := if_neg e
    have h3 := mk_sO (N := N) (od := od) (k := k) (l := l)
    have h4 : mk N (nS N) (cO od (k + 1)) l = mk N (nS N) (fi (cO od k) (od k)) l := rfl
    omega
def S46 (X : tM) (N : NG) (st : Nat → Nat) : Prop := ∀ l, l < nL N → mI X 1246 0 l = nI (st l)
theorem m_storeF {X : tM} {N : NG} {m : Nat → Nat} (hN : NOK N) (hl : Len X) (hG : Gr X N) (hm : ∀ l, l < nL N → mI X 1238 0 l = nI (m l)) : Ok (fX11_storeFirst X) (fun X' => Fr [1246] X X' ∧ S46 X' N m) := by
  have hb := hN.1
  rw [fX11_storeFirst]
  refine ok_call (P := fun X' => Fr [1246] X X' ∧ S46 X' N m) ?_ (fun _ h => ok_some h)
  refine loop0 (fun n i X' => fX11_storeFirst_l2 n i X') (nL N) (fun i X' => Fr [1246] X X' ∧ ∀ l, l < i → mI X' 1246 0 l = nI (m l)) _ (by omega) ?_ ?_ X ⟨Fr.refl, fun l hl => by omega⟩
  · rintro n X' ⟨F, h⟩
    rw [fX11_storeFirst_l2, F.oI (by decide), hG.1.2, if_pos (nI_le (Nat.le_refl _) (by omega))]
    exact ok_some ⟨F, h⟩
  · rintro n i X' hi ⟨F, h⟩ kk
    rw [fX11_storeFirst_l2, F.oI (by decide), hG.1.2, if_neg (nI_ge hi (by omega)), F.n, ln1238 hl, chk_nI (by omega) (by omega), F.n, ln1246 hl, chk_nI (by omega) (by omega), bnd_eq, bnd_eq, nI_1, nI_clamp (by omega), F.aI (by decide), hm i hi]
    refine kk _ ⟨F.wI (by decide), fun l hl' => ?_⟩
    rw [mI_sI]
    by_cases e : l = i
    · rw [if_pos ⟨rfl, rfl, e⟩, e]
    · rw [if_neg (fun z => e z.2.2)]; exact h l (by omega)
theorem m_storeM {X : tM} {N : NG} {m st : Nat → Nat} (hN : NOK N) (hl : Len X) (hG : Gr X N) (hm : ∀ l, l < nL N → mI X 1238 0 l = nI (m l)) (hs : S46 X N st) (hb2 : ∀ l, l < nL N → m l ≤ 1050000 ∧ st l ≤ 1050000) : Ok (fX11_storeMore X) (fun X' => Fr [1246] X X' ∧ S46 X' N (fun l => max (st l) (m l))) := by
  have hb := hN.1
  rw [fX11_storeMore]
  refine ok_call (P := fun X' => Fr [1246] X X' ∧ S46 X' N (fun l => max (st l) (m l))) ?_ (fun _ h => ok_some h)
  refine loop0 (fun n i X' => fX11_storeMore_l2 n i X') (nL N) (fun i X' => Fr [1246] X X' ∧ ∀ l, l < nL N → mI X' 1246 0 l = nI (if l < i then max (st l) (m l) else st l)) _ (by omega) ?_ ?_ X ⟨Fr.refl, fun l hl => by rw [if_neg (by omega)]; exact hs l hl⟩
  · rintro n X' ⟨F, h⟩
    rw [fX11_storeMore_l2, F.oI (by decide), hG.1.2, if_pos (nI_le (Nat.le_refl _) (by omega))]
    exact ok_some ⟨F, fun l hl => by rw [h l hl, if_pos hl]⟩
  · rintro n i X' hi ⟨F, h⟩ kk
    have hi' := h i hi
    rw [if_neg (Nat.lt_irrefl _)] at hi'
    obtain ⟨b1, b2⟩ := hb2 i hi
    rw [fX11_storeMore_l2, F.oI (by decide), hG.1.2, if_neg (nI_ge hi (by omega)), F.n, ln1238 hl, chk_nI (by omega) (by omega), F.n, ln1246 hl, chk_nI (by omega) (by omega), nI_clamp (by omega), F.aI (by decide), hm i hi, hi']
    refine ok_call (P := fun x => x = nI (max (st i) (m i))) ?_ ?_
    · by_cases c : m i ≤ st i
      · rw [if_pos (nI_le c (by omega)), chk_nI (by omega) (by omega)]
        exact ok_some (by rw [show max (st i) (m i) = st i by omega])
      · rw [if_neg (nI_ge (by omega) (by omega)), chk_nI (by omega) (by omega)]
        exact ok_some (by rw [show max (st i) (m i) = m i by omega])
    · rintro _ rfl
      rw [chk_nI (by omega) (by omega), bnd_eq, bnd_eq, nI_1]
      refine kk _ ⟨F.wI (by decide), fun l hl' => ?_⟩
      rw [mI_sI]
      by_cases e : l = i
      · rw [if_pos ⟨rfl, rfl, e⟩, if_pos (by omega), e]
      · rw [if_neg (fun z => e z.2.2), h l hl']
        by_cases q : l < i
        · rw [if_pos q, if_pos (by omega)]
        · rw [if_neg q, if_neg (by omega)]
theorem m_stored {X : tM} {N : NG} {st : Nat → Nat} (hN : NOK N) (hl : Len X) (hG : Gr X N) (hs : S46 X N st) : fX11_stored X = some (nI (sumTo st (nL N))) := by
  have hb := hN.1
  have key : Ok (fX11_stored_l4 X FU 0 0) (fun w => w = nI (sumTo st (nL N))) := by
    refine loop0 (fun n i s => fX11_stored_l4 X n s i) (nL N) (fun i s => s = nI (sumTo st i)) _ (by omega) ?_ ?_ 0 rfl
    · intro n s h
      rw [fX11_stored_l4, hG.1.2, if_pos (nI_le (Nat.le_refl _) (by omega))]
      exact ok_some h
    · intro n i s hi h kk
      rw [fX11_stored_l4, hG.1.2, if_neg (nI_ge hi (by omega)), ln1246 hl, chk_nI (by omega) (by omega), bnd_eq, bnd_eq, nI_1, nI_clamp (by omega), hs i hi]
      refine kk _ ?_
      rw [h, nI_add, sumTo]
  obtain ⟨w, e, rfl⟩ := key
  rw [fX11_stored, e, Option.bind_some]
theorem m_settle {X : tM} {N : NG} {st od : Nat → Nat} {z : Nat} (hN : NOK N) (hl : Len X) (hG : Gr X N) (hs : S46 X N st) (hz : z ≤ 2000) (ho : ∀ i, i < z → mI X 1245 0 i = nI (od i)) :
    Ok (fX11_settle (nI z) X) (fun w => Fr [1230, 1242, 1244, 120043] X w.2 ∧ w.1 = nI (sumTo st (nL N)) ∧ mI w.2 11 0 43 = nI z ∧ (∀ i, i < z → mI w.2 1242 0 i = nI (od i)) ∧ (∀ l, l < nL N → mI w.2 1244 0 l = nI (st l)) ∧ ∀ t, t < 4 → mI w.2 1230 0 t = 0) := by
  have hb := hN.1
  rw [fX11_settle, bnd_eq]
  have F0 : Fr [120043] X (sI X 11 0 43 (nI z)) := Fr.refl.wIo (by decide)
  have v0 : mI (sI X 11 0 43 (nI z)) 11 0 43 = nI z := by rw [mI_sI, if_pos ⟨rfl, rfl, rfl⟩]
  generalize sI X 11 0 43 (nI z) = X0 at *
  have key1 : Ok (fX11_settle_l7 (nI z) FU 0 X0) (fun m => Fr [1242] X0 m ∧ ∀ i, i < z → mI m 1242 0 i = nI (od i)) := by
    refine loop0 (fun n i m => fX11_settle_l7 (nI z) n i m) z (fun i m => Fr [1242] X0 m ∧ ∀ j, j < i → mI m 1242 0 j = nI (od j)) _ (by omega) ?_ ?_ X0 ⟨Fr.refl, fun j hj => by omega⟩
    · rintro n m ⟨F, h⟩
      rw [fX11_settle_l7, if_pos (nI_le (Nat.le_refl _) (by omega))]
      exact ok_some ⟨F, h⟩
    · rintro n i m hi ⟨F, h⟩ kk
      rw [fX11_settle_l7, if_neg (nI_ge hi (by omega)), F.n, F0.n, ln1245 hl, chk_nI (by omega) (by omega), F.n, F0.n, ln1242 hl, chk_nI (by omega) (by omega), bnd_eq, bnd_eq, nI_1, nI_clamp (by omega), F.aI (by decide), F0.aI (by decide), ho i hi]
      refine kk _ ⟨F.wI (by decide), fun j hj => ?_⟩
      rw [mI_sI]
      by_cases e : j = i
      · rw [if_pos ⟨rfl, rfl, e⟩, e]
      · rw [if_neg (fun y => e y.2.2)]; exact h j (by omega)
  refine ok_call key1 ?_
  rintro X1 ⟨F1, k1⟩
  have G1 : Fr [1242, 120043] X X1 := (F0.mono (by decide)).step F1 (by decide)
  have key2 : Ok (fX11_settle_l32 FU 0 X1) (fun m => Fr [1244] X1 m ∧ ∀ l, l < nL N → mI m 1244 0 l = nI (st l)) := by
    refine loop0 (fun n i m => fX11_settle_l32 n i m) (nL N) (fun i m => Fr [1244] X1 m ∧ ∀ j, j < i → mI m 1244 0 j = nI (st j)) _ (by omega) ?_ ?_ X1 ⟨Fr.refl, fun j hj => by omega⟩
    · rintro n m ⟨F, h⟩
      rw [fX11_settle_l32, F.oI (by decide), G1.oI (by decide), hG.1.2, if_pos (nI_le (Nat.le_refl _) (by omega))]
      exact ok_some ⟨F, h⟩
    · rintro n i m hi ⟨F, h⟩ kk
      rw [fX11_settle_l32, F.oI (by decide), G1.oI (by decide), hG.1.2, if_neg (nI_ge hi (by omega)), F.n, G1.n, ln1246 hl, chk_nI (by omega) (by omega), F.n, G1.n, ln1244 hl, chk_nI (by omega) (by omega), bnd_eq, bnd_eq, nI_1, nI_clamp (by omega), F.aI (by decide), G1.aI (by decide), hs i hi]
      refine kk _ ⟨F.wI (by decide), fun j hj => ?_⟩
      rw [mI_sI]
      by_cases e : j = i
      · rw [if_pos ⟨rfl, rfl, e⟩, e]
      · rw [if_neg (fun y => e y.2.2)]; exact h j (by omega)
  refine ok_call key2 ?_
  rintro X2 ⟨F2, k2⟩
  have G2 : Fr [1242, 1244, 120043] X X2 := (G1.mono (by decide)).step F2 (by decide)
  refine ok_call (sX11_threadsBegin (hl.fr G2)) ?_
  rintro X3 ⟨k3, F3⟩
  have G3 : Fr [1230, 1242, 1244, 120043] X X3 := (G2.mono (by decide)).step F3 (by decide)
  rw [m_stored hN (hl.fr G3) (hG.fr G3 (by decide)) (fun l hl' => (G3.aI (by decide)).trans (hs l hl')), Option.bind_some]
  refine ok_some ⟨G3, rfl, ?_, fun i hi => ?_, fun l hl' => ?_, k3⟩
  · exact (F3.oI (by decide)).trans ((F2.oI (by decide)).trans ((F1.oI (by decide)).trans v0))
  · exact (F3.aI (by decide)).trans ((F2.aI (by decide)).trans (k1 i hi))
  · exact (F3.aI (by decide)).trans (k2 l hl')
theorem c_settle {M : tM} {N : NG} {st la : Nat → Nat} {z k : Nat} (hN : NOK N) (hl : Len M) (hS : SC M N st k la) (hz : z ≤ 2000) :
    Ok (fX8_settle (nI z) M) (fun w => Fr [904, 905, 90003] M w.2 ∧ w.1 = nI (sumTo st (nL N)) ∧ mI w.2 8 0 3 = nI z ∧ (∀ l, l < nL N → mI w.2 904 0 l = nI (st l)) ∧ ∀ t, t < 4 → mI w.2 905 0 t = 0) := by
  have hb := hN.1
  rw [fX8_settle, ln902 hl, min_l hz (by omega), Option.bind_some, bnd_eq]
  have F0 : Fr [90003] M (sI M 8 0 3 (nI z)) := Fr.refl.wIo (by decide)
  have v0 : mI (sI M 8 0 3 (nI z)) 8 0 3 = nI z := by rw [mI_sI, if_pos ⟨rfl, rfl, rfl⟩]
  generalize sI M 8 0 3 (nI z) = M0 at *
  rw [F0.n, F0.n, ln904 hl, ln602 hl, chk_tr (cpok_0 (n := 20) (by omega) (by omega) (by omega)), bnd_eq, nI_clamp (by omega), cl0]
  have F1 : Fr [904] M0 (cI M0 904 0 (va_cpy (mI M0 602 0) (mI M0 904 0) 0 0 20)) := Fr.refl.vI (by decide)
  have v1 : ∀ l, l < nL N → mI (cI M0 904 0 (va_cpy (mI M0 602 0) (mI M0 904 0) 0 0 20)) 904 0 l = nI (st l) := fun l hl' => by
    rw [mI_cI, if_pos ⟨rfl, rfl⟩, cpy0 (by omega), F0.aI (by decide)]; exact (hS.1 l hl').1
  generalize cI M0 904 0 (va_cpy (mI M0 602 0) (mI M0 904 0) 0 0 20) = M1 at *
  have G1 : Fr [904, 90003] M M1 := (F0.mono (by decide)).step F1 (by decide)
  rw [fX8_beginThreads]
  refine ok_call (P := fun m => Fr [905] M1 m ∧ ∀ j, j < 4 → mI m 905 0 j = 0) ?_ ?_
  · refine ok_call (s_fill (k := 905) (i := 0) (n := 4) (v := 0) (by decide) (by decide) (by decide) ((G1.n _ _).trans (ln905 hl)) (by decide)) ?_
    rintro m ⟨F, h, -⟩
    exact ok_some ⟨F, h⟩
  · rintro M2 ⟨F2, h⟩
    have G2 : Fr [904, 905, 90003] M M2 := (G1.mono (by decide)).step F2 (by decide)
    refine ok_some ⟨G2, ?_, ?_, fun l hl' => ?_, h⟩
    · exact (G2.oI (by decide)).trans hS.2.1
    · exact (F2.oI (by decide)).trans ((F1.oI (by decide)).trans v0)
    · exact (F2.aI (by decide)).trans (v1 l hl')
theorem Cs_new {M : tM} {N : NG} {st od : Nat → Nat} {z : Nat} (hz1 : 1 ≤ z) (hz : z ≤ 2000) (h43 : mI M 11 0 43 = nI z) (h83 : mI M 8 0 3 = nI z) (ho : ∀ i, i < z → od i < nP N ∧ mI M 1242 0 i = nI (od i) ∧ mI M 902 0 i = nI (od i)) (hp : ∀ p, p < nP N → ∃ i, i < z ∧ od i = p) (hs : ∀ l, l < nL N → mI M 904 0 l = nI (st l) ∧ mI M 1244 0 l = nI (st l)) (ht : ∀ t, t < 4 → mI M 905 0 t = 0 ∧ mI M 1230 0 t = 0) : Cs M M N := by
  refine Or.inr ⟨z, hz1, hz, h43, h83, fun i hi => ⟨od i, ho i hi⟩, fun p hp' => ?_, fun l hl => by rw [(hs l hl).1, (hs l hl).2], fun t htt => ⟨0, Nat.zero_le _, (ht t htt).1, by rw [(ht t htt).2, Nat.zero_mod]; rfl⟩⟩
  obtain ⟨i, hi, e⟩ := hp p hp'
  exact ⟨i, hi, by rw [(ho i hi).2.1, e]⟩
theorem all_R {N : NG} {R od : Nat → Nat} (hN : NOK N) (hr : rndOf N = .inl R) {z : Nat} (hv : vr N R od z) (h : ∀ p, p < nP N → ¬ cO od z p < R p) : z = sumTo R (nP N) ∧ ∀ p, p < nP N → ∃ i, i < z ∧ od i = p := by
  have hK := vr_ok hv
  have e : ∀ p, p < nP N → cO od z p = R p := fun p hp => by have := h p hp; have := hK.1 p hp; omega
  refine ⟨?_, fun p hp => occ (by rw [e p hp]; exact rnd_pos hN hr p hp)⟩
  rw [← vr_sum hv]
  exact sumTo_congr e
theorem sumR_pos {N : NG} {R : Nat → Nat} (hN : NOK N) (hr : rndOf N = .inl R) (p0 : 0 < nP N) : 1 ≤ sumTo R (nP N) := Nat.le_trans (rnd_pos hN hr 0 p0) (sumTo_ge p0)
