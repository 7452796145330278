/-! beat, the call -/
noncomputable def tmv (R tm : Nat → Nat) (P v : Nat) : Nat := @dite _ (∃ p, ∃ j, p < P ∧ j < R p ∧ v = bs R p + j) (Classical.propDecidable _) (fun h => tm (Classical.choose h)) (fun _ => 0)
theorem tmv_eq {R tm : Nat → Nat} {P p j : Nat} (hp : p < P) (hj : j < R p) : tmv R tm P (bs R p + j) = tm p := by
  have h : ∃ p', ∃ j', p' < P ∧ j' < R p' ∧ bs R p + j = bs R p' + j' := ⟨p, j, hp, hj, rfl⟩
  unfold tmv
  rw [dif_pos h]
  obtain ⟨j', h1, h2, h3⟩ := Classical.choose_spec h
  exact congrArg tm (bs_inj hj h2 h3).1.symm
theorem tmv_le {R tm : Nat → Nat} {P : Nat} (ht : ∀ p, p < P → tm p ≤ 1000) : ∀ v, v < bs R P → tmv R tm P v ≤ 1000 := by
  intro v hv
  obtain ⟨p, j, h1, h2, rfl⟩ := bs_dec hv
  rw [tmv_eq h1 h2]; exact ht p h1
theorem sum_const {f : Nat → Nat} {c : Nat} : ∀ {n : Nat}, (∀ i, i < n → f i = c) → sumTo f n = n * c := by
  intro n
  induction n with
  | zero => intro _; rw [Nat.zero_mul]; rfl
  | succ n ih =>
    intro h
    rw [sumTo, ih (fun i hi => h i (by omega)), h n (by omega), Nat.succ_mul]
theorem tmv_sum {R tm : Nat → Nat} {P : Nat} : ∀ k, k ≤ P → sumTo (tmv R tm P) (bs R k) = sumTo (fun p => R p * tm p) k := by
  intro k
  induction k with
  | zero => intro _; rfl
  | succ k ih =>
    intro hk
    show sumTo (tmv R tm P) (bs R k + R k) = sumTo (fun p => R p * tm p) k + R k * tm k
    rw [sum_split, ih (by omega), sum_const (f := fun e => tmv R tm P (bs R k + e)) (n := R k) (c := tm k) (fun j hj => tmv_eq (by omega) hj)]
/-- the slowest own RING -/
def mxo (R tm : Nat → Nat) : Nat → Nat
  | 0 => 0
  | k + 1 => max (mxo R tm k) (R k * tm k)
theorem mxo_sum {R tm : Nat → Nat} : ∀ k, sumTo (fun p => R p * tm p) k ≤ k * mxo R tm k := by
  intro k
  induction k with
  | zero => exact Nat.zero_le _
  | succ k ih =>
    have h1 : mxo R tm k ≤ mxo R tm (k + 1) := Nat.le_max_left _ _
    have h2 : R k * tm k ≤ mxo R tm (k + 1) := Nat.le_max_right _ _
    have h3 := Nat.mul_le_mul_left k h1
    rw [Nat.succ_mul]
    show sumTo (fun p => R p * tm p) k + R k * tm k ≤ _
    omega
theorem mxo_ex {R tm : Nat → Nat} : ∀ k, mxo R tm k = 0 ∨ ∃ p, p < k ∧ mxo R tm k = R p * tm p := by
  intro k
  induction k with
  | zero => exact Or.inl rfl
  | succ k ih =>
    by_cases c : mxo R tm k ≤ R k * tm k
    · exact Or.inr ⟨k, by omega, by show max (mxo R tm k) (R k * tm k) = _; omega⟩
    · have e : mxo R tm (k + 1) = mxo R tm k := by show max (mxo R tm k) (R k * tm k) = _; omega
      rw [e]
      rcases ih with h | ⟨p, hp, h⟩
      · exact Or.inl h
      · exact Or.inr ⟨p, by omega, h⟩
theorem own_gd {R : Nat → Nat} {p : Nat} : ∀ k j, j < k → (own R p k).getD j (0, 0, 0) = (bs R p + j, if j = 0 then bs R p + (R p - 1) else bs R p + (j - 1), if j = 0 then 1 else 0) := by
  intro k
  induction k with
  | zero => intro j h; omega
  | succ k ih =>
    intro j h
    rw [own]
    by_cases e : j = k
    · subst e
      have hl := own_len (R := R) (p := p) j
      have := gd_last (l := own R p j) (x := (bs R p + j, if j = 0 then bs R p + (R p - 1) else bs R p + (j - 1), if j = 0 then 1 else 0)) (d := ((0, 0, 0) : ED))
      rw [hl] at this
      exact this
    · rw [gdl (by rw [own_len]; omega)]
      exact ih j (by omega)
theorem ownA_gd {R : Nat → Nat} : ∀ P p j, p < P → j < R p → (ownA R P).getD (bs R p + j) (0, 0, 0) = (bs R p + j, if j = 0 then bs R p + (R p - 1) else bs R p + (j - 1), if j = 0 then 1 else 0) := by
  intro P
  induction P with
  | zero => intro p j h; omega
  | succ P ih =>
    intro p j hp hj
    rw [ownA]
    by_cases e : p = P
    · subst e
      rw [gdr (by rw [ownA_len]; omega), ownA_len, show bs R p + j - bs R p = j by omega]
      exact own_gd _ _ hj
    · rw [gdl (by rw [ownA_len]; exact bs_lt (by omega) hj)]
      exact ih p j (by omega) hj
theorem lnA_gd {N : NG} {R : Nat → Nat} : ∀ l p j, p < nP N → j < R p → bs R p + j < (lnA N R l).length ∧ (lnA N R l).getD (bs R p + j) (0, 0, 0) = (bs R p + j, if j = 0 then bs R p + (R p - 1) else bs R p + (j - 1), if j = 0 then 1 else 0) := by
  intro l
  induction l with
  | zero =>
    intro p j hp hj
    rw [lnA, ownA_len]
    exact ⟨bs_lt hp hj, ownA_gd _ _ _ hp hj⟩
  | succ l ih =>
    intro p j hp hj
    obtain ⟨h1, h2⟩ := ih p j hp hj
    rw [lnA, gdl h1, List.length_append]
    exact ⟨by omega, h2⟩
theorem own_ring {N : NG} {R tm : Nat → Nat} {l p : Nat} (hp : p < nP N) (h1 : 1 ≤ R p) : rng (lnA N R l) (tmv R tm (nP N)) (R p * tm p) 1 := by
  have eFj : ∀ j, j < R p → eF (lnA N R l) (bs R p + j) = bs R p + j := fun j hj => by rw [eF, (lnA_gd l p j hp hj).2]
  have eAj : ∀ j, j < R p → eA (lnA N R l) (bs R p + j) = if j = 0 then bs R p + (R p - 1) else bs R p + (j - 1) := fun j hj => by rw [eA, (lnA_gd l p j hp hj).2]
  have eRj : ∀ j, j < R p → eR (lnA N R l) (bs R p + j) = if j = 0 then 1 else 0 := fun j hj => by rw [eR, (lnA_gd l p j hp hj).2]
  have hit : ∀ i, i < R p → it (fun u => eA (lnA N R l) u) i (bs R p + (R p - 1)) = bs R p + (R p - 1 - i) := by
    intro i
    induction i with
    | zero => intro _; rfl
    | succ i ih =>
      intro hi
      rw [it_succ, ih (by omega)]
      show eA (lnA N R l) (bs R p + (R p - 1 - i)) = _
      rw [eAj _ (by omega), if_neg (by omega)]
      congr 1
  refine ⟨fun u => u, bs R p + (R p - 1), R p, by omega, ?_, fun i hi => ?_, ?_, ?_⟩
  · show it (fun u => eA (lnA N R l) u) (R p) (bs R p + (R p - 1)) = bs R p + (R p - 1)
    obtain ⟨k, hk⟩ : ∃ k, R p = k + 1 := ⟨R p - 1, by omega⟩
    have e := hit k (by omega)
    have e2 : it (fun u => eA (lnA N R l) u) (k + 1) (bs R p + (R p - 1)) = bs R p + (R p - 1) := by
      rw [it_succ, e]
      show eA (lnA N R l) (bs R p + (R p - 1 - k)) = _
      rw [eAj _ (by omega), if_pos (by omega)]
    rw [← hk] at e2
    exact e2
  · show it (fun u => eA (lnA N R l) u) i (bs R p + (R p - 1)) < _ ∧ eF _ (it (fun u => eA (lnA N R l) u) i (bs R p + (R p - 1))) = it (fun u => eA (lnA N R l) u) i (bs R p + (R p - 1))
    rw [hit i hi]
    exact ⟨(lnA_gd l p _ hp (by omega)).1, eFj _ (by omega)⟩
  · show R p * tm p = sm (tmv R tm (nP N)) (fun u => eA (lnA N R l) u) (R p) (bs R p + (R p - 1))
    rw [sm_sum, sum_const (c := tm p) (fun i hi => by rw [hit i hi]; exact tmv_eq hp (by omega))]
  · show 1 = sm (fun u => eR (lnA N R l) u) (fun u => eA (lnA N R l) u) (R p) (bs R p + (R p - 1))
    rw [sm_sum]
    have e : ∀ i, i < R p → (fun i => eR (lnA N R l) (it (fun u => eA (lnA N R l) u) i (bs R p + (R p - 1)))) i = if i = R p - 1 then 1 else 0 := fun i hi => by
      show eR (lnA N R l) (it (fun u => eA (lnA N R l) u) i (bs R p + (R p - 1))) = _
      rw [hit i hi, eRj _ (by omega)]
      by_cases z : i = R p - 1
      · rw [if_pos z, if_pos (by omega)]
      · rw [if_neg z, if_neg (by omega)]
    rw [sumTo_congr e]
    obtain ⟨k, hk⟩ : ∃ k, R p = k + 1 := ⟨R p - 1, by omega⟩
    rw [hk, sumTo, sumTo_zero.mpr (fun i hi => by rw [if_neg (by omega)]), if_pos (by omega)]
theorem lcmp_lt' {a b : Nat} (ha : a < 2 ^ 63) (hb : b < 2 ^ 63) (h : a < b) : lg_cmp (lN a) (lN b) < 0 := by
  unfold lg_cmp
  rw [if_neg (fun q : lN a > lN b => by have := (lN_lt2 hb ha).mp q; omega), if_neg (fun q => by have := (lN_eq2 ha hb).mp q; omega)]; decide
theorem c_own {M : tM} {N : NG} {R tm : Nat → Nat} (hN : NOK N) (hl : Len M) (hC : Cg M M N) (hR : ∀ p, p < nP N → mI M 7 p 6 = nI (R p)) (hT : ∀ p, p < nP N → mI M 7 p 4 = nI (tm p)) (hR6 : ∀ p, p < nP N → R p ≤ 60) (hT6 : ∀ p, p < nP N → tm p ≤ 1000) :
    Ok (fX0_beginWithOwnRings M) (fun m => Fr [10001, 10002] M m ∧ mL m 0 0 1 = lN (mxo R tm (nP N)) ∧ mL m 0 0 2 = lN 1 ∧ mxo R tm (nP N) ≤ 60000) := by
  have hb := hN.1
  rw [fX0_beginWithOwnRings, bnd_eq, bnd_eq]
  have F0 : Fr [10001, 10002] M (sL (sL M 0 0 1 0) 0 0 2 1) := (Fr.refl.wLo (by decide)).wLo (by decide)
  have v1 : mL (sL (sL M 0 0 1 0) 0 0 2 1) 0 0 1 = lN 0 := by simp [mL_sL]; rfl
  have v2 : mL (sL (sL M 0 0 1 0) 0 0 2 1) 0 0 2 = lN 1 := by simp [mL_sL]; rfl
  generalize sL (sL M 0 0 1 0) 0 0 2 1 = M0 at *
  refine ok_call (P := fun m => Fr [10001, 10002] M m ∧ mL m 0 0 1 = lN (mxo R tm (nP N)) ∧ mL m 0 0 2 = lN 1 ∧ mxo R tm (nP N) ≤ 60000) ?_ (fun m h => ok_some h)
  refine loop0 (fun n i m => fX0_beginWithOwnRings_l12 n i m) (nP N) (fun i m => Fr [10001, 10002] M m ∧ mL m 0 0 1 = lN (mxo R tm i) ∧ mL m 0 0 2 = lN 1 ∧ mxo R tm i ≤ 60000) _ (by omega) ?_ ?_ M0 ⟨F0, v1, v2, Nat.zero_le _⟩
  · rintro n m ⟨F, h⟩
    rw [fX0_beginWithOwnRings_l12, F.oI (by decide), hC.1.1, if_pos (nI_le (Nat.le_refl _) (by omega))]
    exact ok_some ⟨F, h⟩
  · rintro n i m hi ⟨F, h1, h2, h3⟩ kk
    have hCm := hC.fr F (by decide)
    have r6 := hR6 i hi
    have t6 := hT6 i hi
    have rt : R i * tm i ≤ 60 * 1000 := Nat.mul_le_mul r6 t6
    have em : mxo R tm (i + 1) = max (mxo R tm i) (R i * tm i) := rfl
    rw [fX0_beginWithOwnRings_l12, hCm.1.1, if_neg (nI_ge hi (by omega)), F.n, ln200 hl, chk_nI (by omega) (by omega), bnd_eq, nI_clamp (by omega), (hCm.2.1 i hi).1.1, Option.bind_some, h1, F.oI (k := 7) (j := 4) (by decide), F.oI (k := 7) (j := 6) (by decide), hT i hi, hR i hi, nI_l (by omega), nI_l (by omega), lN_mul, Nat.mul_comm (tm i)]
    have emax : fJ9_max_f86c9 (lN (mxo R tm i)) (lN (R i * tm i)) m = some (lN (mxo R tm (i + 1))) := by
      rw [fJ9_max_f86c9, em]
      by_cases c : mxo R tm i < R i * tm i
      · rw [if_pos (lcmp_lt' (by omega) (by omega) c), show max (mxo R tm i) (R i * tm i) = R i * tm i by omega]
      · rw [if_neg (lcmp_nlt (by omega) (by omega) (by omega)), show max (mxo R tm i) (R i * tm i) = mxo R tm i by omega]
    rw [emax, Option.bind_some, bnd_eq, bnd_eq, nI_1]
    refine kk _ ⟨F.wLo (by decide), ?_, ?_, by omega⟩
    · rw [mL_sL, if_pos ⟨rfl, rfl, rfl⟩]
    · rw [mL_sL, if_neg (by simp)]; exact h2
/-- all that the beat stands on -/
def BW (N : NG) (R tm : Nat → Nat) : Prop := NOK N ∧ rndOf N = .inl R ∧ 0 < nP N ∧ ¬ stk N R (nS N) ∧ bs R (nP N) ≤ 60 ∧ ∀ p, p < nP N → tm p ≤ 1000
theorem BW.hN {N : NG} {R tm : Nat → Nat} (h : BW N R tm) : NOK N := h.1
theorem BW.r1 {N : NG} {R tm : Nat → Nat} (h : BW N R tm) : rndOf N = .inl R := h.2.1
theorem BW.p0 {N : NG} {R tm : Nat → Nat} (h : BW N R tm) : 0 < nP N := h.2.2.1
theorem BW.hs {N : NG} {R tm : Nat → Nat} (h : BW N R tm) : ¬ stk N R (nS N) := h.2.2.2.1
theorem BW.hn {N : NG} {R tm : Nat → Nat} (h : BW N R tm) : bs R (nP N) ≤ 60 := h.2.2.2.2.1
theorem BW.ht {N : NG} {R tm : Nat → Nat} (h : BW N R tm) : ∀ p, p < nP N → tm p ≤ 1000 := h.2.2.2.2.2
theorem BW.hH {N : NG} {R tm : Nat → Nat} (h : BW N R tm) : HN (bs R (nP N)) (lnA N R (nL N)) (tmv R tm (nP N)) ∧ ∃ ps, GE (bs R (nP N)) ps (lnA N R (nL N)) := by
  have hv := (od_best (y := 0) h.hN h.hs (bs R (nP N)) (Nat.le_refl _)).1
  have hE := GE_of (lnA_ok h.hN (rnd_bal h.hN h.r1) hv (nL N) (Nat.le_refl _))
  have hlen := lnA_len (N := N) (R := R) h.hN h.hn (nL N) (Nat.le_refl _)
  have hb := h.hN.1
  have hn := h.hn
  exact ⟨⟨hn, by omega, fun e he => ⟨(hE e he).1, (hE e he).2.1⟩, fun e he => (hE e he).2.2.1, tmv_le h.ht⟩, _, hE⟩
def kKn : List Nat := [104, 105, 107, 108, 109, 111, 112, 10001, 10002, 10006, 10010]
theorem c_know {M : tM} {N : NG} {R tm : Nat → Nat} (h : BW N R tm) (hl : Len M) (hC : Cg M M N) (hR : ∀ p, p < nP N → mI M 7 p 6 = nI (R p)) (hT : ∀ p, p < nP N → mI M 7 p 4 = nI (tm p)) (h3 : mI M 0 0 3 = 0) :
    Ok (fX0_know M) (fun m => Fr (10003 :: kKn) M m ∧ mI m 0 0 3 = 1 ∧ ∃ p q, BT (lnA N R (nL N)) (tmv R tm (nP N)) p q ∧ mL m 0 0 1 = lN p ∧ mL m 0 0 2 = lN q) := by
  obtain ⟨hH, ps, hG⟩ := h.hH
  have hN := h.hN
  have hb := hN.1
  have hn := h.hn
  have hB := rnd_bal hN h.r1
  have hR6 : ∀ p, p < nP N → R p ≤ 60 := fun p hp => by have : R p ≤ bs R (nP N) := sumTo_ge hp; omega
  rw [fX0_know, h3, if_pos rfl]
  refine ok_call (c_number (tm := tm) hN hl hC hR hT hn) ?_
  rintro M1 ⟨F1, a1, a2, a3⟩
  refine ok_call (c_lines hN (hl.fr F1) (hC.fr F1 (by decide)) (fun p hp => (F1.oI (by decide)).trans (hR p hp)) hn hB a3 a2) ?_
  rintro M2 ⟨F2, a4⟩
  have G2 : Fr kKn M M2 := (F1.mono (by decide)).step F2 (by decide)
  refine ok_call (c_own (tm := tm) hN (hl.fr G2) (hC.fr G2 (by decide)) (fun p hp => (G2.oI (by decide)).trans (hR p hp)) (fun p hp => (G2.oI (by decide)).trans (hT p hp)) hR6 h.ht) ?_
  rintro M3 ⟨F3, b1, b2, b3⟩
  have G3 : Fr kKn M M3 := G2.step F3 (by decide)
  have hQ : QC M3 (bs R (nP N)) (lnA N R (nL N)) (tmv R tm (nP N)) (mxo R tm (nP N)) 1 := by
    refine ⟨a4.fr F3 (by decide), (F3.oI (by decide)).trans ((F2.oI (by decide)).trans a1), fun v hv => ?_, b1, b2⟩
    obtain ⟨p, j, h1, h2, rfl⟩ := bs_dec hv
    rw [F3.aI (by decide), F2.aI (by decide), tmv_eq h1 h2]
    exact a3.2 p j h1 h2
  have hs : some_r (lnA N R (nL N)) (tmv R tm (nP N)) (mxo R tm (nP N)) 1 := by
    rcases mxo_ex (R := R) (tm := tm) (nP N) with z | ⟨p, hp, z⟩
    · exact Or.inl ⟨z, rfl⟩
    · exact Or.inr ⟨_, 1, own_ring (tm := tm) hp (rnd_pos hN h.r1 p hp), by rw [z]; omega⟩
  have hts : sumTo (tmv R tm (nP N)) (bs R (nP N)) ≤ 12 * mxo R tm (nP N) := by
    rw [tmv_sum _ (Nat.le_refl _)]
    exact Nat.le_trans (mxo_sum _) (Nat.mul_le_mul_right _ hb.1)
  refine ok_call (c_turns (hl.fr G3) hH hG hQ b3 hs hts) ?_
  rintro M4 ⟨F4, p, q, c1, c2, c3⟩
  rw [bnd_eq]
  have G4 : Fr kKn M M4 := G3.step F4 (by decide)
  refine ok_some ⟨(G4.mono (by decide)).wIo (by decide), by rw [mI_sI, if_pos ⟨rfl, rfl, rfl⟩], p, q, c1, ?_, ?_⟩
  · rw [mL_sI]; exact c2
  · rw [mL_sI]; exact c3
theorem m_beat {X : tM} {N : NG} {R tm : Nat → Nat} {a p q : Nat} (h : BW N R tm) (hl : Len X) (hG : Gr X N) (hT : ∀ p, p < nP N → mI X 1210 0 p = nI (tm p)) (hp : BT (lnA N R (nL N)) (tmv R tm (nP N)) p q) (ha : a < 2) :
    ∃ X', fX11_beat (nI a) X = some (if a = 0 then (lN p).toInt32 else (lN q).toInt32, X') := by
  obtain ⟨hH, ps, hGE⟩ := h.hH
  have hN := h.hN
  have hn := h.hn
  have hB := rnd_bal hN h.r1
  obtain ⟨⟨w, X1⟩, e1, F1, hw, hw2⟩ := ns_m hN hl hG
  have F1 : Fr kBM X X1 := F1
  obtain ⟨w1, w2⟩ := hw2 R h.r1 h.p0
  have w1 : mI X1 11 0 36 = nI (bs R (nP N)) := w1
  have w0 : w = 0 := by
    rcases hw with ⟨z, -⟩ | ⟨-, ⟨R', r2, ⟨z, -⟩ | ⟨-, z⟩⟩ | ⟨l, r2, -⟩ | ⟨r2, -⟩⟩
    · have := h.p0; omega
    · exact z
    · rw [h.r1] at r2; cases r2; exact absurd z h.hs
    · rw [h.r1] at r2; cases r2
    · rw [h.r1] at r2; cases r2
  obtain ⟨X2, e2, F2, c1, c2⟩ := m_setWaits (tm := tm) hN (hl.fr F1) (hG.fr F1 (by decide)) w2 (fun p hp => (F1.aI (by decide)).trans (hT p hp)) hn hB
  have G2 : Fr (kBM ++ kSw) X X2 := (F1.mono (by decide)).step F2 (by decide)
  have F3 : Fr [120074, 120075] X2 (sL (sL X2 11 0 74 0) 11 0 75 1) := (Fr.refl.wLo (by decide)).wLo (by decide)
  have v1 : mL (sL (sL X2 11 0 74 0) 11 0 75 1) 11 0 74 = lN 0 := by simp [mL_sL]; rfl
  have v2 : mL (sL (sL X2 11 0 74 0) 11 0 75 1) 11 0 75 = lN 1 := by simp [mL_sL]; rfl
  have pre : fX11_beat (nI a) X = Option.bind (fX11_beat_l40 (nI a) FU 1 (sL (sL X2 11 0 74 0) 11 0 75 1)) fun M16 => if nI a = 0 then some (((mL M16 11 0 74).toInt32, M16)) else some (((mL M16 11 0 75).toInt32, M16)) := by
    rw [fX11_beat, e1, Option.bind_some]
    show (if 0 ≤ w then _ else _) = _
    rw [w0, if_pos (by decide), w1, if_pos (show nI _ ≤ (60 : Int32) from nI_le (b := 60) hn (by omega)), e2, Option.bind_some, bnd_eq, bnd_eq]
  generalize sL (sL X2 11 0 74 0) 11 0 75 1 = X3 at *
  have hQ : QX X3 (bs R (nP N)) (lnA N R (nL N)) (tmv R tm (nP N)) 0 1 := by
    refine ⟨c1.fr F3 (by decide), (F3.oI (by decide)).trans ((F2.oI (by decide)).trans w1), fun v hv => ?_, v1, v2⟩
    obtain ⟨p, j, h1, h2, rfl⟩ := bs_dec hv
    rw [F3.aI (by decide), tmv_eq h1 h2]
    exact c2.2 p j h1 h2
  obtain ⟨X4, e4, p', q', d1, d2, d3⟩ := m_turns (z1 := nI a) ((hl.fr G2).fr F3) hH hGE hQ
  obtain ⟨rfl, rfl⟩ := BT_uniq hGE hp d1
  refine ⟨X4, ?_⟩
  rw [pre, e4, Option.bind_some]
  by_cases z : a = 0
  · rw [if_pos z, if_pos (by rw [z]; rfl), d2]
  · rw [if_neg z, if_neg (nI_ne0 (by omega) (by omega)), d3]
theorem c27 : call27 Rel := by
  rintro a1 M h01 ⟨N, hA⟩
  obtain ⟨v, M2, e, F, hA2, hv, hv0⟩ := ns_c hA
  obtain ⟨⟨hN, hl, hG⟩, hC, hT, hV, hF, hR0, hD, hO, hS, hk1, hk2, hk3⟩ := id hA2
  have hb := hN.1
  have prc : fX10_beat a1 M = if v = 0 then (if mI M2 1 0 4 ≤ 60 then (fX0_know M2).bind fun M7 => if a1 = 0 then some (((mL M7 0 0 1).toInt32, M7)) else some (((mL M7 0 0 2).toInt32, M7)) else some (((-4), M2))) else some ((v, M2)) := by
    rw [fX10_beat, e, Option.bind_some]
  by_cases v0 : v = 0
  rotate_left
  · obtain ⟨⟨w, M3⟩, e3, F3, hw, -⟩ := ns_m hN hl hG
    have F3 : Fr kBM M2 M3 := F3
    have ew : w = v := NSv_uniq hw hv
    refine ⟨v, M2, M3, by rw [prc, if_neg v0], ?_, N, hA2.fr F3 (by decide)⟩
    rw [fX11_beat, e3, Option.bind_some]
    show (if 0 ≤ w then _ else _) = _
    rw [ew, if_neg (NSv_neg hv v0)]
  obtain ⟨R, r1, p0, hs, hR, h4⟩ := hv0 v0
  have hB2 := (RB_0 hN r1).2.2
  by_cases s60 : sumTo R (nP N) ≤ 60
  rotate_left
  · obtain ⟨⟨w, M3⟩, e3, F3, hw, hw2⟩ := ns_m hN hl hG
    have F3 : Fr kBM M2 M3 := F3
    have ew : w = v := NSv_uniq hw hv
    have w1 : mI M3 11 0 36 = nI (sumTo R (nP N)) := (hw2 R r1 p0).1
    refine ⟨-4, M2, M3, ?_, ?_, N, hA2.fr F3 (by decide)⟩
    · rw [prc, if_pos v0, h4, if_neg (show ¬ nI _ ≤ (60 : Int32) from nI_ge (a := 60) (by omega) (by omega))]
    · rw [fX11_beat, e3, Option.bind_some]
      show (if 0 ≤ w then _ else _) = _
      rw [ew, v0, if_pos (by decide), w1, if_neg (show ¬ nI _ ≤ (60 : Int32) from nI_ge (a := 60) (by omega) (by omega))]
  -- the TIMES
  obtain ⟨tm, htm⟩ : ∃ tm : Nat → Nat, ∀ p, p < nP N → tm p ≤ 1000 ∧ mI M2 1210 0 p = nI (tm p) ∧ mI M2 7 p 4 = nI (tm p) := by
    have hx : ∀ p, ∃ x, p < nP N → x ≤ 1000 ∧ mI M2 1210 0 p = nI x ∧ mI M2 7 p 4 = nI x := fun p => by
      by_cases q : p < nP N
      · obtain ⟨⟨t1, -⟩, ⟨x, hx, t2⟩, -⟩ := hT p q
        exact ⟨x, fun _ => ⟨hx, t2, t1.trans t2⟩⟩
      · exact ⟨0, fun h => absurd h q⟩
    obtain ⟨tm, h⟩ := Classical.axiomOfChoice hx
    exact ⟨tm, h⟩
  have hW : BW N R tm := ⟨hN, r1, p0, hs, s60, fun p hp => (htm p hp).1⟩
  -- the class knows it
  have know : ∃ M7, fX0_know M2 = some M7 ∧ Al M7 N ∧ mI M7 0 0 3 = 1 := by
    by_cases z : mI M2 0 0 3 = 0
    · obtain ⟨M7, e7, F7, k1, p, q, k2, k3, k4⟩ := c_know hW hl hC hR (fun p hp => (htm p hp).2.2) z
      refine ⟨M7, e7, ?_, k1⟩
      refine ⟨⟨hN, hl.fr F7, hG.fr F7 (by decide)⟩, hC.fr F7 (by decide), hT.fr F7 (by decide), hV.fr F7 (by decide), hF.fr F7 (by decide), hR0.fr F7 (by decide), hD.fr F7 (by decide), hO.fr F7 (by decide), hS.fr F7 (by decide), hk1.fr F7 (by decide), hk2.fr F7 (by decide), Or.inr ⟨k1, fun X hlX hGX hTX => ?_⟩⟩
      have hTX' : ∀ p, p < nP N → mI X 1210 0 p = nI (tm p) := fun p hp => by
        rw [hTX p hp, F7.oI (by decide)]; exact (htm p hp).2.2
      obtain ⟨X1, x1⟩ := m_beat (a := 0) hW hlX hGX hTX' k2 (by omega)
      obtain ⟨X2, x2⟩ := m_beat (a := 1) hW hlX hGX hTX' k2 (by omega)
      rw [if_pos rfl] at x1
      rw [if_neg (by omega)] at x2
      exact ⟨⟨X1, by rw [k3]; exact x1⟩, ⟨X2, by rw [k4]; exact x2⟩⟩
    · refine ⟨M2, by rw [fX0_know, if_neg z], hA2, ?_⟩
      rcases hk3 with h | ⟨h, -⟩
      · exact absurd h z
      · exact h
  obtain ⟨M7, e7, hA7, k3⟩ := know
  obtain ⟨⟨-, hl7, hG7⟩, -, hT7, -, -, -, -, -, -, -, -, hc3⟩ := id hA7
  have hbeat : (∃ X', fX11_beat 0 M7 = some ((mL M7 0 0 1).toInt32, X')) ∧ (∃ X', fX11_beat 1 M7 = some ((mL M7 0 0 2).toInt32, X')) := by
    rcases hc3 with h | ⟨-, h⟩
    · rw [k3] at h; exact absurd h (by decide)
    · exact h M7 hl7 hG7 (fun p hp => (hT7 p hp).1.1.symm)
  have prc2 : fX10_beat a1 M = if a1 = 0 then some (((mL M7 0 0 1).toInt32, M7)) else some (((mL M7 0 0 2).toInt32, M7)) := by
    rw [prc, if_pos v0, h4, if_pos (show nI _ ≤ (60 : Int32) from nI_le (b := 60) s60 (by omega)), e7, Option.bind_some]
  rcases h01 with rfl | rfl
  · obtain ⟨M8, e8⟩ := hbeat.1
    exact ⟨_, M7, M8, by rw [prc2, if_pos rfl], e8, N, hA7.fr (frX11_beat e8) (by decide)⟩
  · obtain ⟨M8, e8⟩ := hbeat.2
    exact ⟨_, M7, M8, by rw [prc2, if_neg (by decide)], e8, N, hA7.fr (frX11_beat e8) (by decide)⟩
