/-! the round, the class's -/
def Pr (s : RS) (p q : Nat) : Nat := red (ru s p * rl s q) (rl s p * ru s q)
theorem Pr_swap (s : RS) (p q : Nat) : Pr s q p = red (rl s p * ru s q) (ru s p * rl s q) := by
  unfold Pr; rw [Nat.mul_comm (ru s q), Nat.mul_comm (rl s q)]
theorem Pr_cross (s : RS) (p q : Nat) : Pr s p q * (rl s p * ru s q) = ru s p * rl s q * Pr s q p := by
  rw [Pr_swap s p q]; exact red_cross _ _
def RC (M : tM) (N : NG) (s : RS) : Prop := (∀ p, p < nP N → mI M 208 0 p = nI (rg s p)) ∧ ∀ p q, p < nP N → q < nP N → rg s p = rg s q → mL M 209 0 (p * 12 + q) = lN (Pr s p q)
theorem c_prop {M : tM} {N : NG} {p q : Nat} {v : Int64} (hN : NOK N) (hl : Len M) (hp : p < nP N) (hq : q < nP N) (hv : mL M 209 0 (p * 12 + q) = v) : fX1_proportion (nI p) (nI q) M = some v := by
  have hb := hN.1
  have e : nI p * 12 + nI q = nI (p * 12 + q) := by rw [L32 12, pk_mul, nI_add]
  rw [fX1_proportion, e, ln209 hl, chk_nI (by omega) (by omega), nI_clamp (by omega), hv]
theorem c_setp {M : tM} {N : NG} {p q : Nat} {v : Int64} (hN : NOK N) (hl : Len M) (hp : p < nP N) (hq : q < nP N) : fX1_setProportion (nI p) (nI q) v M = some (sL M 209 0 (p * 12 + q) v) := by
  have hb := hN.1
  have e : nI p * 12 + nI q = nI (p * 12 + q) := by rw [L32 12, pk_mul, nI_add]
  rw [fX1_setProportion, e, ln209 hl, chk_nI (by omega) (by omega), nI_clamp (by omega)]
  rfl
theorem Pr_ok {P : Nat} {s : RS} (h : RSI P s) {p q : Nat} (hp : p < P) (hq : q < P) (e : rg s p = rg s q) : 0 < Pr s p q ∧ Pr s p q ≤ 1000000 := by
  obtain ⟨-, -, i3, i4, -⟩ := h.1 p hp
  obtain ⟨-, -, j3, j4, -⟩ := h.1 q hq
  exact ⟨red_pos (Nat.mul_pos i3 j4), h.2 p q hp hq e⟩
theorem join_pr {P : Nat} {s : RS} (h : RSI P s) {a g b t a' b' : Nat} (ha : a < P) (hb : b < P) (hg : 0 < g) (ht : 0 < t) (hne : ¬ rg s a = rg s b) (ha' : a' < P) (hb' : b' < P) (ea : rg s a' = rg s a) (eb : rg s b' = rg s b) :
    red (Pr s a' a * t * Pr s b b') (Pr s a a' * g * Pr s b' b) = Pr (tieR s a g b t) a' b' ∧ red (Pr s a a' * g * Pr s b' b) (Pr s a' a * t * Pr s b b') = Pr (tieR s a g b t) b' a' := by
  obtain ⟨-, -, a1, a2, -⟩ := h.1 a ha
  obtain ⟨-, -, b1, b2, -⟩ := h.1 b hb
  obtain ⟨-, -, c1, c2, -⟩ := h.1 a' ha'
  obtain ⟨-, -, d1, d2, -⟩ := h.1 b' hb'
  obtain ⟨hX, hY⟩ := tie_pos h ha hb hg ht
  have na : ¬ rg s a' = rg s b := by rw [ea]; exact hne
  have u1 : ru (tieR s a g b t) a' = ru s a' := if_neg na
  have u2 : rl (tieR s a g b t) a' = rl s a' := if_neg na
  have u3 : ru (tieR s a g b t) b' = red (ru s b' * tieX s a g b) (rl s b' * tieY s a t b) := if_pos eb
  have u4 : rl (tieR s a g b t) b' = red (rl s b' * tieY s a t b) (ru s b' * tieX s a g b) := if_pos eb
  have E1 := Pr_cross s a' a
  have E2 := Pr_cross s b b'
  have E3 := red_cross (ru s b' * tieX s a g b) (rl s b' * tieY s a t b)
  rw [← u3, ← u4] at E3
  have U0 : 0 < ru (tieR s a g b t) b' := by rw [u3]; exact red_pos (Nat.mul_pos d1 hX)
  have L0 : 0 < rl (tieR s a g b t) b' := by rw [u4]; exact red_pos (Nat.mul_pos d2 hY)
  have p1 := (Pr_ok h ha' ha ea).1
  have p2 := (Pr_ok h ha ha' ea.symm).1
  have p3 := (Pr_ok h hb hb' eb.symm).1
  have p4 := (Pr_ok h hb' hb eb).1
  rw [Pr_swap (tieR s a g b t) a' b']
  unfold Pr at E1 E2 p1 p2 p3 p4 ⊢
  rw [u1, u2]
  generalize red (ru s a' * rl s a) (rl s a' * ru s a) = α at *
  generalize red (ru s a * rl s a') (rl s a * ru s a') = α' at *
  generalize red (ru s b * rl s b') (rl s b * ru s b') = β at *
  generalize red (ru s b' * rl s b) (rl s b' * ru s b) = β' at *
  generalize ru (tieR s a g b t) b' = U at *
  generalize rl (tieR s a g b t) b' = L at *
  unfold tieX tieY at E3
  refine red_congr (Nat.mul_pos (Nat.mul_pos p1 ht) p3) (Nat.mul_pos (Nat.mul_pos p2 hg) p4) (Nat.mul_pos c1 L0) ?_
  refine Nat.eq_of_mul_eq_mul_right (Nat.mul_pos (Nat.mul_pos (Nat.mul_pos a1 a2) (Nat.mul_pos b1 b2)) (Nat.mul_pos d1 d2)) ?_
  calc α * t * β * (rl s a' * U) * (ru s a * rl s a * (ru s b * rl s b) * (ru s b' * rl s b')) = (α * (rl s a' * ru s a)) * (β * (rl s b * ru s b')) * (U * (rl s b' * (rl s a * t * ru s b))) := by ac_rfl
    _ = (ru s a' * rl s a * α') * (ru s b * rl s b' * β') * (ru s b' * (ru s a * g * rl s b) * L) := by rw [E1, E2, E3]
    _ = ru s a' * L * (α' * g * β') * (ru s a * rl s a * (ru s b * rl s b) * (ru s b' * rl s b')) := by ac_rfl
theorem tie_prB {P : Nat} {s : RS} (h : RSI P s) {a g b t p q : Nat} (ha : a < P) (hb : b < P) (hg : 0 < g) (ht : 0 < t) (hp : p < P) (hq : q < P) (ep : rg s p = rg s b) (eq : rg s q = rg s b) : Pr (tieR s a g b t) p q = Pr s p q := by
  obtain ⟨-, -, c1, c2, -⟩ := h.1 p hp
  obtain ⟨-, -, d1, d2, -⟩ := h.1 q hq
  obtain ⟨hX, hY⟩ := tie_pos h ha hb hg ht
  have u1 : ru (tieR s a g b t) p = red (ru s p * tieX s a g b) (rl s p * tieY s a t b) := if_pos ep
  have u2 : rl (tieR s a g b t) p = red (rl s p * tieY s a t b) (ru s p * tieX s a g b) := if_pos ep
  have u3 : ru (tieR s a g b t) q = red (ru s q * tieX s a g b) (rl s q * tieY s a t b) := if_pos eq
  have u4 : rl (tieR s a g b t) q = red (rl s q * tieY s a t b) (ru s q * tieX s a g b) := if_pos eq
  have E1 := red_cross (ru s p * tieX s a g b) (rl s p * tieY s a t b)
  have E2 := red_cross (ru s q * tieX s a g b) (rl s q * tieY s a t b)
  have P1 := red_pos (y := rl s p * tieY s a t b) (Nat.mul_pos c1 hX)
  have P2 := red_pos (y := ru s p * tieX s a g b) (Nat.mul_pos c2 hY)
  have P3 := red_pos (y := rl s q * tieY s a t b) (Nat.mul_pos d1 hX)
  have P4 := red_pos (y := ru s q * tieX s a g b) (Nat.mul_pos d2 hY)
  rw [← u1, ← u2] at E1
  rw [← u3, ← u4] at E2
  rw [← u1] at P1
  rw [← u2] at P2
  rw [← u3] at P3
  rw [← u4] at P4
  unfold Pr
  generalize ru (tieR s a g b t) p = Up at *
  generalize rl (tieR s a g b t) p = Lp at *
  generalize ru (tieR s a g b t) q = Uq at *
  generalize rl (tieR s a g b t) q = Lq at *
  generalize tieX s a g b = X at *
  generalize tieY s a t b = Y at *
  refine (red_congr (Nat.mul_pos P1 P4) (Nat.mul_pos P2 P3) (Nat.mul_pos c1 d2) ?_).1
  refine Nat.eq_of_mul_eq_mul_right (Nat.mul_pos hX hY) ?_
  calc Up * Lq * (rl s p * ru s q) * (X * Y) = (Up * (rl s p * Y)) * (ru s q * X * Lq) := by ac_rfl
    _ = (ru s p * X * Lp) * (Uq * (rl s q * Y)) := by rw [E1, E2]
    _ = ru s p * rl s q * (Lp * Uq) * (X * Y) := by ac_rfl
def JI (X : tM) (N : NG) (s T : RS) (A B : Nat) (D : Nat → Nat → Prop) (m : tM) : Prop := Fr [209] X m ∧ (∀ p q, p < nP N → q < nP N → rg s p = rg s q → mL m 209 0 (p * 12 + q) = lN (Pr s p q)) ∧ ∀ p q, p < nP N → q < nP N → D p q → rg s p = A → rg s q = B → (mL m 209 0 (p * 12 + q) = lN (Pr T p q) ∧ mL m 209 0 (q * 12 + p) = lN (Pr T q p)) ∧ Pr T p q ≤ 1000000 ∧ Pr T q p ≤ 1000000
def JF (X : tM) (N : NG) (s T : RS) (A B : Nat) (w : Int32 × tM) : Prop := w.1 = (-6) ∧ Fr [209] X w.2 ∧ ∃ p q, p < nP N ∧ q < nP N ∧ rg s p = A ∧ rg s q = B ∧ ¬ (Pr T p q ≤ 1000000 ∧ Pr T q p ≤ 1000000)
set_option maxHeartbeats 1000000 in
theorem c_l23 {X M : tM} {N : NG} {s : RS} {a g b t i : Nat} (hN : NOK N) (hl : Len X) (hP : mI X 1 0 2 = nI (nP N)) (hc : RC X N s) (h : RSI (nP N) s) (ha : a < nP N) (hb : b < nP N) (hg : 0 < g) (ht : 0 < t) (hg2 : g ≤ 200) (ht2 : t ≤ 200) (hne : ¬ rg s a = rg s b) (hi : i < nP N) (hJ : JI X N s (tieR s a g b t) (rg s a) (rg s b) (fun p _ => p < i) M) :
    Ok (fX1_join_l23 (nI a) (nI b) (nI g) (nI t) (nI (rg s b)) (nI i) FU 0 M) (fun w => (∃ m, w = .inr m ∧ JI X N s (tieR s a g b t) (rg s a) (rg s b) (fun p _ => p < i + 1) m) ∨ ∃ v, w = .inl v ∧ JF X N s (tieR s a g b t) (rg s a) (rg s b) v) := by
  have hbb := hN.1
  generalize hT : tieR s a g b t = T at *
  have rb := (h.1 b hb).1
  have ra := (h.1 a ha).1
  refine loop0 (fun n j m => fX1_join_l23 (nI a) (nI b) (nI g) (nI t) (nI (rg s b)) (nI i) n j m) (nP N) (fun j m => JI X N s T (rg s a) (rg s b) (fun p q => p < i ∨ (p = i ∧ q < j)) m) _ (by omega) ?_ ?_ M ⟨hJ.1, hJ.2.1, fun p q hp hq hD => hJ.2.2 p q hp hq (hD.elim id (fun z => by omega))⟩
  · rintro n m ⟨F, k1, k2⟩
    rw [fX1_join_l23, F.oI (by decide), hP, if_pos (nI_le (Nat.le_refl _) (by omega))]
    exact ok_some (Or.inl ⟨m, rfl, F, k1, fun p q hp hq hD => k2 p q hp hq (by omega)⟩)
  · rintro n j m hj ⟨F, k1, k2⟩ kk
    have ri := (h.1 i hi).1
    have rj := (h.1 j hj).1
    have skip : ¬ (rg s i = rg s a ∧ rg s j = rg s b) → Ok (bnd (nI j + 1) fun x8 => fX1_join_l23 (nI a) (nI b) (nI g) (nI t) (nI (rg s b)) (nI i) n x8 m) (fun w => (∃ m, w = .inr m ∧ JI X N s T (rg s a) (rg s b) (fun p _ => p < i + 1) m) ∨ ∃ v, w = .inl v ∧ JF X N s T (rg s a) (rg s b) v) := fun c => by
      rw [bnd_eq, nI_1]
      refine kk m ⟨F, k1, fun p q hp hq hD e1 e2 => ?_⟩
      by_cases z : p = i ∧ q = j
      · obtain ⟨rfl, rfl⟩ := z; exact absurd ⟨e1, e2⟩ c
      · exact k2 p q hp hq (by omega) e1 e2
    rw [fX1_join_l23, F.oI (by decide), hP, if_neg (nI_ge hj (by omega)), F.n, ln208 hl, chk_nI (by omega) (by omega), chk_nI (by omega) (by omega), nI_clamp (by omega), nI_clamp (by omega), F.aI (by decide), hc.1 i hi, F.aI (by decide), hc.1 a ha]
    by_cases ea : rg s i = rg s a
    rotate_left
    · rw [if_neg (fun q => ea ((nI_eq (by omega) (by omega)).mp q))]
      exact skip (fun c => ea c.1)
    rw [if_pos (by rw [ea]), chk_nI (by omega) (by omega), nI_clamp (by omega), F.aI (by decide), hc.1 j hj]
    by_cases eb : rg s j = rg s b
    rotate_left
    · rw [if_neg (fun q => eb ((nI_eq (by omega) (by omega)).mp q))]
      exact skip (fun c => eb c.2)
    have p1 := Pr_ok h hi ha ea
    have p2 := Pr_ok h ha hi ea.symm
    have p3 := Pr_ok h hb hj eb.symm
    have p4 := Pr_ok h hj hb eb
    obtain ⟨J1, J2⟩ := join_pr h ha hb hg ht hne hi hj ea eb
    rw [hT] at J1 J2
    have b1 : Pr s i a * t * Pr s b j ≤ 1000000 * 200 * 1000000 := Nat.mul_le_mul (Nat.mul_le_mul p1.2 ht2) p3.2
    have b2 : Pr s a i * g * Pr s j b ≤ 1000000 * 200 * 1000000 := Nat.mul_le_mul (Nat.mul_le_mul p2.2 hg2) p4.2
    have b3 : 0 < Pr s i a * t * Pr s b j := Nat.mul_pos (Nat.mul_pos p1.1 ht) p3.1
    have b4 : 0 < Pr s a i * g * Pr s j b := Nat.mul_pos (Nat.mul_pos p2.1 hg) p4.1
    have hlm := hl.fr F
    rw [if_pos (by rw [eb]), c_prop hN hlm hi ha (k1 i a hi ha ea), Option.bind_some, c_prop hN hlm hb hj (k1 b j hb hj eb.symm), Option.bind_some, bnd_eq, nI_l (n := t) (by omega), lN_mul, lN_mul, c_prop hN hlm ha hi (k1 a i ha hi ea.symm), Option.bind_some, c_prop hN hlm hj hb (k1 j b hj hb eb), Option.bind_some, bnd_eq, nI_l (n := g) (by omega), lN_mul, lN_mul]
    generalize Pr s i a * t * Pr s b j = A at *
    generalize Pr s a i * g * Pr s j b = B at *
    have g1 := Nat.gcd_pos_of_pos_left B b3
    have g2 := Nat.le_of_dvd b3 (Nat.gcd_dvd_left A B)
    have e1 : A / Nat.gcd A B = Pr T i j := J1
    have e2 : B / Nat.gcd A B = Pr T j i := by rw [← J2, red, Nat.gcd_comm]
    have r1 := Nat.div_le_self A (Nat.gcd A B)
    have r2 := Nat.div_le_self B (Nat.gcd A B)
    have nz := nz_lN g1 (by omega)
    rw [c_gcd b3 (by omega) (by omega), Option.bind_some, chk_tr nz, lN_div2 (by omega) (by omega), lN_div2 (by omega) (by omega)]
    rw [e1] at r1
    rw [e2] at r2
    rw [e1, e2]
    by_cases c1 : 1000000 < Pr T i j
    · rw [if_gt (x := 1000000) (k := 1000000) rfl (by omega) (by omega) c1]
      exact ok_some (Or.inr ⟨_, rfl, rfl, F, i, j, hi, hj, ea, eb, fun z => by omega⟩)
    rw [if_ngt (x := 1000000) (k := 1000000) rfl (by omega) (by omega) (Nat.le_of_not_lt c1), chk_tr nz]
    by_cases c2 : Pr T j i ≤ 1000000
    rotate_left
    · rw [if_nlel (x := 1000000) (k := 1000000) rfl (by omega) (by omega) (Nat.lt_of_not_le c2)]
      exact ok_some (Or.inr ⟨_, rfl, rfl, F, i, j, hi, hj, ea, eb, fun z => by omega⟩)
    rw [if_lel (x := 1000000) (k := 1000000) rfl (by omega) (by omega) c2, chk_tr nz, c_setp hN hlm hi hj, Option.bind_some, chk_tr nz]
    have F1 : Fr [209] X (sL m 209 0 (i * 12 + j) (lN (Pr T i j))) := F.wL (by decide)
    rw [c_setp hN (hl.fr F1) hj hi, Option.bind_some, bnd_eq, nI_1]
    have hij : ¬ i = j := fun q => hne (by rw [← ea, ← eb, q])
    refine kk _ ⟨F1.wL (by decide), fun p q hp hq e => ?_, fun p q hp hq hD f1 f2 => ?_⟩
    · have n1 : ¬ (p = i ∧ q = j) := fun z => hne (by rw [← ea, ← eb, ← z.1, ← z.2, e])
      have n2 : ¬ (p = j ∧ q = i) := fun z => hne (by rw [← ea, ← eb, ← z.1, ← z.2, e])
      rw [mL_sL, if_neg (by omega), mL_sL, if_neg (by omega)]
      exact k1 p q hp hq e
    · by_cases z : p = i ∧ q = j
      · obtain ⟨rfl, rfl⟩ := z
        refine ⟨⟨?_, ?_⟩, by omega, c2⟩
        · rw [mL_sL, if_neg (by omega), mL_sL, if_pos ⟨rfl, rfl, rfl⟩]
        · rw [mL_sL, if_pos ⟨rfl, rfl, rfl⟩]
      · have := k2 p q hp hq (by omega) f1 f2
        have n2 : ¬ (p = j ∧ q = i) := fun z => hne (by rw [← f1, z.1, eb])
        refine ⟨⟨?_, ?_⟩, this.2⟩
        · rw [mL_sL, if_neg (by omega), mL_sL, if_neg (by omega)]; exact this.1.1
        · rw [mL_sL, if_neg (by omega), mL_sL, if_neg (by omega)]; exact this.1.2
theorem c_join {M : tM} {N : NG} {s : RS} {a g b t : Nat} (hN : NOK N) (hl : Len M) (hP : mI M 1 0 2 = nI (nP N)) (hc : RC M N s) (h : RSI (nP N) s) (ha : a < nP N) (hb : b < nP N) (hg : 0 < g) (ht : 0 < t) (hg2 : g ≤ 200) (ht2 : t ≤ 200) (hne : ¬ rg s a = rg s b) :
    Ok (fX1_join (nI a) (nI b) (nI g) (nI t) M) (fun w => Fr [208, 209] M w.2 ∧ ((w.1 = 0 ∧ smalls (nP N) (tieR s a g b t) ∧ RC w.2 N (tieR s a g b t)) ∨ (w.1 = (-6) ∧ ¬ smalls (nP N) (tieR s a g b t)))) := by
  have hbb := hN.1
  have rb := (h.1 b hb).1
  have ra := (h.1 a ha).1
  rw [fX1_join, ln208 hl, chk_nI (by omega) (by omega), bnd_eq, nI_clamp (by omega), hc.1 b hb]
  have hT1 : ∀ r, rg s r = rg s b → rg (tieR s a g b t) r = rg s a := fun r hr => if_pos hr
  have hT2 : ∀ r, ¬ rg s r = rg s b → rg (tieR s a g b t) r = rg s r := fun r hr => if_neg hr
  have hT3 : ∀ r, ¬ rg s r = rg s b → ru (tieR s a g b t) r = ru s r ∧ rl (tieR s a g b t) r = rl s r := fun r hr => ⟨if_neg hr, if_neg hr⟩
  have hBB : ∀ p q, p < nP N → q < nP N → rg s p = rg s b → rg s q = rg s b → Pr (tieR s a g b t) p q = Pr s p q := fun p q hp hq => tie_prB h ha hb hg ht hp hq
  have key : Ok (fX1_join_l11 (nI a) (nI b) (nI g) (nI t) (nI (rg s b)) FU 0 M) (fun w => (∃ m, w = .inr m ∧ JI M N s (tieR s a g b t) (rg s a) (rg s b) (fun p _ => p < nP N) m) ∨ ∃ v, w = .inl v ∧ JF M N s (tieR s a g b t) (rg s a) (rg s b) v) := by
    refine loop0 (fun n i m => fX1_join_l11 (nI a) (nI b) (nI g) (nI t) (nI (rg s b)) n i m) (nP N) (fun i m => JI M N s (tieR s a g b t) (rg s a) (rg s b) (fun p _ => p < i) m) _ (by omega) ?_ ?_ M ⟨Fr.refl, hc.2, fun p q hp hq hD => by omega⟩
    · rintro n m hJ
      rw [fX1_join_l11, hJ.1.oI (by decide), hP, if_pos (nI_le (Nat.le_refl _) (by omega))]
      exact ok_some (Or.inl ⟨m, rfl, hJ⟩)
    · rintro n i m hi hJ kk
      rw [fX1_join_l11, hJ.1.oI (by decide), hP, if_neg (nI_ge hi (by omega))]
      refine ok_call (c_l23 hN hl hP hc h ha hb hg ht hg2 ht2 hne hi hJ) ?_
      rintro w (⟨m2, rfl, hJ2⟩ | ⟨v, rfl, hv⟩)
      · show Ok (bnd (nI i + 1) fun x38 => _) _
        rw [bnd_eq, nI_1]
        exact kk m2 hJ2
      · exact ok_some (Or.inr ⟨v, rfl, hv⟩)
  refine ok_call key ?_
  rintro w (⟨m, rfl, F, k1, k2⟩ | ⟨v, rfl, v6, F, p, q, hp, hq, e1, e2, hv⟩)
  · show Ok (Option.bind (fX1_join_l178 (nI a) (nI (rg s b)) FU 0 m) _) _
    have key2 : Ok (fX1_join_l178 (nI a) (nI (rg s b)) FU 0 m) (fun m2 => Fr [208] m m2 ∧ ∀ p, p < nP N → mI m2 208 0 p = nI (rg (tieR s a g b t) p)) := by
      refine loop0 (fun n i m2 => fX1_join_l178 (nI a) (nI (rg s b)) n i m2) (nP N) (fun i m2 => Fr [208] m m2 ∧ ∀ p, p < nP N → mI m2 208 0 p = nI (if p < i then rg (tieR s a g b t) p else rg s p)) _ (by omega) ?_ ?_ m ⟨Fr.refl, fun p hp => by rw [if_neg (by omega), F.aI (by decide)]; exact hc.1 p hp⟩
      · rintro n m2 ⟨F2, k⟩
        rw [fX1_join_l178, F2.oI (by decide), F.oI (by decide), hP, if_pos (nI_le (Nat.le_refl _) (by omega))]
        exact ok_some ⟨F2, fun p hp => by rw [k p hp, if_pos hp]⟩
      · rintro n i m2 hi ⟨F2, k⟩ kk
        have ri := (h.1 i hi).1
        rw [fX1_join_l178, F2.oI (by decide), F.oI (by decide), hP, if_neg (nI_ge hi (by omega)), F2.n, F.n, ln208 hl, chk_nI (by omega) (by omega), nI_clamp (by omega), k i hi, if_neg (Nat.lt_irrefl _)]
        by_cases e : rg s i = rg s b
        · have ka : mI m2 208 0 a = nI (rg s a) := by rw [k a ha, hT2 a hne]; split <;> rfl
          rw [if_pos (by rw [e]), chk_nI (by omega) (by omega), chk_nI (by omega) (by omega), bnd_eq, nI_clamp (by omega), ka, Option.bind_some, bnd_eq, nI_1]
          refine kk _ ⟨F2.wI (by decide), fun p hp => ?_⟩
          rw [mI_sI]
          by_cases z : p = i
          · rw [if_pos ⟨rfl, rfl, z⟩, if_pos (by omega), z, hT1 i e]
          · rw [if_neg (fun y => z y.2.2), k p hp]
            by_cases y : p < i
            · rw [if_pos y, if_pos (by omega)]
            · rw [if_neg y, if_neg (by omega)]
        · rw [if_neg (fun q => e ((nI_eq (by omega) (by omega)).mp q)), Option.bind_some, bnd_eq, nI_1]
          refine kk _ ⟨F2, fun p hp => ?_⟩
          rw [k p hp]
          by_cases z : p = i
          · rw [if_neg (by omega), if_pos (by omega), z, hT2 i e]
          · by_cases y : p < i
            · rw [if_pos y, if_pos (by omega)]
            · rw [if_neg y, if_neg (by omega)]
    refine ok_call key2 ?_
    rintro m2 ⟨F2, k3⟩
    have all : ∀ p q, p < nP N → q < nP N → rg (tieR s a g b t) p = rg (tieR s a g b t) q → mL m 209 0 (p * 12 + q) = lN (Pr (tieR s a g b t) p q) ∧ Pr (tieR s a g b t) p q ≤ 1000000 := fun p q hp hq e => by
      by_cases ep : rg s p = rg s b
      · by_cases eq : rg s q = rg s b
        · rw [hBB p q hp hq ep eq]
          have e' : rg s p = rg s q := by rw [ep, eq]
          exact ⟨k1 p q hp hq e', (Pr_ok h hp hq e').2⟩
        · rw [hT1 p ep, hT2 q eq] at e
          have := k2 q p hq hp hq e.symm ep
          exact ⟨this.1.2, this.2.2⟩
      · by_cases eq : rg s q = rg s b
        · rw [hT2 p ep, hT1 q eq] at e
          have := k2 p q hp hq hp e eq
          exact ⟨this.1.1, this.2.1⟩
        · rw [hT2 p ep, hT2 q eq] at e
          have ePr : Pr (tieR s a g b t) p q = Pr s p q := by
            unfold Pr
            rw [(hT3 p ep).1, (hT3 p ep).2, (hT3 q eq).1, (hT3 q eq).2]
          rw [ePr]
          exact ⟨k1 p q hp hq e, (Pr_ok h hp hq e).2⟩
    refine ok_some ⟨(F.mono (by decide)).step F2 (by decide), Or.inl ⟨rfl, fun p q hp hq e => (all p q hp hq e).2, k3, fun p q hp hq e => ?_⟩⟩
    show mL m2 209 0 _ = _
    rw [F2.aL (by decide)]
    exact (all p q hp hq e).1
  · refine ok_some ⟨F.mono (by decide), Or.inr ⟨v6, fun hs => hv ⟨?_, ?_⟩⟩⟩
    · exact hs p q hp hq (by rw [hT2 p (by rw [e1]; exact hne), hT1 q e2, e1])
    · exact hs q p hq hp (by rw [hT2 p (by rw [e1]; exact hne), hT1 q e2, e1])
def TQ (M : tM) (N : NG) (s : RS) (l : Nat) (w : Int32 × tM) : Prop := Fr [208, 209] M w.2 ∧ ((∃ s', stepR N l s = .inl s' ∧ w.1 = 0 ∧ RC w.2 N s') ∨ (stepR N l s = .inr true ∧ w.1 = (-9)) ∨ (stepR N l s = .inr false ∧ w.1 = (-6)))
set_option maxHeartbeats 1000000 in
theorem c_tie {M X : tM} {N : NG} {s : RS} {l : Nat} (hN : NOK N) (hl : Len M) (hC : Cg M X N) (hc : RC M N s) (h : RSI (nP N) s) (hi : l < nL N) : Ok (fX1_tie (some l) M) (TQ M N s l) := by
  have hbb := hN.1
  obtain ⟨f1, f2, -⟩ := hN.2.2.1 l hi
  have bG := sG_le hN hi
  have bT := sT_le hN hi
  obtain ⟨e1, e2⟩ := c_sumG hN hC hi
  have cl := (hC.2.2.1 l hi).1
  have r1 := (h.1 _ f1).1
  have r2 := (h.1 _ f2).1
  rw [fX1_tie, Option.bind_some, e1, Option.bind_some, e2, Option.bind_some]
  by_cases g0 : sG N l = 0
  · rw [if_pos (by rw [g0]; rfl)]
    by_cases t0 : sT N l = 0
    · rw [if_pos (by rw [t0]; rfl)]
      exact ok_some ⟨Fr.refl, Or.inl ⟨s, if_pos ⟨g0, t0⟩, rfl, hc⟩⟩
    · rw [if_neg (nI_ne0 (by omega) (by omega)), if_pos (by rw [g0]; rfl)]
      exact ok_some ⟨Fr.refl, Or.inr (Or.inl ⟨(if_neg (fun q => t0 q.2)).trans (if_pos (Or.inl g0)), rfl⟩)⟩
  · rw [if_neg (nI_ne0 (by omega) (by omega)), if_neg (nI_ne0 (by omega) (by omega))]
    by_cases t0 : sT N l = 0
    · rw [if_pos (by rw [t0]; rfl)]
      exact ok_some ⟨Fr.refl, Or.inr (Or.inl ⟨(if_neg (fun q => g0 q.1)).trans (if_pos (Or.inr t0)), rfl⟩)⟩
    · rw [if_neg (nI_ne0 (by omega) (by omega)), bnd_eq, cl.2.2.1, Option.bind_some, bnd_eq, (hC.2.1 _ f1).1.2.1, bnd_eq, cl.2.2.2.1, Option.bind_some, bnd_eq, (hC.2.1 _ f2).1.2.1, ln208 hl, chk_nI (by omega) (by omega), chk_nI (by omega) (by omega), nI_clamp (by omega), nI_clamp (by omega), hc.1 _ f1, hc.1 _ f2]
      by_cases gr : rg s (nF N l) = rg s (nT N l)
      · have p1 := Pr_ok h f1 f2 gr
        have p2 := Pr_ok h f2 f1 gr.symm
        have b1 : Pr s (nF N l) (nT N l) * sG N l ≤ 1000000 * 200 := Nat.mul_le_mul p1.2 bG
        have b2 : Pr s (nT N l) (nF N l) * sT N l ≤ 1000000 * 200 := Nat.mul_le_mul p2.2 bT
        rw [if_pos (by rw [gr]), c_prop hN hl f1 f2 (hc.2 _ _ f1 f2 gr), Option.bind_some, c_prop hN hl f2 f1 (hc.2 _ _ f2 f1 gr.symm), Option.bind_some, nI_l (by omega), nI_l (by omega), lN_mul, lN_mul]
        have cr := Pr_cross s (nF N l) (nT N l)
        obtain ⟨-, -, i3, i4, -⟩ := h.1 _ f1
        obtain ⟨-, -, j3, j4, -⟩ := h.1 _ f2
        have iff1 : Pr s (nF N l) (nT N l) * sG N l = Pr s (nT N l) (nF N l) * sT N l ↔ ru s (nF N l) * sG N l * rl s (nT N l) = ru s (nT N l) * sT N l * rl s (nF N l) := by
          generalize Pr s (nF N l) (nT N l) = α at *
          generalize Pr s (nT N l) (nF N l) = β at *
          constructor
          · intro e
            refine Nat.eq_of_mul_eq_mul_right p2.1 ?_
            calc ru s (nF N l) * sG N l * rl s (nT N l) * β = (ru s (nF N l) * rl s (nT N l) * β) * sG N l := by ac_rfl
              _ = α * (rl s (nF N l) * ru s (nT N l)) * sG N l := by rw [cr]
              _ = (α * sG N l) * (rl s (nF N l) * ru s (nT N l)) := by ac_rfl
              _ = (β * sT N l) * (rl s (nF N l) * ru s (nT N l)) := by rw [e]
              _ = ru s (nT N l) * sT N l * rl s (nF N l) * β := by ac_rfl
          · intro e
            refine Nat.eq_of_mul_eq_mul_right (Nat.mul_pos i4 j3) ?_
            calc α * sG N l * (rl s (nF N l) * ru s (nT N l)) = (α * (rl s (nF N l) * ru s (nT N l))) * sG N l := by ac_rfl
              _ = ru s (nF N l) * rl s (nT N l) * β * sG N l := by rw [cr]
              _ = (ru s (nF N l) * sG N l * rl s (nT N l)) * β := by ac_rfl
              _ = (ru s (nT N l) * sT N l * rl s (nF N l)) * β := by rw [e]
              _ = β * sT N l * (rl s (nF N l) * ru s (nT N l)) := by ac_rfl
        by_cases c : Pr s (nF N l) (nT N l) * sG N l = Pr s (nT N l) (nF N l) * sT N l
        · rw [if_pos ((lcmp_eq (by omega) (by omega)).mpr c)]
          exact ok_some ⟨Fr.refl, Or.inl ⟨s, (if_neg (fun q => g0 q.1)).trans ((if_neg (fun q => q.elim g0 t0)).trans ((if_pos gr).trans (if_pos (iff1.mp c)))), rfl, hc⟩⟩
        · rw [if_neg (fun q => c ((lcmp_eq (by omega) (by omega)).mp q))]
          exact ok_some ⟨Fr.refl, Or.inr (Or.inl ⟨(if_neg (fun q => g0 q.1)).trans ((if_neg (fun q => q.elim g0 t0)).trans ((if_pos gr).trans (if_neg (fun z => c (iff1.mpr z))))), rfl⟩)⟩
      · rw [if_neg (fun q => gr ((nI_eq (by omega) (by omega)).mp q))]
        refine ok_call (P := TQ M N s l) ?_ (fun w h => ok_some h)
        refine (c_join hN hl hC.1.1 hc h f1 f2 (by omega) (by omega) bG bT gr).mono ?_
        rintro w ⟨F, hw⟩
        rcases hw with ⟨x1, sm, hx2⟩ | ⟨x0, sm⟩
        · exact ⟨F, Or.inl ⟨_, (if_neg (fun q => g0 q.1)).trans ((if_neg (fun q => q.elim g0 t0)).trans ((if_neg gr).trans (if_pos sm))), x1, hx2⟩⟩
        · exact ⟨F, Or.inr (Or.inr ⟨(if_neg (fun q => g0 q.1)).trans ((if_neg (fun q => q.elim g0 t0)).trans ((if_neg gr).trans (if_neg sm))), x0⟩)⟩
