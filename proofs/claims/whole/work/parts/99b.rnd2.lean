/-! the round, the model's: ties, all LINES, counts -/
theorem tie_a {s : RS} {a g b t : Nat} (hne : ¬ rg s a = rg s b) : rg (tieR s a g b t) a = rg s a := if_neg hne
theorem tie_pp {P : Nat} {s : RS} (h : RSI P s) {a g b t : Nat} (ha : a < P) (hb : b < P) (hg : 0 < g) (ht : 0 < t) : ∀ p, p < P → 0 < ru (tieR s a g b t) p ∧ 0 < rl (tieR s a g b t) p ∧ rg (tieR s a g b t) p < P := by
  intro p hp
  obtain ⟨hX, hY⟩ := tie_pos h ha hb hg ht
  obtain ⟨i1, -, i3, i4, -⟩ := h.1 p hp
  by_cases e : rg s p = rg s b
  · have g1 : rg (tieR s a g b t) p = rg s a := if_pos e
    have g2 : ru (tieR s a g b t) p = red (ru s p * tieX s a g b) (rl s p * tieY s a t b) := if_pos e
    have g3 : rl (tieR s a g b t) p = red (rl s p * tieY s a t b) (ru s p * tieX s a g b) := if_pos e
    rw [g1, g2, g3]
    exact ⟨red_pos (Nat.mul_pos i3 hX), red_pos (Nat.mul_pos i4 hY), (h.1 a ha).1⟩
  · have g1 : rg (tieR s a g b t) p = rg s p := if_neg e
    have g2 : ru (tieR s a g b t) p = ru s p := if_neg e
    have g3 : rl (tieR s a g b t) p = rl s p := if_neg e
    rw [g1, g2, g3]
    exact ⟨i3, i4, i1⟩
theorem red_self {x : Nat} : red x x ≤ 1 := by
  unfold red
  rw [Nat.gcd_self]
  by_cases h : x = 0
  · subst h; decide
  · rw [Nat.div_self (by omega)]; exact Nat.le_refl _
theorem smalls_of {P : Nat} {s : RS} (h : RSI P s) {a g b t : Nat} (hne : ¬ rg s a = rg s b) (hp : ∀ p q, p < P → q < p → rg (tieR s a g b t) p = rg (tieR s a g b t) a → rg (tieR s a g b t) q = rg (tieR s a g b t) a → okp (tieR s a g b t) p q) : smalls P (tieR s a g b t) := by
  intro p q hp' hq e
  by_cases c : rg (tieR s a g b t) p = rg (tieR s a g b t) a
  · have c2 : rg (tieR s a g b t) q = rg (tieR s a g b t) a := by rw [← e]; exact c
    generalize tieR s a g b t = T at *
    rcases Nat.lt_trichotomy p q with lt | eq | gt
    · have := (hp q p hq lt c2 c).2
      rw [Nat.mul_comm (rl T q), Nat.mul_comm (ru T q)] at this
      exact this
    · subst eq
      rw [Nat.mul_comm (rl T p)]
      have := red_self (x := ru T p * rl T p)
      omega
    · exact (hp p q hp' gt c c2).1
  · have nb : ∀ r, ¬ rg (tieR s a g b t) r = rg (tieR s a g b t) a → ¬ rg s r = rg s b := fun r h1 h2 => h1 (by rw [tie_a hne]; exact if_pos h2)
    have e1 := nb p c
    have e2 := nb q (by rw [← e]; exact c)
    have g1 : rg (tieR s a g b t) p = rg s p := if_neg e1
    have g2 : ru (tieR s a g b t) p = ru s p := if_neg e1
    have g3 : rl (tieR s a g b t) p = rl s p := if_neg e1
    have k1 : rg (tieR s a g b t) q = rg s q := if_neg e2
    have k2 : ru (tieR s a g b t) q = ru s q := if_neg e2
    have k3 : rl (tieR s a g b t) q = rl s q := if_neg e2
    rw [g1, k1] at e
    rw [g2, g3, k2, k3]
    exact h.2 p q hp' hq e
theorem m_tied {X : tM} {N : NG} {s : RS} {a g b t : Nat} (hN : NOK N) (hl : Len X) (hG : Gr X N) (h : RSI (nP N) s) (hx : RX X N s) (ha : a < nP N) (hb : b < nP N) (hg : 0 < g) (ht : 0 < t) (hg2 : g ≤ 200) (ht2 : t ≤ 200) (hne : ¬ rg s a = rg s b) :
    Ok (fX11_isTied (nI a) (nI g) (nI b) (nI t) X) (fun w => Fr [1232, 1233, 1234] X w.2 ∧ ((w.1 = 1 ∧ smalls (nP N) (tieR s a g b t) ∧ RX w.2 N (tieR s a g b t)) ∨ (w.1 = 0 ∧ ¬ smalls (nP N) (tieR s a g b t)))) := by
  have hbb := hN.1
  obtain ⟨hX, hY⟩ := tie_pos h ha hb hg ht
  obtain ⟨bX, bY⟩ := tie_big h ha hb hg2 ht2
  have g1 := Nat.gcd_pos_of_pos_left (tieY s a t b) hX
  have g2 := Nat.le_of_dvd hX (Nat.gcd_dvd_left (tieX s a g b) (tieY s a t b))
  have e1 : lN (ru s a) * (nI g).toInt64 * lN (rl s b) = lN (tieX s a g b) := by rw [nI_l (by omega), lN_mul, lN_mul]; rfl
  have e2 : lN (rl s a) * (nI t).toInt64 * lN (ru s b) = lN (tieY s a t b) := by rw [nI_l (by omega), lN_mul, lN_mul]; rfl
  have d1 : tieX s a g b / Nat.gcd (tieX s a g b) (tieY s a t b) = red (tieX s a g b) (tieY s a t b) := rfl
  have d2 : tieY s a t b / Nat.gcd (tieX s a g b) (tieY s a t b) = red (tieY s a t b) (tieX s a g b) := by rw [red, Nat.gcd_comm]
  have dd1 : lN (tieX s a g b) / lN (Nat.gcd (tieX s a g b) (tieY s a t b)) = lN (red (tieX s a g b) (tieY s a t b)) := by rw [lN_div2 (by omega) (by omega), d1]
  have dd2 : lN (tieY s a t b) / lN (Nat.gcd (tieX s a g b) (tieY s a t b)) = lN (red (tieY s a t b) (tieX s a g b)) := by rw [lN_div2 (by omega) (by omega), d2]
  rw [fX11_isTied, ln1233 hl, chk_nI (by omega) (by omega), ln1234 hl, chk_nI (by omega) (by omega), bnd_eq, nI_clamp (by omega), nI_clamp (by omega), (hx a ha).2.1, (hx b hb).2.2, e1, chk_nI (by omega) (by omega), chk_nI (by omega) (by omega), bnd_eq, (hx a ha).2.2, (hx b hb).2.1, e2, m_gcd (by omega) (by omega), Option.bind_some, chk_tr (nz_lN g1 (by omega)), bnd_eq, dd1, chk_tr (nz_lN g1 (by omega)), bnd_eq, dd2, ln1232 hl, chk_nI (by omega) (by omega), bnd_eq, (hx b hb).1]
  refine ok_call (m_l74 hN hl hG h hx ha hb hg ht hg2 ht2 hne) ?_
  rintro ⟨y, m⟩ ⟨⟨F, k0⟩, k1, k2⟩
  show Ok (Option.bind (fX11_isTied_l255 (nI a) m FU y 0) _) _
  have tp := tie_pp h ha hb hg ht
  rcases k2 with ⟨y1, k2, k3⟩ | ⟨y0, p, hp, k2⟩
  · have y1 : y = 1 := y1
    subst y1
    have hx2 : RX m N (tieR s a g b t) := fun p hp => k3 p hp hp
    refine ok_call (m_l255 hN (hl.fr F) (hG.fr F (by decide)) hx2 (fun p hp => (tp p hp).2.2) (fun p hp => ⟨(tp p hp).1, (tp p hp).2.1, k2 p hp⟩) ha) ?_
    rintro v hv
    rcases hv with ⟨rfl, hv⟩ | ⟨rfl, p, q, hp, hq, c1, c2, hv⟩
    · rw [chk_tr (by decide)]
      exact ok_some ⟨F, Or.inl ⟨rfl, smalls_of h hne hv, hx2⟩⟩
    · rw [chk_tr (by decide)]
      refine ok_some ⟨F, Or.inr ⟨rfl, fun hs => hv ⟨hs p q hp (by omega) (by rw [c1, c2]), ?_⟩⟩⟩
      have := hs q p (by omega) hp (by rw [c1, c2])
      rw [Nat.mul_comm (ru _ q), Nat.mul_comm (rl _ q)] at this
      exact this
  · have y0 : y = 0 := y0
    subst y0
    have e0 : fX11_isTied_l255 (nI a) m FU 0 0 = some 0 := by
      obtain ⟨n, hm⟩ : ∃ n, FU = n + 1 := ⟨FU - 1, by have := FU_lt (n := 0) (by omega); omega⟩
      rw [hm, fX11_isTied_l255, if_pos rfl]
      split <;> rfl
    rw [e0, Option.bind_some, chk_tr (by decide)]
    refine ok_some ⟨F, Or.inr ⟨rfl, fun hs => k2 ?_⟩⟩
    have := (tieR_ok h ha hb hg ht hne hs).1 p hp
    exact ⟨this.2.2.2.2.1, this.2.2.2.2.2.1⟩
theorem goR_step {N : NG} {i : Nat} {s : RS} (hi : i < nL N) : goR N (nL N - i) s = match stepR N i s with
    | .inl s' => goR N (nL N - (i + 1)) s'
    | .inr true => .inr (some i)
    | .inr false => .inr none := by
  obtain ⟨d, hd⟩ : ∃ d, nL N - i = d + 1 := ⟨nL N - i - 1, by omega⟩
  rw [hd, goR, show nL N - (d + 1) = i by omega, show nL N - (i + 1) = d by omega]
  cases stepR N i s with
  | inl a => rfl
  | inr b => cases b <;> rfl
theorem RX.fr {ks : List Nat} {X X2 : tM} {N : NG} {s : RS} (h : RX X N s) (hF : Fr ks X X2) (hd : disj ks [1232, 1233, 1234] = true) : RX X2 N s := by
  simp only [RX] at h ⊢
  simp only [hF.gI hd 1232 (by decide), hF.gL hd 1233 (by decide), hF.gL hd 1234 (by decide)]
  exact h
def kB : List Nat := [1232, 1233, 1234, 120037]
def QB (X : tM) (N : NG) (w : (Int32 × tM) ⊕ tM) : Prop := (∃ m s, w = .inr m ∧ Fr kB X m ∧ RSI (nP N) s ∧ RX m N s ∧ mI m 11 0 37 = (-9) ∧ goR N (nL N) r0 = .inl s) ∨ (∃ m l, w = .inl ((-9), m) ∧ Fr kB X m ∧ l < nL N ∧ mI m 11 0 37 = nI l ∧ goR N (nL N) r0 = .inr (some l)) ∨ (∃ m, w = .inl ((-6), m) ∧ Fr kB X m ∧ mI m 11 0 37 = (-9) ∧ goR N (nL N) r0 = .inr none)
set_option maxHeartbeats 1000000 in
theorem m_bl45 {X : tM} {N : NG} (hN : NOK N) (hl : Len X) (hG : Gr X N) (hx : RX X N r0) (h37 : mI X 11 0 37 = (-9)) : Ok (fX11_balance_l45 FU 0 X) (QB X N) := by
  have hb := hN.1
  refine loop0 (fun n i m => fX11_balance_l45 n i m) (nL N) (fun i m => ∃ s, RSI (nP N) s ∧ RX m N s ∧ Fr kB X m ∧ mI m 11 0 37 = (-9) ∧ goR N (nL N) r0 = goR N (nL N - i) s) _ (by omega) ?_ ?_ X ⟨r0, r0_ok _, hx, Fr.refl, h37, rfl⟩
  · rintro n m ⟨s, k1, k2, F, k3, k4⟩
    rw [fX11_balance_l45, F.oI (by decide), hG.1.2, if_pos (nI_le (Nat.le_refl _) (by omega))]
    rw [Nat.sub_self] at k4
    exact ok_some (Or.inl ⟨m, s, rfl, F, k1, k2, k3, k4⟩)
  · rintro n i m hi ⟨s, k1, k2, F, k3, k4⟩ kk
    have hg := hG.2.2.1 i hi
    obtain ⟨f1, f2, -⟩ := hN.2.2.1 i hi
    have bG := sG_le hN hi
    have bT := sT_le hN hi
    obtain ⟨e18, e20⟩ := m_sumG hN (hl.fr F) (hG.fr F (by decide)) hi
    rw [goR_step hi] at k4
    rw [fX11_balance_l45, F.oI (by decide), hG.1.2, if_neg (nI_ge hi (by omega)), F.n, ln1213 hl, chk_nI (by omega) (by omega), bnd_eq, nI_clamp (by omega), F.aI (k := 1213) (by decide), hg.1, F.n, ln1214 hl, chk_nI (by omega) (by omega), bnd_eq, F.aI (k := 1214) (by decide), hg.2.1, e18, Option.bind_some, e20, Option.bind_some]
    have F37 : Fr kB X (sI m 11 0 37 (nI i)) := F.wIo (by decide)
    have bad : stepR N i s = .inr true → Ok (some (Sum.inl (((-9), sI m 11 0 37 (nI i))))) (QB X N) := fun e => by
      rw [e] at k4
      exact ok_some (Or.inr (Or.inl ⟨_, i, rfl, F37, hi, by rw [mI_sI, if_pos ⟨rfl, rfl, rfl⟩], k4⟩))
    have good : stepR N i s = .inl s → Ok (bnd (nI i + 1) fun x => fX11_balance_l45 n x m) (QB X N) := fun e => by
      rw [e] at k4
      rw [bnd_eq, nI_1]
      exact kk m ⟨s, k1, k2, F, k3, k4⟩
    by_cases g0 : sG N i = 0
    · rw [if_pos (by rw [g0]; rfl)]
      by_cases t0 : sT N i = 0
      · rw [if_pos (by rw [t0]; rfl)]
        exact good (if_pos ⟨g0, t0⟩)
      · rw [if_neg (nI_ne0 (by omega) (by omega)), if_pos (show nI (sG N i) ≤ 0 by rw [g0]; decide), Option.bind_some, if_pos rfl, if_pos rfl, if_pos rfl, bnd_eq]
        exact bad ((if_neg (fun q => t0 q.2)).trans (if_pos (Or.inl g0)))
    · rw [if_neg (nI_ne0 (by omega) (by omega)), if_neg (nI_nle (by omega) (by omega))]
      by_cases t0 : sT N i = 0
      · rw [if_pos (show nI (sT N i) ≤ 0 by rw [t0]; decide), Option.bind_some, if_pos rfl, if_pos rfl, if_pos rfl, bnd_eq]
        exact bad ((if_neg (fun q => g0 q.1)).trans (if_pos (Or.inr t0)))
      · have hra := k1.1 _ f1
        have hrb := k1.1 _ f2
        rw [if_neg (nI_nle (by omega) (by omega)), Option.bind_some, if_neg (by decide), F.n, ln1232 hl, chk_nI (by omega) (by omega), chk_nI (by omega) (by omega), nI_clamp (by omega), nI_clamp (by omega), (k2 _ f1).1, (k2 _ f2).1]
        by_cases gr : rg s (nF N i) = rg s (nT N i)
        · rw [if_pos (by rw [gr]), F.n, ln1233 hl, chk_nI (by omega) (by omega), F.n, ln1234 hl, chk_nI (by omega) (by omega), chk_nI (by omega) (by omega), chk_nI (by omega) (by omega), (k2 _ f1).2.1, (k2 _ f1).2.2, (k2 _ f2).2.1, (k2 _ f2).2.2, nI_l (by omega), nI_l (by omega), lN_mul, lN_mul, lN_mul, lN_mul]
          have b1 : ru s (nF N i) * sG N i * rl s (nT N i) ≤ 1000000 * 200 * 1000000 := Nat.mul_le_mul (Nat.mul_le_mul hra.2.2.2.2.1 bG) hrb.2.2.2.2.2.1
          have b2 : ru s (nT N i) * sT N i * rl s (nF N i) ≤ 1000000 * 200 * 1000000 := Nat.mul_le_mul (Nat.mul_le_mul hrb.2.2.2.2.1 bT) hra.2.2.2.2.2.1
          by_cases c : ru s (nF N i) * sG N i * rl s (nT N i) = ru s (nT N i) * sT N i * rl s (nF N i)
          · rw [if_pos ((lcmp_eq (by omega) (by omega)).mpr c), Option.bind_some, if_neg (by decide)]
            exact good ((if_neg (fun q => g0 q.1)).trans ((if_neg (fun q => q.elim g0 t0)).trans ((if_pos gr).trans (if_pos c))))
          · rw [if_neg (fun q => c ((lcmp_eq (by omega) (by omega)).mp q)), Option.bind_some, if_pos rfl, bnd_eq]
            exact bad ((if_neg (fun q => g0 q.1)).trans ((if_neg (fun q => q.elim g0 t0)).trans ((if_pos gr).trans (if_neg c))))
        · rw [if_neg (fun q => gr ((nI_eq (by omega) (by omega)).mp q)), if_neg (by decide)]
          refine ok_call (m_tied hN (hl.fr F) (hG.fr F (by decide)) k1 k2 f1 f2 (by omega) (by omega) bG bT gr) ?_
          rintro ⟨x, m2⟩ ⟨F2, hw⟩
          show Ok (if x = 0 then _ else _) _
          have F3 : Fr kB X m2 := F.step F2 (by decide)
          have h37' : mI m2 11 0 37 = (-9) := (F2.oI (by decide)).trans k3
          rcases hw with ⟨x1, sm, hx2⟩ | ⟨x0, sm⟩
          · have x1 : x = 1 := x1
            subst x1
            have e : stepR N i s = .inl (tieR s (nF N i) (sG N i) (nT N i) (sT N i)) := (if_neg (fun q => g0 q.1)).trans ((if_neg (fun q => q.elim g0 t0)).trans ((if_neg gr).trans (if_pos sm)))
            rw [if_neg (by decide), if_neg (by decide), bnd_eq, nI_1]
            have ok2 := stepR_ok hN hi k1 e
            rw [e] at k4
            exact kk m2 ⟨_, ok2, hx2, F3, h37', k4⟩
          · have x0 : x = 0 := x0
            subst x0
            have e : stepR N i s = .inr false := (if_neg (fun q => g0 q.1)).trans ((if_neg (fun q => q.elim g0 t0)).trans ((if_neg gr).trans (if_neg sm)))
            rw [if_pos rfl]
            rw [e] at k4
            exact ok_some (Or.inr (Or.inr ⟨m2, rfl, F3, h37', k4⟩))
theorem m_bl8 {X : tM} {N : NG} (hN : NOK N) (hl : Len X) (hG : Gr X N) : Ok (fX11_balance_l8 FU 0 X) (fun m => Fr [1232, 1233, 1234] X m ∧ RX m N r0) := by
  have hb := hN.1
  refine loop0 (fun n i m => fX11_balance_l8 n i m) (nP N) (fun i m => Fr [1232, 1233, 1234] X m ∧ ∀ p, p < i → mI m 1232 0 p = nI p ∧ mL m 1233 0 p = 1 ∧ mL m 1234 0 p = 1) _ (by omega) ?_ ?_ X ⟨Fr.refl, fun p hp => by omega⟩
  · rintro n m ⟨F, h⟩
    rw [fX11_balance_l8, F.oI (by decide), hG.1.1, if_pos (nI_le (Nat.le_refl _) (by omega))]
    exact ok_some ⟨F, h⟩
  · rintro n i m hi ⟨F, h⟩ kk
    rw [fX11_balance_l8, F.oI (by decide), hG.1.1, if_neg (nI_ge hi (by omega)), F.n, ln1232 hl, chk_nI (by omega) (by omega), bnd_eq, nI_clamp (by omega), mN_sI, F.n, ln1233 hl, chk_nI (by omega) (by omega), bnd_eq, mN_sL, mN_sI, F.n, ln1234 hl, chk_nI (by omega) (by omega), bnd_eq, bnd_eq, nI_1]
    refine kk _ ⟨((F.wI (by decide)).wL (by decide)).wL (by decide), fun p hp => ?_⟩
    by_cases e : p = i
    · subst e; simp [mI_sI, mI_sL, mL_sL, mL_sI]
    · have := h p (by omega)
      simp [mI_sI, mI_sL, mL_sL, mL_sI, e, this]
theorem lcm_step {s : RS} {g : Nat} {i : Nat} : lcmTo s g i ∣ lcmTo s g (i + 1) := by
  rw [lcmTo]
  split
  · exact Nat.dvd_lcm_left _ _
  · exact Nat.dvd_refl _
theorem lcm_mono {s : RS} {g : Nat} {n : Nat} (h : ∀ p, p < n → 0 < rl s p) : ∀ d i, n = i + d → lcmTo s g i ≤ lcmTo s g n := by
  intro d
  induction d with
  | zero => intro i e; rw [show n = i by omega]; exact Nat.le_refl _
  | succ d ih =>
    intro i e
    have h1 := ih (i + 1) (by omega)
    have h2 := Nat.le_of_dvd (lcmTo_pos (s := s) (g := g) (n := i + 1) (fun p hp => h p (by omega))) (lcm_step (s := s) (g := g) (i := i))
    omega
def LQ (s : RS) (g n : Nat) (v : Int64) : Prop := (lcmTo s g n ≤ 1000 ∧ v = lN (lcmTo s g n)) ∨ (1000 < lcmTo s g n ∧ ∃ c, 1000 < c ∧ c < 2 ^ 62 ∧ v = lN c)
theorem lcm_way {a b : Nat} : a / Nat.gcd a b * b = Nat.lcm a b := by
  rw [Nat.lcm, Nat.div_mul_right_comm (Nat.gcd_dvd_left a b)]
theorem m_l22 {X : tM} {N : NG} {s : RS} {p : Nat} (hN : NOK N) (hl : Len X) (hG : Gr X N) (h : RSI (nP N) s) (hx : RX X N s) (hp : p < nP N) (y : Int32) : Ok (fX11_counts_l22 y (nI p) X FU 1 0) (LQ s (rg s p) (nP N)) := by
  have hb := hN.1
  have hpos : ∀ q, q < nP N → 0 < rl s q := fun q hq => (h.1 q hq).2.2.2.1
  refine loop0 (fun n i v => fX11_counts_l22 y (nI p) X n v i) (nP N) (fun i v => v = lN (lcmTo s (rg s p) i) ∧ lcmTo s (rg s p) i ≤ 1000000000) _ (by omega) ?_ ?_ 1 ⟨rfl, show 1 ≤ 1000000000 by omega⟩
  · rintro n v ⟨hv, hv2⟩
    rw [fX11_counts_l22, hG.1.1, if_pos (nI_le (Nat.le_refl _) (by omega))]
    refine ok_some ?_
    by_cases c : lcmTo s (rg s p) (nP N) ≤ 1000
    · exact Or.inl ⟨c, hv⟩
    · exact Or.inr ⟨by omega, _, by omega, by omega, hv⟩
  · rintro n i v hi ⟨rfl, hv2⟩ kk
    have hm := lcm_mono (s := s) (g := rg s p) hpos (nP N - i) i (by omega)
    have r1 := (h.1 i hi).1
    have r2 := (h.1 p hp).1
    rw [fX11_counts_l22, hG.1.1, if_neg (nI_ge hi (by omega))]
    by_cases c : 1000 < lcmTo s (rg s p) i
    · rw [if_gt (x := 1000) (k := 1000) rfl (by omega) (by omega) c]
      exact ok_some (Or.inr ⟨by omega, _, c, by omega, rfl⟩)
    · rw [if_ngt (x := 1000) (k := 1000) rfl (by omega) (by omega) (Nat.le_of_not_lt c), ln1232 hl, chk_nI (by omega) (by omega), chk_nI (by omega) (by omega), nI_clamp (by omega), nI_clamp (by omega), (hx i hi).1, (hx p hp).1]
      have lp := lcmTo_pos (s := s) (g := rg s p) (n := i) (fun q hq => hpos q (by omega))
      have rb := (h.1 i hi).2.2.2.2.2.1
      by_cases e : rg s i = rg s p
      · have g1 := Nat.gcd_pos_of_pos_left (rl s i) lp
        have g2 := Nat.le_of_dvd lp (Nat.gcd_dvd_left (lcmTo s (rg s p) i) (rl s i))
        rw [if_pos (by rw [e]), ln1234 hl, chk_nI (by omega) (by omega), (hx i hi).2.2, m_gcd (by omega) (by omega), Option.bind_some, chk_tr (nz_lN g1 (by omega)), chk_nI (by omega) (by omega), lN_div2 (by omega) (by omega), lN_mul, Option.bind_some, bnd_eq, nI_1, lcm_way]
        have el : lcmTo s (rg s p) (i + 1) = Nat.lcm (lcmTo s (rg s p) i) (rl s i) := by rw [lcmTo, if_pos e]
        refine kk _ ⟨by rw [el], ?_⟩
        rw [el, ← lcm_way]
        have h1 := Nat.div_le_self (lcmTo s (rg s p) i) (Nat.gcd (lcmTo s (rg s p) i) (rl s i))
        calc _ ≤ 1000 * 1000000 := Nat.mul_le_mul (by omega) rb
          _ = 1000000000 := by decide
      · rw [if_neg (fun q => e ((nI_eq (by omega) (by omega)).mp q)), Option.bind_some, bnd_eq, nI_1]
        have el : lcmTo s (rg s p) (i + 1) = lcmTo s (rg s p) i := by rw [lcmTo, if_neg e]
        exact kk _ ⟨by rw [el], by rw [el]; exact hv2⟩
def okF (N : NG) (s : RS) (p : Nat) : Prop := lcmTo s (rg s p) (nP N) ≤ 1000 ∧ fir N s p ≤ 1000
theorem sum_le1000 {f : Nat → Nat} : ∀ {n : Nat}, (∀ i, i < n → f i ≤ 1000) → sumTo f n ≤ 1000 * n
  | 0, _ => Nat.le_refl _
  | n + 1, h => by
    have := sum_le1000 (f := f) (n := n) (fun i hi => h i (by omega))
    have := h n (by omega)
    rw [sumTo]; omega
theorem m_counts {X : tM} {N : NG} {s : RS} (hN : NOK N) (hl : Len X) (hG : Gr X N) (h : RSI (nP N) s) (hx : RX X N s) : Ok (fX11_counts X) (fun w => Fr [1235, 120036] X w.2 ∧ ((w.1 = 1 ∧ cntOK N s ∧ mI w.2 11 0 36 = nI (sumTo (fir N s) (nP N)) ∧ ∀ p, p < nP N → mI w.2 1235 0 p = nI (fir N s p)) ∨ (w.1 = (-6) ∧ ¬ cntOK N s))) := by
  have hb := hN.1
  rw [fX11_counts, bnd_eq]
  have F0 : Fr [1235, 120036] X (sI X 11 0 36 0) := Fr.refl.wIo (by decide)
  refine ok_call (P := fun w => Fr [1235, 120036] X w.2 ∧ ((w.1 = 1 ∧ (∀ q, q < nP N → okF N s q) ∧ mI w.2 11 0 36 = nI (sumTo (fir N s) (nP N)) ∧ ∀ q, q < nP N → mI w.2 1235 0 q = nI (fir N s q)) ∨ (w.1 = 0 ∧ ∃ q, q < nP N ∧ ¬ okF N s q))) ?_ ?_
  · refine loop0 (fun n i (c : Int32 × tM) => fX11_counts_l9 n c.1 i c.2) (nP N) (fun i w => Fr [1235, 120036] X w.2 ∧ ((w.1 = 1 ∧ (∀ q, q < i → okF N s q) ∧ mI w.2 11 0 36 = nI (sumTo (fir N s) i) ∧ ∀ q, q < i → mI w.2 1235 0 q = nI (fir N s q)) ∨ (w.1 = 0 ∧ ∃ q, q < nP N ∧ ¬ okF N s q))) _ (by omega) ?_ ?_ (1, sI X 11 0 36 0) ⟨F0, Or.inl ⟨rfl, fun q hq => by omega, by show mI (sI X 11 0 36 0) 11 0 36 = _; rw [mI_sI, if_pos ⟨rfl, rfl, rfl⟩]; rfl, fun q hq => by omega⟩⟩
    · rintro n ⟨y, m⟩ ⟨F, hw⟩
      have F : Fr [1235, 120036] X m := F
      show Ok (fX11_counts_l9 (n + 1) y (nI (nP N)) m) _
      rw [fX11_counts_l9, F.oI (by decide), hG.1.1, if_pos (nI_le (Nat.le_refl _) (by omega))]
      exact ok_some ⟨F, hw⟩
    · rintro n i ⟨y, m⟩ hi ⟨F, hw⟩ kk
      have F : Fr [1235, 120036] X m := F
      show Ok (fX11_counts_l9 (n + 1) y (nI i) m) _
      have hxm := hx.fr F (by decide)
      obtain ⟨-, -, i3, i4, i5, i6, -⟩ := h.1 i hi
      obtain ⟨-, hh1, hh2, -⟩ := hN.2.1 i hi
      rw [fX11_counts_l9, F.oI (by decide), hG.1.1, if_neg (nI_ge hi (by omega))]
      refine ok_call (m_l22 hN (hl.fr F) (hG.fr F (by decide)) h hxm hi y) ?_
      rintro v hv
      refine ok_call (P := fun x18 => (okF N s i ∧ x18 = lN (fir N s i)) ∨ (¬ okF N s i ∧ 0 < lg_cmp x18 1000)) ?_ ?_
      · rcases hv with ⟨c, rfl⟩ | ⟨c, c', hc, hc2, rfl⟩
        · rw [if_ngt (x := 1000) (k := 1000) rfl (by omega) (by omega) c, F.n, ln1233 hl, chk_nI (by omega) (by omega), F.n, ln1234 hl, chk_nI (by omega) (by omega), nI_clamp (by omega), (hxm i hi).2.1, (hxm i hi).2.2, chk_tr (nz_lN i4 (by omega)), F.n, ln1205 hl, chk_nI (by omega) (by omega), F.aI (by decide), (hG.2.1 i hi).2, nI_l (by omega), lN_mul]
          have m1 : lcmTo s (rg s i) (nP N) * ru s i ≤ 1000 * 1000000 := Nat.mul_le_mul c i5
          have m2 := Nat.div_le_self (lcmTo s (rg s i) (nP N) * ru s i) (rl s i)
          have m3 : lcmTo s (rg s i) (nP N) * ru s i / rl s i * nH N i ≤ 1000000000 * 4 := Nat.mul_le_mul (by omega) hh2
          rw [lN_div2 (by omega) (by omega), lN_mul]
          have ef : lcmTo s (rg s i) (nP N) * ru s i / rl s i * nH N i = fir N s i := rfl
          rw [ef] at m3 ⊢
          by_cases q : fir N s i ≤ 1000
          · exact ok_some (Or.inl ⟨⟨c, q⟩, rfl⟩)
          · exact ok_some (Or.inr ⟨fun z => q z.2, (lcmp_gt (b := 1000) (by omega) (by omega)).mpr (by omega)⟩)
        · rw [if_gt (x := 1000) (k := 1000) rfl (by omega) (by omega) hc]
          exact ok_some (Or.inr ⟨fun z => by have := z.1; omega, by decide⟩)
      · rintro x18 h18
        refine ok_call (P := fun x23 => (x23 = 1 ∧ y = 1 ∧ okF N s i) ∨ (x23 = 0 ∧ ∃ q, q < nP N ∧ ¬ okF N s q)) ?_ ?_
        · rcases hw with ⟨y1, -⟩ | ⟨y0, hw⟩
          · have y1 : y = 1 := y1
            subst y1
            rw [if_neg (by decide)]
            rcases h18 with ⟨c, rfl⟩ | ⟨c, c2⟩
            · have := c.2
              rw [if_ngt (x := 1000) (k := 1000) rfl (by omega) (by omega) c.2]
              exact ok_some (Or.inl ⟨rfl, rfl, c⟩)
            · rw [if_pos c2]
              exact ok_some (Or.inr ⟨rfl, i, hi, c⟩)
          · have y0 : y = 0 := y0
            subst y0
            rw [if_pos rfl]
            exact ok_some (Or.inr ⟨rfl, hw⟩)
        · rintro x23 h23
          rcases h23 with ⟨rfl, y1, c⟩ | ⟨rfl, h23⟩
          · rcases h18 with ⟨-, rfl⟩ | ⟨c', -⟩
            rotate_left
            · exact absurd c c'
            rcases hw with ⟨-, w1, w2, w3⟩ | ⟨y0, -⟩
            rotate_left
            · have y0 : y = 0 := y0
              rw [y1] at y0; exact absurd y0 (by decide)
            have w2 : mI m 11 0 36 = nI (sumTo (fir N s) i) := w2
            have c2 := c.2
            rw [if_neg (by decide), Option.bind_some, lN_i, F.n, ln1235 hl, chk_nI (by omega) (by omega), bnd_eq, nI_clamp (by omega), mN_sI, F.n, ln1235 hl, chk_nI (by omega) (by omega), bnd_eq, bnd_eq, nI_1, mI_sI, if_neg (by simp), mI_sI, if_pos ⟨rfl, rfl, rfl⟩, w2, nI_add]
            refine kk (1, _) ⟨(F.wI (by decide)).wIo (by decide), Or.inl ⟨rfl, fun q hq => ?_, ?_, fun q hq => ?_⟩⟩
            · by_cases e : q = i
              · rw [e]; exact c
              · exact w1 q (by omega)
            · show mI (sI _ 11 0 36 _) 11 0 36 = _
              rw [mI_sI, if_pos ⟨rfl, rfl, rfl⟩, sumTo]
            · show mI (sI (sI m 1235 0 i _) 11 0 36 _) 1235 0 q = _
              rw [mI_sI, if_neg (by simp), mI_sI]
              by_cases e : q = i
              · rw [if_pos ⟨rfl, rfl, e⟩, e]
              · rw [if_neg (fun z => e z.2.2)]; exact w3 q (by omega)
          · rw [if_pos rfl, Option.bind_some, F.n, ln1235 hl, chk_nI (by omega) (by omega), bnd_eq, nI_clamp (by omega), mN_sI, F.n, ln1235 hl, chk_nI (by omega) (by omega), bnd_eq, bnd_eq, nI_1]
            exact kk (0, _) ⟨(F.wI (by decide)).wIo (by decide), Or.inr ⟨rfl, h23⟩⟩
  · rintro ⟨y, m⟩ ⟨F, hw⟩
    show Ok (if y = 0 then _ else _) _
    rcases hw with ⟨y1, w1, w2, w3⟩ | ⟨y0, q, hq, hw⟩
    · have y1 : y = 1 := y1
      have w2 : mI m 11 0 36 = nI (sumTo (fir N s) (nP N)) := w2
      subst y1
      have hs := sum_le1000 (f := fir N s) (n := nP N) (fun q hq => (w1 q hq).2)
      rw [if_neg (by decide), w2]
      by_cases c : sumTo (fir N s) (nP N) ≤ 2000
      · rw [if_neg (show ¬ (2000 : Int32) < nI _ from nI_nlt (a := 2000) c (by omega))]
        exact ok_some ⟨F, Or.inl ⟨rfl, ⟨w1, c⟩, w2, w3⟩⟩
      · rw [if_pos (show (2000 : Int32) < nI _ from nI_lt (a := 2000) (by omega) (by omega))]
        exact ok_some ⟨F, Or.inr ⟨rfl, fun z => c z.2⟩⟩
    · have y0 : y = 0 := y0
      subst y0
      rw [if_pos rfl]
      exact ok_some ⟨F, Or.inr ⟨rfl, fun z => hw (z.1 q hq)⟩⟩
def kBal : List Nat := [1232, 1233, 1234, 1235, 120036, 120037]
def QBal (N : NG) (w : Int32 × tM) : Prop := (∃ R, rndOf N = .inl R ∧ w.1 = 1 ∧ mI w.2 11 0 37 = (-9) ∧ mI w.2 11 0 36 = nI (sumTo R (nP N)) ∧ ∀ p, p < nP N → mI w.2 1235 0 p = nI (R p)) ∨ (∃ l, l < nL N ∧ rndOf N = .inr (some l) ∧ w.1 = (-9) ∧ mI w.2 11 0 37 = nI l) ∨ (rndOf N = .inr none ∧ w.1 = (-6) ∧ mI w.2 11 0 37 = (-9))
theorem m_bal {X : tM} {N : NG} (hN : NOK N) (hl : Len X) (hG : Gr X N) : Ok (fX11_balance X) (fun w => Fr kBal X w.2 ∧ QBal N w) := by
  rw [fX11_balance, bnd_eq]
  have F0 : Fr [120037] X (sI X 11 0 37 (-9)) := Fr.refl.wIo (by decide)
  have h37 : mI (sI X 11 0 37 (-9)) 11 0 37 = (-9) := by rw [mI_sI, if_pos ⟨rfl, rfl, rfl⟩]
  generalize sI X 11 0 37 (-9) = X1 at *
  refine ok_call (m_bl8 hN (hl.fr F0) (hG.fr F0 (by decide))) ?_
  rintro X2 ⟨F1, hx⟩
  have F2 : Fr kB X X2 := (F0.mono (by decide)).step F1 (by decide)
  refine ok_call (m_bl45 hN (hl.fr F2) (hG.fr F2 (by decide)) hx ((F1.oI (by decide)).trans h37)) ?_
  rintro w hw
  rcases hw with ⟨m, s, rfl, F3, k1, k2, k3, k4⟩ | ⟨m, l, rfl, F3, k1, k2, k3⟩ | ⟨m, rfl, F3, k1, k2⟩
  · have F4 : Fr kB X m := F2.step F3 (by decide)
    show Ok ((fX11_counts m).bind _) _
    refine ok_call (m_counts hN (hl.fr F4) (hG.fr F4 (by decide)) k1 k2) ?_
    rintro ⟨x, m2⟩ ⟨F5, hw⟩
    have F5 : Fr [1235, 120036] m m2 := F5
    have h7 : mI m2 11 0 37 = (-9) := (F5.oI (by decide)).trans k3
    refine ok_some ⟨(F4.mono (by decide)).step F5 (by decide), ?_⟩
    rcases hw with ⟨x1, c, c1, c2⟩ | ⟨x6, c⟩
    · refine Or.inl ⟨fir N s, ?_, x1, h7, c1, c2⟩
      rw [rndOf, k4]; exact if_pos c
    · refine Or.inr (Or.inr ⟨?_, x6, h7⟩)
      rw [rndOf, k4]; exact if_neg c
  · refine ok_some ⟨(F2.step F3 (by decide)).mono (by decide), Or.inr (Or.inl ⟨l, k1, ?_, rfl, k2⟩)⟩
    rw [rndOf, k3]
  · refine ok_some ⟨(F2.step F3 (by decide)).mono (by decide), Or.inr (Or.inr ⟨?_, rfl, k1⟩)⟩
    rw [rndOf, k2]
