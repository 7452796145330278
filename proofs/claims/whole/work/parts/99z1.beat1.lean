/-! beat: what a ROUND gives it also takes -/
def balL (N : NG) (s : RS) (l : Nat) : Prop := (sG N l = 0 ∧ sT N l = 0) ∨ (0 < sG N l ∧ 0 < sT N l ∧ rg s (nF N l) = rg s (nT N l) ∧ ru s (nF N l) * sG N l * rl s (nT N l) = ru s (nT N l) * sT N l * rl s (nF N l))
theorem bal_alg {uF lF uT lT u'F l'F u'T l'T X Y g t : Nat} (hlF : 0 < lF) (huT : 0 < uT) (hX : 0 < X) (hY : 0 < Y) (h : uF * g * lT = uT * t * lF) (e1 : u'F * (lF * Y) = uF * X * l'F) (e2 : u'T * (lT * Y) = uT * X * l'T) : u'F * g * l'T = u'T * t * l'F := by
  refine Nat.eq_of_mul_eq_mul_right (Nat.mul_pos (Nat.mul_pos hlF hY) (Nat.mul_pos huT hX)) ?_
  calc u'F * g * l'T * (lF * Y * (uT * X)) = (u'F * (lF * Y)) * g * (uT * X * l'T) := by ac_rfl
    _ = (uF * X * l'F) * g * (u'T * (lT * Y)) := by rw [e1, e2]
    _ = (uF * g * lT) * (X * Y * l'F * u'T) := by ac_rfl
    _ = (uT * t * lF) * (X * Y * l'F * u'T) := by rw [h]
    _ = u'T * t * l'F * (lF * Y * (uT * X)) := by ac_rfl
theorem bal_new {uF lF uT lT u'T l'T g t : Nat} (huT : 0 < uT) (hlT : 0 < lT) (e : u'T * (lT * (lF * t * uT)) = uT * (uF * g * lT) * l'T) : uF * g * l'T = u'T * t * lF := by
  refine Nat.eq_of_mul_eq_mul_right (Nat.mul_pos huT hlT) ?_
  calc uF * g * l'T * (uT * lT) = uT * (uF * g * lT) * l'T := by ac_rfl
    _ = u'T * (lT * (lF * t * uT)) := e.symm
    _ = u'T * t * lF * (uT * lT) := by ac_rfl
theorem bal_step {N : NG} (hN : NOK N) {l : Nat} (hl : l < nL N) {s s' : RS} (h : RSI (nP N) s) (hB : ∀ k, k < l → balL N s k) (hs : stepR N l s = .inl s') : ∀ k, k < l + 1 → balL N s' k := by
  have hb := hN.2.2.1 l hl
  intro k hk
  unfold stepR at hs
  split at hs
  · rename_i h0
    cases hs
    by_cases e : k = l
    · rw [e]; exact Or.inl h0
    · exact hB k (by omega)
  · split at hs
    · cases hs
    · rename_i h1 h2
      have g1 : 0 < sG N l := by omega
      have g2 : 0 < sT N l := by omega
      split at hs
      · rename_i h3
        split at hs
        · rename_i h4
          cases hs
          by_cases e : k = l
          · rw [e]; exact Or.inr ⟨g1, g2, h3, h4⟩
          · exact hB k (by omega)
        · cases hs
      · rename_i h3
        by_cases q : smalls (nP N) (tieR s (nF N l) (sG N l) (nT N l) (sT N l))
        · rw [if_pos q] at hs
          cases hs
          obtain ⟨hX, hY⟩ := tie_pos h hb.1 hb.2.1 g1 g2
          by_cases e : k = l
          · subst e
            refine Or.inr ⟨g1, g2, ?_, ?_⟩
            · show (if rg s (nF N k) = rg s (nT N k) then _ else rg s (nF N k)) = (if rg s (nT N k) = rg s (nT N k) then rg s (nF N k) else _)
              rw [if_neg h3, if_pos rfl]
            · show (if rg s (nF N k) = rg s (nT N k) then _ else ru s (nF N k)) * sG N k * (if rg s (nT N k) = rg s (nT N k) then red (rl s (nT N k) * tieY s (nF N k) (sT N k) (nT N k)) (ru s (nT N k) * tieX s (nF N k) (sG N k) (nT N k)) else _) = (if rg s (nT N k) = rg s (nT N k) then red (ru s (nT N k) * tieX s (nF N k) (sG N k) (nT N k)) (rl s (nT N k) * tieY s (nF N k) (sT N k) (nT N k)) else _) * sT N k * (if rg s (nF N k) = rg s (nT N k) then _ else rl s (nF N k))
              rw [if_neg h3, if_pos rfl, if_pos rfl, if_neg h3]
              have p2 := h.1 _ hb.2.1
              exact bal_new p2.2.2.1 p2.2.2.2.1 (red_cross _ _)
          · rcases hB k (by omega) with z | ⟨z1, z2, z3, z4⟩
            · exact Or.inl z
            · have hbk := hN.2.2.1 k (by omega)
              refine Or.inr ⟨z1, z2, ?_, ?_⟩
              · show (if rg s (nF N k) = rg s (nT N l) then rg s (nF N l) else rg s (nF N k)) = (if rg s (nT N k) = rg s (nT N l) then rg s (nF N l) else rg s (nT N k))
                rw [z3]
              · show (if rg s (nF N k) = rg s (nT N l) then red (ru s (nF N k) * tieX s (nF N l) (sG N l) (nT N l)) (rl s (nF N k) * tieY s (nF N l) (sT N l) (nT N l)) else ru s (nF N k)) * sG N k * (if rg s (nT N k) = rg s (nT N l) then red (rl s (nT N k) * tieY s (nF N l) (sT N l) (nT N l)) (ru s (nT N k) * tieX s (nF N l) (sG N l) (nT N l)) else rl s (nT N k)) = (if rg s (nT N k) = rg s (nT N l) then red (ru s (nT N k) * tieX s (nF N l) (sG N l) (nT N l)) (rl s (nT N k) * tieY s (nF N l) (sT N l) (nT N l)) else ru s (nT N k)) * sT N k * (if rg s (nF N k) = rg s (nT N l) then red (rl s (nF N k) * tieY s (nF N l) (sT N l) (nT N l)) (ru s (nF N k) * tieX s (nF N l) (sG N l) (nT N l)) else rl s (nF N k))
                by_cases c : rg s (nT N k) = rg s (nT N l)
                · rw [z3, if_pos c, if_pos c, if_pos c, if_pos c]
                  have p1 := h.1 _ hbk.1
                  have p2 := h.1 _ hbk.2.1
                  exact bal_alg p1.2.2.2.1 p2.2.2.1 hX hY z4 (red_cross _ _) (red_cross _ _)
                · rw [z3, if_neg c, if_neg c, if_neg c, if_neg c]; exact z4
        · rw [if_neg q] at hs
          cases hs
theorem bal_go {N : NG} (hN : NOK N) : ∀ d s s', d ≤ nL N → RSI (nP N) s → (∀ k, k < nL N - d → balL N s k) → goR N d s = .inl s' → ∀ k, k < nL N → balL N s' k := by
  intro d
  induction d with
  | zero => intro s s' _ h hB e; cases e; exact fun k hk => hB k (by omega)
  | succ d ih =>
    intro s s' hd h hB e
    have e2 := goR_step (N := N) (i := nL N - (d + 1)) (s := s) (by omega)
    rw [show nL N - (nL N - (d + 1)) = d + 1 by omega, e, show nL N - (nL N - (d + 1) + 1) = d by omega] at e2
    cases hs : stepR N (nL N - (d + 1)) s with
    | inl t =>
      rw [hs] at e2
      have hk := bal_step hN (by omega) h hB hs
      exact ih t s' (by omega) (stepR_ok hN (by omega) h hs) (fun k h => hk k (by omega)) e2.symm
    | inr b =>
      rw [hs] at e2
      cases b <;> cases e2
theorem gsum_add (f : Nat → Nat) (h a : Nat) (hh : 0 < h) : ∀ n, gsum f h (h * a + n) = gsum f h (h * a) + gsum f h n := by
  intro n
  induction n with
  | zero => rfl
  | succ n ih =>
    show gsum f h (h * a + n) + f ((h * a + n) % h) = gsum f h (h * a) + (gsum f h n + f (n % h))
    rw [ih, Nat.mul_add_mod]; omega
theorem gsum_sum (f : Nat → Nat) (h : Nat) : ∀ n, n ≤ h → gsum f h n = sumTo f n := by
  intro n
  induction n with
  | zero => intro _; rfl
  | succ n ih =>
    intro hn
    show gsum f h n + f (n % h) = sumTo f n + f n
    rw [ih (by omega), Nat.mod_eq_of_lt (by omega)]
theorem gsum_mul (f : Nat → Nat) (h : Nat) (hh : 0 < h) : ∀ a, gsum f h (h * a) = a * sumTo f h := by
  intro a
  induction a with
  | zero => rw [Nat.mul_zero, Nat.zero_mul]; rfl
  | succ a ih => rw [Nat.mul_succ, gsum_add f h a hh, ih, gsum_sum f h h (Nat.le_refl _), Nat.succ_mul]
/-- FIRINGS by whole phases, as many things given as taken -/
def RBal (N : NG) (R : Nat → Nat) : Prop := (∀ p, p < nP N → R p = nH N p * (R p / nH N p)) ∧ ∀ l, l < nL N → gN N l (R (nF N l)) = tN N l (R (nT N l)) ∧ gN N l (R (nF N l)) = R (nF N l) / nH N (nF N l) * sG N l
theorem rnd_bal {N : NG} {R : Nat → Nat} (hN : NOK N) (h : rndOf N = .inl R) : RBal N R := by
  unfold rndOf at h
  split at h
  · rename_i s hs
    by_cases q : cntOK N s
    · rw [if_pos q] at h
      cases h
      have hr := goR_ok hN _ _ _ (Nat.le_refl _) (r0_ok _) hs
      have hbal := bal_go hN _ _ _ (Nat.le_refl _) (r0_ok _) (fun k hk => by omega) hs
      have hH : ∀ p, p < nP N → 0 < nH N p := fun p hp => (hN.2.1 p hp).2.1
      have hq : ∀ p, p < nP N → fir N s p / nH N p = lcmTo s (rg s p) (nP N) * ru s p / rl s p := fun p hp => Nat.mul_div_cancel _ (hH p hp)
      have hm : ∀ p, p < nP N → fir N s p = nH N p * (fir N s p / nH N p) := fun p hp => by
        rw [hq p hp, Nat.mul_comm]; rfl
      have hG : ∀ l, l < nL N → gN N l (fir N s (nF N l)) = fir N s (nF N l) / nH N (nF N l) * sG N l := fun l hl => by
        have hb := hN.2.2.1 l hl
        have e := gsum_mul (nG N l) (nH N (nF N l)) (hH _ hb.1) (fir N s (nF N l) / nH N (nF N l))
        rw [← hm _ hb.1] at e
        exact e
      have hT : ∀ l, l < nL N → tN N l (fir N s (nT N l)) = fir N s (nT N l) / nH N (nT N l) * sT N l := fun l hl => by
        have hb := hN.2.2.1 l hl
        have e := gsum_mul (nK N l) (nH N (nT N l)) (hH _ hb.2.1) (fir N s (nT N l) / nH N (nT N l))
        rw [← hm _ hb.2.1] at e
        exact e
      refine ⟨hm, fun l hl => ⟨?_, hG l hl⟩⟩
      have hb := hN.2.2.1 l hl
      rw [hG l hl, hT l hl, hq _ hb.1, hq _ hb.2.1]
      rcases hbal l hl with ⟨z1, z2⟩ | ⟨z1, z2, z3, z4⟩
      · rw [z1, z2, Nat.mul_zero, Nat.mul_zero]
      · rw [z3]
        obtain ⟨-, -, -, f4, -⟩ := hr.1 _ hb.1
        obtain ⟨-, -, -, t4, -⟩ := hr.1 _ hb.2.1
        have dF := lcmTo_dvd (s := s) (g := rg s (nT N l)) (n := nP N) hb.1 z3
        have dT := lcmTo_dvd (s := s) (g := rg s (nT N l)) (n := nP N) hb.2.1 rfl
        generalize lcmTo s (rg s (nT N l)) (nP N) = L at *
        have aF : L * ru s (nF N l) / rl s (nF N l) * rl s (nF N l) = L * ru s (nF N l) := Nat.div_mul_cancel (Nat.dvd_trans dF (Nat.dvd_mul_right _ _))
        have aT : L * ru s (nT N l) / rl s (nT N l) * rl s (nT N l) = L * ru s (nT N l) := Nat.div_mul_cancel (Nat.dvd_trans dT (Nat.dvd_mul_right _ _))
        generalize L * ru s (nF N l) / rl s (nF N l) = a at *
        generalize L * ru s (nT N l) / rl s (nT N l) = b at *
        refine Nat.eq_of_mul_eq_mul_right (Nat.mul_pos f4 t4) ?_
        calc a * sG N l * (rl s (nF N l) * rl s (nT N l)) = (a * rl s (nF N l)) * sG N l * rl s (nT N l) := by ac_rfl
          _ = L * ru s (nF N l) * sG N l * rl s (nT N l) := by rw [aF]
          _ = L * (ru s (nF N l) * sG N l * rl s (nT N l)) := by ac_rfl
          _ = L * (ru s (nT N l) * sT N l * rl s (nF N l)) := by rw [z4]
          _ = (L * ru s (nT N l)) * sT N l * rl s (nF N l) := by ac_rfl
          _ = (b * rl s (nT N l)) * sT N l * rl s (nF N l) := by rw [aT]
          _ = b * sT N l * (rl s (nF N l) * rl s (nT N l)) := by ac_rfl
    · rw [if_neg q] at h; cases h
  · cases h
