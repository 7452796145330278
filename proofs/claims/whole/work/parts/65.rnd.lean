/-! PROPORTIONS in lowest terms -/
def red (x y : Nat) : Nat := x / Nat.gcd x y
theorem red_pos {x y : Nat} (hx : 0 < x) : 0 < red x y := Nat.div_pos (Nat.le_of_dvd hx (Nat.gcd_dvd_left x y)) (Nat.gcd_pos_of_pos_left y hx)
theorem red_mul (x y : Nat) : red x y * Nat.gcd x y = x := Nat.div_mul_cancel (Nat.gcd_dvd_left x y)
theorem red_mul' (x y : Nat) : red y x * Nat.gcd x y = y := by
  unfold red
  rw [Nat.gcd_comm y x]
  exact Nat.div_mul_cancel (Nat.gcd_dvd_right x y)
theorem red_cop {x y : Nat} (hx : 0 < x) : Nat.Coprime (red x y) (red y x) := by
  unfold red
  rw [Nat.gcd_comm y x]
  exact Nat.coprime_div_gcd_div_gcd (Nat.gcd_pos_of_pos_left y hx)
theorem red_cross (x y : Nat) : red x y * y = x * red y x := by
  have h1 := red_mul x y
  have h2 := red_mul' x y
  calc red x y * y = red x y * (red y x * Nat.gcd x y) := by rw [h2]
    _ = (red x y * Nat.gcd x y) * red y x := by ac_rfl
    _ = x * red y x := by rw [h1]
theorem red_uniq {x y a b : Nat} (hx : 0 < x) (hc : Nat.Coprime a b) (h : a * y = x * b) : a = red x y ∧ b = red y x := by
  have hg : 0 < Nat.gcd x y := Nat.gcd_pos_of_pos_left y hx
  have e : a * red y x = red x y * b := by
    refine Nat.eq_of_mul_eq_mul_right hg ?_
    calc a * red y x * Nat.gcd x y = a * (red y x * Nat.gcd x y) := Nat.mul_assoc _ _ _
      _ = a * y := by rw [red_mul']
      _ = x * b := h
      _ = red x y * Nat.gcd x y * b := by rw [red_mul]
      _ = red x y * b * Nat.gcd x y := by ac_rfl
  have hcop := red_cop (y := y) hx
  have d1 : a ∣ red x y := hc.dvd_of_dvd_mul_right (e ▸ Nat.dvd_mul_right a (red y x))
  have d2 : red x y ∣ a := hcop.dvd_of_dvd_mul_right (e ▸ Nat.dvd_mul_right (red x y) b)
  have ha := Nat.dvd_antisymm d1 d2
  refine ⟨ha, ?_⟩
  rw [ha] at e
  exact (Nat.eq_of_mul_eq_mul_left (red_pos hx) e).symm
theorem red_congr {x y x' y' : Nat} (hx : 0 < x) (hy : 0 < y) (hx' : 0 < x') (h : x * y' = x' * y) : red x y = red x' y' ∧ red y x = red y' x' := by
  refine red_uniq hx' (red_cop hx) (Nat.eq_of_mul_eq_mul_right hy ?_)
  calc red x y * y' * y = (red x y * y) * y' := by ac_rfl
    _ = x * red y x * y' := by rw [red_cross]
    _ = (x * y') * red y x := by ac_rfl
    _ = x' * y * red y x := by rw [h]
    _ = x' * red y x * y := by ac_rfl
theorem red_one {x y : Nat} (hx : 0 < x) (hc : Nat.Coprime x y) : red x y = x ∧ red y x = y := by
  have := red_uniq (y := y) hx hc (Nat.mul_comm x y ▸ (Nat.mul_comm y x).symm ▸ rfl)
  exact ⟨this.1.symm, this.2.symm⟩
/-- groups, proportions to the group's own PART: upper, lower -/
abbrev RS : Type := (Nat → Nat) × (Nat → Nat) × (Nat → Nat)
def rg (s : RS) : Nat → Nat := s.1
def ru (s : RS) : Nat → Nat := s.2.1
def rl (s : RS) : Nat → Nat := s.2.2
def r0 : RS := (fun p => p, fun _ => 1, fun _ => 1)
def RSI (P : Nat) (s : RS) : Prop := (∀ p, p < P → rg s p < P ∧ rg s (rg s p) = rg s p ∧ 0 < ru s p ∧ 0 < rl s p ∧ ru s p ≤ 1000000 ∧ rl s p ≤ 1000000 ∧ Nat.Coprime (ru s p) (rl s p) ∧ ru s (rg s p) = 1 ∧ rl s (rg s p) = 1) ∧
  ∀ p q, p < P → q < P → rg s p = rg s q → red (ru s p * rl s q) (rl s p * ru s q) ≤ 1000000
theorem r0_ok (P : Nat) : RSI P r0 := by
  refine ⟨fun p hp => ⟨hp, rfl, Nat.one_pos, Nat.one_pos, (show 1 ≤ 1000000 by decide), (show 1 ≤ 1000000 by decide), (show Nat.Coprime 1 1 by decide), rfl, rfl⟩, fun p q _ _ _ => ?_⟩
  show red (1 * 1) (1 * 1) ≤ 1000000
  decide
/-- the numbers with which the group of b comes to that of a -/
def tieX (s : RS) (a g b : Nat) : Nat := ru s a * g * rl s b
def tieY (s : RS) (a t b : Nat) : Nat := rl s a * t * ru s b
def tieR (s : RS) (a g b t : Nat) : RS :=
  (fun p => if rg s p = rg s b then rg s a else rg s p,
   fun p => if rg s p = rg s b then red (ru s p * tieX s a g b) (rl s p * tieY s a t b) else ru s p,
   fun p => if rg s p = rg s b then red (rl s p * tieY s a t b) (ru s p * tieX s a g b) else rl s p)
/-- no number of a proportion is too great -/
def smalls (P : Nat) (s : RS) : Prop := ∀ p q, p < P → q < P → rg s p = rg s q → red (ru s p * rl s q) (rl s p * ru s q) ≤ 1000000
theorem tie_pos {P : Nat} {s : RS} (h : RSI P s) {a g b t : Nat} (ha : a < P) (hb : b < P) (hg : 0 < g) (ht : 0 < t) : 0 < tieX s a g b ∧ 0 < tieY s a t b := by
  have h1 := h.1 a ha
  have h2 := h.1 b hb
  exact ⟨Nat.mul_pos (Nat.mul_pos h1.2.2.1 hg) h2.2.2.2.1, Nat.mul_pos (Nat.mul_pos h1.2.2.2.1 ht) h2.2.2.1⟩
theorem tieR_ok {P : Nat} {s : RS} (h : RSI P s) {a g b t : Nat} (ha : a < P) (hb : b < P) (hg : 0 < g) (ht : 0 < t) (hne : ¬ rg s a = rg s b) (hs : smalls P (tieR s a g b t)) : RSI P (tieR s a g b t) := by
  obtain ⟨hX, hY⟩ := tie_pos h ha hb hg ht
  have hra := h.1 a ha
  have hrr := h.1 (rg s a) hra.1
  have e1 : rg (tieR s a g b t) (rg s a) = rg s a := by
    show (if rg s (rg s a) = rg s b then rg s a else rg s (rg s a)) = rg s a
    rw [hra.2.1, if_neg hne]
  have e2 : ru (tieR s a g b t) (rg s a) = 1 := by
    show (if rg s (rg s a) = rg s b then _ else ru s (rg s a)) = 1
    rw [hra.2.1, if_neg hne, hra.2.2.2.2.2.2.2.1]
  have e3 : rl (tieR s a g b t) (rg s a) = 1 := by
    show (if rg s (rg s a) = rg s b then _ else rl s (rg s a)) = 1
    rw [hra.2.1, if_neg hne, hra.2.2.2.2.2.2.2.2]
  refine ⟨fun p hp => ?_, hs⟩
  have hpp := h.1 p hp
  by_cases e : rg s p = rg s b
  · have g1 : rg (tieR s a g b t) p = rg s a := if_pos e
    have g2 : ru (tieR s a g b t) p = red (ru s p * tieX s a g b) (rl s p * tieY s a t b) := if_pos e
    have g3 : rl (tieR s a g b t) p = red (rl s p * tieY s a t b) (ru s p * tieX s a g b) := if_pos e
    have px := Nat.mul_pos hpp.2.2.1 hX
    have py := Nat.mul_pos hpp.2.2.2.1 hY
    have sm1 := hs p (rg s a) hp hra.1 (by rw [g1, e1])
    have sm2 := hs (rg s a) p hra.1 hp (by rw [g1, e1])
    rw [e2, e3, Nat.mul_one, Nat.mul_one] at sm1
    rw [e2, e3, Nat.one_mul, Nat.one_mul] at sm2
    have hc : Nat.Coprime (ru (tieR s a g b t) p) (rl (tieR s a g b t) p) := by rw [g2, g3]; exact red_cop px
    have hp1 : 0 < ru (tieR s a g b t) p := by rw [g2]; exact red_pos px
    have hp2 : 0 < rl (tieR s a g b t) p := by rw [g3]; exact red_pos py
    rw [(red_one hp1 hc).1] at sm1
    rw [(red_one hp2 hc.symm).1] at sm2
    rw [g1]
    exact ⟨hra.1, e1, hp1, hp2, sm1, sm2, hc, e2, e3⟩
  · have g1 : rg (tieR s a g b t) p = rg s p := if_neg e
    have g2 : ru (tieR s a g b t) p = ru s p := if_neg e
    have g3 : rl (tieR s a g b t) p = rl s p := if_neg e
    have hgp := h.1 (rg s p) hpp.1
    have k1 : rg (tieR s a g b t) (rg s p) = rg s p := by
      show (if rg s (rg s p) = rg s b then rg s a else rg s (rg s p)) = rg s p
      rw [hpp.2.1, if_neg e]
    have k2 : ru (tieR s a g b t) (rg s p) = 1 := by
      show (if rg s (rg s p) = rg s b then _ else ru s (rg s p)) = 1
      rw [hpp.2.1, if_neg e, hpp.2.2.2.2.2.2.2.1]
    have k3 : rl (tieR s a g b t) (rg s p) = 1 := by
      show (if rg s (rg s p) = rg s b then _ else rl s (rg s p)) = 1
      rw [hpp.2.1, if_neg e, hpp.2.2.2.2.2.2.2.2]
    rw [g1, g2, g3]
    exact ⟨hpp.1, k1, hpp.2.2.1, hpp.2.2.2.1, hpp.2.2.2.2.1, hpp.2.2.2.2.2.1, hpp.2.2.2.2.2.2.1, k2, k3⟩
/-- a PART's new proportion, the way the reference makes it -/
theorem tie_way {a b U D : Nat} (ha : 0 < a) (hb : 0 < b) (hU : 0 < U) (hD : 0 < D) (hc : Nat.Coprime a b) :
    a / Nat.gcd a (red D U) * (red U D / Nat.gcd (red U D) b) = red (a * U) (b * D) ∧ b / Nat.gcd (red U D) b * (red D U / Nat.gcd a (red D U)) = red (b * D) (a * U) := by
  have hu := red_pos (y := D) hU
  have hw := red_pos (y := U) hD
  have cuw := red_cop (y := D) hU
  generalize hu0 : red U D = u at *
  generalize hw0 : red D U = w at *
  have hcr : u * D = U * w := by rw [← hu0, ← hw0]; exact red_cross U D
  have gx : 0 < Nat.gcd a w := Nat.gcd_pos_of_pos_left w ha
  have gy : 0 < Nat.gcd u b := Nat.gcd_pos_of_pos_left b hu
  have d1 : a / Nat.gcd a w * Nat.gcd a w = a := Nat.div_mul_cancel (Nat.gcd_dvd_left a w)
  have d2 : w / Nat.gcd a w * Nat.gcd a w = w := Nat.div_mul_cancel (Nat.gcd_dvd_right a w)
  have d3 : u / Nat.gcd u b * Nat.gcd u b = u := Nat.div_mul_cancel (Nat.gcd_dvd_left u b)
  have d4 : b / Nat.gcd u b * Nat.gcd u b = b := Nat.div_mul_cancel (Nat.gcd_dvd_right u b)
  have v1 : a / Nat.gcd a w ∣ a := ⟨_, d1.symm⟩
  have v2 : w / Nat.gcd a w ∣ w := ⟨_, d2.symm⟩
  have v3 : u / Nat.gcd u b ∣ u := ⟨_, d3.symm⟩
  have v4 : b / Nat.gcd u b ∣ b := ⟨_, d4.symm⟩
  have c1 : Nat.Coprime (a / Nat.gcd a w) (b / Nat.gcd u b) := (hc.coprime_dvd_left v1).coprime_dvd_right v4
  have c2 : Nat.Coprime (a / Nat.gcd a w) (w / Nat.gcd a w) := Nat.coprime_div_gcd_div_gcd gx
  have c3 : Nat.Coprime (u / Nat.gcd u b) (b / Nat.gcd u b) := Nat.coprime_div_gcd_div_gcd gy
  have c4 : Nat.Coprime (u / Nat.gcd u b) (w / Nat.gcd a w) := (cuw.coprime_dvd_left v3).coprime_dvd_right v2
  have C : Nat.Coprime (a / Nat.gcd a w * (u / Nat.gcd u b)) (b / Nat.gcd u b * (w / Nat.gcd a w)) := Nat.Coprime.mul_left (Nat.Coprime.mul_right c1 c2) (Nat.Coprime.mul_right c3 c4)
  refine red_uniq (Nat.mul_pos ha hU) C ?_
  refine Nat.eq_of_mul_eq_mul_right (Nat.mul_pos gx gy) ?_
  calc a / Nat.gcd a w * (u / Nat.gcd u b) * (b * D) * (Nat.gcd a w * Nat.gcd u b) = (a / Nat.gcd a w * Nat.gcd a w) * (u / Nat.gcd u b * Nat.gcd u b) * (b * D) := by ac_rfl
    _ = a * u * (b * D) := by rw [d1, d3]
    _ = a * b * (u * D) := by ac_rfl
    _ = a * b * (U * w) := by rw [hcr]
    _ = a * U * (b * w) := by ac_rfl
    _ = a * U * ((b / Nat.gcd u b * Nat.gcd u b) * (w / Nat.gcd a w * Nat.gcd a w)) := by rw [d2, d4]
    _ = a * U * (b / Nat.gcd u b * (w / Nat.gcd a w)) * (Nat.gcd a w * Nat.gcd u b) := by ac_rfl
/-! A ROUND -/
def sG (N : NG) (l : Nat) : Nat := sumTo (nG N l) (nH N (nF N l))
def sT (N : NG) (l : Nat) : Nat := sumTo (nK N l) (nH N (nT N l))
/-- behind one LINE more: go on; true: UNEVEN; false: SPENT -/
noncomputable def stepR (N : NG) (l : Nat) (s : RS) : RS ⊕ Bool :=
  if sG N l = 0 ∧ sT N l = 0 then .inl s
  else if sG N l = 0 ∨ sT N l = 0 then .inr true
  else if rg s (nF N l) = rg s (nT N l) then (if ru s (nF N l) * sG N l * rl s (nT N l) = ru s (nT N l) * sT N l * rl s (nF N l) then .inl s else .inr true)
  else @ite _ (smalls (nP N) (tieR s (nF N l) (sG N l) (nT N l) (sT N l))) (Classical.propDecidable _) (.inl (tieR s (nF N l) (sG N l) (nT N l) (sT N l))) (.inr false)
/-- d LINES are left; some l: UNEVEN at l; none: SPENT -/
noncomputable def goR (N : NG) : Nat → RS → RS ⊕ Option Nat
  | 0, s => .inl s
  | d + 1, s => match stepR N (nL N - (d + 1)) s with
    | .inl s' => goR N d s'
    | .inr true => .inr (some (nL N - (d + 1)))
    | .inr false => .inr none
def lcmTo (s : RS) (g : Nat) : Nat → Nat
  | 0 => 1
  | n + 1 => if rg s n = g then Nat.lcm (lcmTo s g n) (rl s n) else lcmTo s g n
def fir (N : NG) (s : RS) (p : Nat) : Nat := lcmTo s (rg s p) (nP N) * ru s p / rl s p * nH N p
def cntOK (N : NG) (s : RS) : Prop := (∀ p, p < nP N → lcmTo s (rg s p) (nP N) ≤ 1000 ∧ fir N s p ≤ 1000) ∧ sumTo (fir N s) (nP N) ≤ 2000
/-- how many FIRINGS; UNEVEN at a LINE; SPENT -/
noncomputable def rndOf (N : NG) : (Nat → Nat) ⊕ Option Nat := match goR N (nL N) r0 with
  | .inl s => @ite _ (cntOK N s) (Classical.propDecidable _) (.inl (fir N s)) (.inr none)
  | .inr x => .inr x
theorem stepR_ok {N : NG} (hN : NOK N) {l : Nat} (hl : l < nL N) {s s' : RS} (h : RSI (nP N) s) (hs : stepR N l s = .inl s') : RSI (nP N) s' := by
  have hb := hN.2.2.1 l hl
  unfold stepR at hs
  split at hs
  · cases hs; exact h
  · split at hs
    · cases hs
    · rename_i h1 h2
      split at hs
      · split at hs
        · cases hs; exact h
        · cases hs
      · rename_i h3
        by_cases q : smalls (nP N) (tieR s (nF N l) (sG N l) (nT N l) (sT N l))
        · rw [if_pos q] at hs
          cases hs
          exact tieR_ok h hb.1 hb.2.1 (by omega) (by omega) h3 q
        · rw [if_neg q] at hs
          cases hs
theorem lcmTo_pos {s : RS} {g : Nat} : ∀ {n : Nat}, (∀ p, p < n → 0 < rl s p) → 0 < lcmTo s g n
  | 0, _ => Nat.one_pos
  | n + 1, h => by
    rw [lcmTo]
    have ih := lcmTo_pos (s := s) (g := g) (n := n) (fun p hp => h p (by omega))
    split
    · exact Nat.lcm_pos ih (h n (by omega))
    · exact ih
theorem lcmTo_dvd {s : RS} {g : Nat} : ∀ {n q : Nat}, q < n → rg s q = g → rl s q ∣ lcmTo s g n
  | 0, _, h, _ => by omega
  | n + 1, q, h, hq => by
    rw [lcmTo]
    by_cases e : q = n
    · subst e
      rw [if_pos hq]
      exact Nat.dvd_lcm_right _ _
    · have ih := lcmTo_dvd (s := s) (g := g) (n := n) (q := q) (by omega) hq
      split
      · exact Nat.dvd_trans ih (Nat.dvd_lcm_left _ _)
      · exact ih
/-- longs that are naturals -/
theorem lN_t {n : Nat} (h : n < 2 ^ 63) : (lN n).toInt = (n : Int) := Int64.toInt_ofNat_of_lt h
theorem lN_le2 {a b : Nat} (ha : a < 2 ^ 63) (hb : b < 2 ^ 63) : lN a ≤ lN b ↔ a ≤ b := by
  rw [Int64.le_iff_toInt_le, lN_t ha, lN_t hb]; omega
theorem lN_lt2 {a b : Nat} (ha : a < 2 ^ 63) (hb : b < 2 ^ 63) : lN a < lN b ↔ a < b := by
  rw [Int64.lt_iff_toInt_lt, lN_t ha, lN_t hb]; omega
theorem lN_eq2 {a b : Nat} (ha : a < 2 ^ 63) (hb : b < 2 ^ 63) : lN a = lN b ↔ a = b := by
  rw [← Int64.toInt_inj, lN_t ha, lN_t hb]; omega
theorem lN_div2 {a d : Nat} (ha : a < 2 ^ 63) (hd : d < 2 ^ 63) : lN a / lN d = lN (a / d) := by
  apply Int64.toInt_inj.mp
  have hq : a / d < 2 ^ 63 := Nat.lt_of_le_of_lt (Nat.div_le_self a d) ha
  rw [Int64.toInt_div_of_ne_left _ _ (fun e => by
    have := congrArg Int64.toInt e
    rw [lN_t ha] at this
    have h2 : (Int64.minValue).toInt = -2 ^ 63 := by decide
    omega), lN_t ha, lN_t hd, lN_t hq]
  rfl
theorem lN_rem2 {a d : Nat} (ha : a < 2 ^ 63) (hd : d < 2 ^ 63) : lN a - lN a / lN d * lN d = lN (a % d) := by
  rw [lN_div2 ha hd, lN_mul, lN_sub (Nat.div_mul_le_self a d)]
  exact congrArg lN (by have := Nat.div_add_mod' a d; omega)
theorem lcmp_gt {a b : Nat} (ha : a < 2 ^ 63) (hb : b < 2 ^ 63) : 0 < lg_cmp (lN a) (lN b) ↔ b < a := by
  unfold lg_cmp
  by_cases h : b < a
  · rw [if_pos (show lN a > lN b from (lN_lt2 hb ha).mpr h)]
    exact ⟨fun _ => h, fun _ => by decide⟩
  · rw [if_neg (fun q : lN a > lN b => h ((lN_lt2 hb ha).mp q))]
    split
    · exact ⟨fun q => absurd q (by decide), fun q => absurd q h⟩
    · exact ⟨fun q => absurd q (by decide), fun q => absurd q h⟩
theorem lcmp_eq {a b : Nat} (ha : a < 2 ^ 63) (hb : b < 2 ^ 63) : lg_cmp (lN a) (lN b) = 0 ↔ a = b := by
  unfold lg_cmp
  by_cases h : b < a
  · rw [if_pos (show lN a > lN b from (lN_lt2 hb ha).mpr h)]
    exact ⟨fun q => absurd q (by decide), fun q => by omega⟩
  · rw [if_neg (fun q : lN a > lN b => h ((lN_lt2 hb ha).mp q))]
    by_cases e : a = b
    · rw [if_pos (by rw [e])]
      exact ⟨fun _ => e, fun _ => rfl⟩
    · rw [if_neg (fun q => e ((lN_eq2 ha hb).mp q))]
      exact ⟨fun q => absurd q (by decide), fun q => absurd q e⟩
