/-! the round: divisors, sums -/
theorem L64 (k : Nat) : (OfNat.ofNat k : Int64) = lN k := rfl
theorem nz_lN {n : Nat} (h0 : 0 < n) (h : n < 2 ^ 63) : nz8 (lN n) = true := decide_eq_true (fun q => by have := (lN_eq2 h (by decide)).mp (show lN n = lN 0 from q); omega)
theorem mod_half {a b : Nat} (hb : 0 < b) (h : b ≤ a) : 2 * (a % b) < a := by
  have h1 := Nat.mod_lt a hb
  have h2 := Nat.div_add_mod a b
  have h3 : b * 1 ≤ b * (a / b) := Nat.mul_le_mul_left b (Nat.div_pos h hb)
  omega
theorem gcd_step (a b : Nat) : Nat.gcd a b = Nat.gcd b (a % b) := by
  rw [Nat.gcd_comm a b, Nat.gcd_rec b a, Nat.gcd_comm]
theorem m_gcd_l (M : tM) : ∀ k n a b, b < 2 ^ k → a < 2 ^ 62 → b < 2 ^ 62 → 2 * k < n → fX11_divisor_l17 M n (lN a) (lN b) = some (lN (Nat.gcd a b)) := by
  have hz : ∀ n a, 0 < n → fX11_divisor_l17 M n (lN a) (lN 0) = some (lN (Nat.gcd a 0)) := fun n a hn => by
    obtain ⟨n, rfl⟩ : ∃ m, n = m + 1 := ⟨n - 1, by omega⟩
    rw [fX11_divisor_l17, if_pos (show lg_cmp (lN 0) 0 = 0 from by decide), Nat.gcd_zero_right]
  have hs : ∀ n a b, 0 < b → a < 2 ^ 62 → b < 2 ^ 62 → fX11_divisor_l17 M (n + 1) (lN a) (lN b) = fX11_divisor_l17 M n (lN b) (lN (a % b)) := fun n a b h0 ha hb => by
    rw [fX11_divisor_l17, if_neg (fun q => by have := (lcmp_eq (b := 0) (show b < 2 ^ 63 by omega) (by omega)).mp q; omega), chk_tr (nz_lN h0 (by omega)), bnd_eq, lN_rem2 (by omega) (by omega)]
  intro k
  induction k with
  | zero =>
    intro n a b hb ha hb2 hn
    have e : b = 0 := by omega
    subst e
    exact hz n a (by omega)
  | succ k ih =>
    intro n a b hb ha hb2 hn
    by_cases e : b = 0
    · subst e; exact hz n a (by omega)
    · obtain ⟨n, rfl⟩ : ∃ m, n = m + 1 := ⟨n - 1, by omega⟩
      have hm := Nat.mod_lt a (show 0 < b by omega)
      rw [hs n a b (by omega) ha hb2, gcd_step]
      by_cases c : a % b = 0
      · rw [c]; exact hz n b (by omega)
      · obtain ⟨n, rfl⟩ : ∃ m, n = m + 1 := ⟨n - 1, by omega⟩
        have h2 := mod_half (a := b) (b := a % b) (by omega) (by omega)
        rw [hs n b (a % b) (by omega) hb2 (by omega), gcd_step]
        have h3 : 2 ^ (k + 1) = 2 * 2 ^ k := by rw [Nat.pow_succ, Nat.mul_comm]
        exact ih n (a % b) (b % (a % b)) (by omega) (by omega) (by omega) (by omega)
theorem lcmp_nn {a : Nat} (h : a < 2 ^ 63) : 0 ≤ lg_cmp (lN a) 0 := by
  by_cases e : a = 0
  · subst e; decide
  · have : 0 < lg_cmp (lN a) (lN 0) := (lcmp_gt h (by decide)).mpr (by omega)
    have h2 : 0 < lg_cmp (lN a) 0 := this
    rw [Int32.lt_iff_toInt_lt] at h2
    rw [Int32.le_iff_toInt_le]; omega
theorem m_gcd {a b : Nat} {M : tM} (ha : a < 2 ^ 62) (hb : b < 2 ^ 62) : fX11_divisor (lN a) (lN b) M = some (lN (Nat.gcd a b)) := by
  rw [fX11_divisor, if_pos (lcmp_nn (by omega)), Option.bind_some, m_gcd_l M 62 FU a b hb ha hb (FU_lt (by omega)), Option.bind_some]
theorem c_gcd_l (M : tM) : ∀ k n a b c, b < 2 ^ k → a < 2 ^ 62 → b < 2 ^ 62 → 2 * k < n → c + 2 * k ≤ 100 → fX10_commonDivisor_l3 M n (lN a) (lN b) (nI c) = some (lN (Nat.gcd a b)) := by
  have hz : ∀ n a c, 0 < n → fX10_commonDivisor_l3 M n (lN a) (lN 0) c = some (lN (Nat.gcd a 0)) := fun n a c hn => by
    obtain ⟨n, rfl⟩ : ∃ m, n = m + 1 := ⟨n - 1, by omega⟩
    rw [fX10_commonDivisor_l3, if_pos (show lg_cmp (lN 0) 0 = 0 from by decide), Nat.gcd_zero_right]
    split <;> rfl
  have hs : ∀ n a b c, 0 < b → a < 2 ^ 62 → b < 2 ^ 62 → c < 100 → fX10_commonDivisor_l3 M (n + 1) (lN a) (lN b) (nI c) = fX10_commonDivisor_l3 M n (lN b) (lN (a % b)) (nI (c + 1)) := fun n a b c h0 ha hb hc => by
    rw [fX10_commonDivisor_l3, if_neg (show ¬ (100 : Int32) ≤ nI c from nI_ge (b := 100) hc (by decide)), if_neg (fun q => by have := (lcmp_eq (b := 0) (show b < 2 ^ 63 by omega) (by omega)).mp q; omega), chk_tr (nz_lN h0 (by omega)), bnd_eq, bnd_eq, lN_rem2 (by omega) (by omega), nI_1]
  intro k
  induction k with
  | zero =>
    intro n a b c hb ha hb2 hn hc
    have e : b = 0 := by omega
    subst e
    exact hz n a _ (by omega)
  | succ k ih =>
    intro n a b c hb ha hb2 hn hc
    by_cases e : b = 0
    · subst e; exact hz n a _ (by omega)
    · obtain ⟨n, rfl⟩ : ∃ m, n = m + 1 := ⟨n - 1, by omega⟩
      have hm := Nat.mod_lt a (show 0 < b by omega)
      rw [hs n a b c (by omega) ha hb2 (by omega), gcd_step]
      by_cases c' : a % b = 0
      · rw [c']; exact hz n b _ (by omega)
      · obtain ⟨n, rfl⟩ : ∃ m, n = m + 1 := ⟨n - 1, by omega⟩
        have h2 := mod_half (a := b) (b := a % b) (by omega) (by omega)
        rw [hs n b (a % b) (c + 1) (by omega) hb2 (by omega) (by omega), gcd_step]
        have h3 : 2 ^ (k + 1) = 2 * 2 ^ k := by rw [Nat.pow_succ, Nat.mul_comm]
        exact ih n (a % b) (b % (a % b)) (c + 1 + 1) (by omega) (by omega) (by omega) (by omega) (by omega)
theorem lcmp_le {a b : Nat} (ha : a < 2 ^ 63) (hb : b < 2 ^ 63) : lg_cmp (lN a) (lN b) ≤ 0 ↔ a ≤ b := by
  have h := lcmp_gt ha hb
  rw [Int32.lt_iff_toInt_lt] at h
  rw [Int32.le_iff_toInt_le]
  have e : (0 : Int32).toInt = 0 := by decide
  constructor
  · intro q
    by_cases c : b < a
    · have := h.mpr c; omega
    · omega
  · intro q
    by_cases c : (0 : Int32).toInt < (lg_cmp (lN a) (lN b)).toInt
    · have := h.mp c; omega
    · omega
theorem if_gt {α : Type} {a k : Nat} {x : Int64} {A B : α} (hx : x = lN k) (ha : a < 2 ^ 63) (hk : k < 2 ^ 63) (h : k < a) : (if 0 < lg_cmp (lN a) x then A else B) = A := by subst hx; exact if_pos ((lcmp_gt ha hk).mpr h)
theorem if_ngt {α : Type} {a k : Nat} {x : Int64} {A B : α} (hx : x = lN k) (ha : a < 2 ^ 63) (hk : k < 2 ^ 63) (h : a ≤ k) : (if 0 < lg_cmp (lN a) x then A else B) = B := by subst hx; exact if_neg (fun q => by have := (lcmp_gt ha hk).mp q; omega)
theorem if_lel {α : Type} {a k : Nat} {x : Int64} {A B : α} (hx : x = lN k) (ha : a < 2 ^ 63) (hk : k < 2 ^ 63) (h : a ≤ k) : (if lg_cmp (lN a) x ≤ 0 then A else B) = A := by subst hx; exact if_pos ((lcmp_le ha hk).mpr h)
theorem if_nlel {α : Type} {a k : Nat} {x : Int64} {A B : α} (hx : x = lN k) (ha : a < 2 ^ 63) (hk : k < 2 ^ 63) (h : k < a) : (if lg_cmp (lN a) x ≤ 0 then A else B) = B := by subst hx; exact if_neg (fun q => by have := (lcmp_le ha hk).mp q; omega)
theorem c_gcd {a b : Nat} {M : tM} (h0 : 0 < a) (ha : a < 2 ^ 50) (hb : b < 2 ^ 50) : fX10_commonDivisor (lN a) (lN b) M = some (lN (Nat.gcd a b)) := by
  have hg := Nat.gcd_pos_of_pos_left b h0
  have hg2 := Nat.le_of_dvd h0 (Nat.gcd_dvd_left a b)
  have := c_gcd_l M 50 FU a b 0 hb (by omega) (by omega) (FU_lt (by omega)) (by omega)
  rw [nI_0] at this
  rw [fX10_commonDivisor, this, Option.bind_some, if_neg (fun q => by have := (lcmp_le (b := 0) (show Nat.gcd a b < 2 ^ 63 by omega) (by omega)).mp q; omega)]
theorem sum_le50 {f : Nat → Nat} : ∀ {n : Nat}, (∀ i, i < n → f i ≤ 50) → sumTo f n ≤ 50 * n
  | 0, _ => Nat.le_refl _
  | n + 1, h => by
    have := sum_le50 (f := f) (n := n) (fun i hi => h i (by omega))
    have := h n (by omega)
    rw [sumTo]; omega
theorem sG_le {N : NG} (hN : NOK N) {l : Nat} (hl : l < nL N) : sG N l ≤ 200 := by
  have hh := (hN.2.1 _ (hN.2.2.1 l hl).1).2.2.1
  have := sum_le50 (f := nG N l) (n := nH N (nF N l)) (fun i hi => (hN.2.2.2 l i hl (by omega)).1)
  rw [sG]; omega
theorem sT_le {N : NG} (hN : NOK N) {l : Nat} (hl : l < nL N) : sT N l ≤ 200 := by
  have hh := (hN.2.1 _ (hN.2.2.1 l hl).2.1).2.2.1
  have := sum_le50 (f := nK N l) (n := nH N (nT N l)) (fun i hi => (hN.2.2.2 l i hl (by omega)).2.1)
  rw [sT]; omega
theorem c_sumK {M : tM} {k l n : Nat} {f : Nat → Nat} (h1 : tO k = none) (h2 : tRO k = false) (h3 : tIsI k = true) (hn : mN M k l = n) (n4 : n ≤ 4) (hf : ∀ i, i < n → mI M k l i = nI (f i)) : fX4_sumOf k l M = some (nI (sumTo f n)) := by
  have key : Ok (fX4_sumOf_l10 k l (nI n) M FU 0 0) (fun w => w = nI (sumTo f n)) := by
    refine loop0 (fun m i s => fX4_sumOf_l10 k l (nI n) M m s i) n (fun i s => s = nI (sumTo f i)) _ (by omega) ?_ ?_ 0 rfl
    · intro m s h
      rw [fX4_sumOf_l10, if_pos (nI_le (Nat.le_refl _) (by omega))]
      exact ok_some h
    · intro m i s hi h kk
      rw [fX4_sumOf_l10, if_neg (nI_ge hi (by omega)), chk_tr h3, hn, chk_nI hi (by omega), bnd_eq, bnd_eq, bnd_eq, nI_clamp (by omega), hf i hi, nI_1]
      refine kk _ ?_
      rw [h, nI_add, sumTo]
  obtain ⟨w, e, rfl⟩ := key
  rw [fX4_sumOf, chk_tr (by simp [h1]), chk_tr (by simp [h2]), bnd_eq, hn, e, Option.bind_some]
theorem c_sumG {M X : tM} {N : NG} (hN : NOK N) (hC : Cg M X N) {l : Nat} (hl : l < nL N) : fX4_sumOf 503 l M = some (nI (sG N l)) ∧ fX4_sumOf 504 l M = some (nI (sT N l)) := by
  obtain ⟨n3, n4, -, -, -, h3, h4, -⟩ := (hC.2.2.1 l hl).2
  have hh := (hN.2.1 _ (hN.2.2.1 l hl).1).2.2.1
  have hh2 := (hN.2.1 _ (hN.2.2.1 l hl).2.1).2.2.1
  exact ⟨c_sumK (by decide) (by decide) (by decide) n3 hh h3, c_sumK (by decide) (by decide) (by decide) n4 hh2 h4⟩
theorem m_sumK {X : tM} {k l q n : Nat} {f : Nat → Nat} (hl : Len X) (hq : q < 12) (h5 : mI X 1205 0 q = nI n) (n4 : n ≤ 4) (l20 : l < 20) (hk : tIsI k = true) (hn : mN X k 0 = 80) (hf : ∀ i, i < n → mI X k 0 (4 * l + i) = nI (f i)) : fX11_sum k 0 (nI l) (nI q) X = some (nI (sumTo f n)) := by
  have key : Ok (fX11_sum_l6 k 0 (nI l) (nI q) X FU 0 0) (fun w => w = nI (sumTo f n)) := by
    refine loop0 (fun m i s => fX11_sum_l6 k 0 (nI l) (nI q) X m s i) n (fun i s => s = nI (sumTo f i)) _ (by omega) ?_ ?_ 0 rfl
    · intro m s h
      rw [fX11_sum_l6, ln1205 hl, chk_nI (by omega) (by omega), nI_clamp (by omega), h5, if_pos (nI_le (Nat.le_refl _) (by omega))]
      exact ok_some h
    · intro m i s hi h kk
      have e4 : 4 * nI l + nI i = nI (4 * l + i) := by rw [L32 4, pk_mul, nI_add]
      rw [fX11_sum_l6, ln1205 hl, chk_nI (by omega) (by omega), nI_clamp (by omega), h5, if_neg (nI_ge hi (by omega)), chk_tr hk, hn, e4, chk_nI (by omega) (by omega), bnd_eq, bnd_eq, nI_clamp (by omega), hf i hi, nI_1]
      refine kk _ ?_
      rw [h, nI_add, sumTo]
  obtain ⟨w, e, rfl⟩ := key
  rw [fX11_sum, e, Option.bind_some]
theorem m_sumG {X : tM} {N : NG} (hN : NOK N) (hl : Len X) (hG : Gr X N) {l : Nat} (hi : l < nL N) : fX11_sum 1215 0 (nI l) (nI (nF N l)) X = some (nI (sG N l)) ∧ fX11_sum 1216 0 (nI l) (nI (nT N l)) X = some (nI (sT N l)) := by
  have hb := hN.1
  have h1 := (hN.2.2.1 l hi).1
  have h2 := (hN.2.2.1 l hi).2.1
  have hh := (hN.2.1 _ h1).2.2.1
  have hh2 := (hN.2.1 _ h2).2.2.1
  exact ⟨m_sumK hl (by omega) (hG.2.1 _ h1).2 hh (by omega) (by decide) (ln1215 hl) (fun i h => (hG.2.2.2 l i hi (by omega)).1), m_sumK hl (by omega) (hG.2.1 _ h2).2 hh2 (by omega) (by decide) (ln1216 hl) (fun i h => (hG.2.2.2 l i hi (by omega)).2)⟩
/-! the round, the model's -/
def RX (X : tM) (N : NG) (s : RS) : Prop := ∀ p, p < nP N → mI X 1232 0 p = nI (rg s p) ∧ mL X 1233 0 p = lN (ru s p) ∧ mL X 1234 0 p = lN (rl s p)
theorem red_le {x y : Nat} : red x y ≤ x := Nat.div_le_self _ _
theorem tie_big {P : Nat} {s : RS} (h : RSI P s) {a g b t : Nat} (ha : a < P) (hb : b < P) (hg : g ≤ 200) (ht : t ≤ 200) : tieX s a g b ≤ 200000000000000 ∧ tieY s a t b ≤ 200000000000000 := by
  have h1 := h.1 a ha
  have h2 := h.1 b hb
  constructor
  · calc tieX s a g b ≤ 1000000 * 200 * 1000000 := Nat.mul_le_mul (Nat.mul_le_mul h1.2.2.2.2.1 hg) h2.2.2.2.2.2.1
      _ = 200000000000000 := by decide
  · calc tieY s a t b ≤ 1000000 * 200 * 1000000 := Nat.mul_le_mul (Nat.mul_le_mul h1.2.2.2.2.2.1 ht) h2.2.2.2.2.1
      _ = 200000000000000 := by decide
def small1 (s : RS) (p : Nat) : Prop := ru s p ≤ 1000000 ∧ rl s p ≤ 1000000
def TI (X : tM) (N : NG) (s T : RS) (a : Nat) (i : Nat) (y : Int32) (m : tM) : Prop := (Fr [1232, 1233, 1234] X m ∧ mI m 1232 0 a = nI (rg s a)) ∧ (∀ p, p < nP N → i ≤ p → mI m 1232 0 p = nI (rg s p) ∧ mL m 1233 0 p = lN (ru s p) ∧ mL m 1234 0 p = lN (rl s p)) ∧
  ((y = 1 ∧ (∀ p, p < i → small1 T p) ∧ ∀ p, p < nP N → p < i → mI m 1232 0 p = nI (rg T p) ∧ mL m 1233 0 p = lN (ru T p) ∧ mL m 1234 0 p = lN (rl T p)) ∨ (y = 0 ∧ ∃ p, p < nP N ∧ ¬ small1 T p))
set_option maxHeartbeats 1000000 in
theorem m_l74 {X : tM} {N : NG} {s : RS} {a g b t : Nat} (hN : NOK N) (hl : Len X) (hG : Gr X N) (h : RSI (nP N) s) (hx : RX X N s) (ha : a < nP N) (hb : b < nP N) (hg : 0 < g) (ht : 0 < t) (hg2 : g ≤ 200) (ht2 : t ≤ 200) (hne : ¬ rg s a = rg s b) :
    Ok (fX11_isTied_l74 (nI a) (lN (red (tieX s a g b) (tieY s a t b))) (lN (red (tieY s a t b) (tieX s a g b))) (nI (rg s b)) FU 1 0 X) (fun w => TI X N s (tieR s a g b t) a (nP N) w.1 w.2) := by
  have hbb := hN.1
  obtain ⟨hX, hY⟩ := tie_pos h ha hb hg ht
  obtain ⟨bX, bY⟩ := tie_big h ha hb hg2 ht2
  generalize hT : tieR s a g b t = T
  have hrb := (h.1 b hb).1
  refine loop0 (fun n i (c : Int32 × tM) => fX11_isTied_l74 (nI a) (lN (red (tieX s a g b) (tieY s a t b))) (lN (red (tieY s a t b) (tieX s a g b))) (nI (rg s b)) n c.1 i c.2) (nP N) (fun i c => TI X N s T a i c.1 c.2) _ (by omega) ?_ ?_ (1, X) ⟨⟨Fr.refl, (hx a ha).1⟩, fun p hp _ => hx p hp, Or.inl ⟨rfl, fun p hp => by omega, fun p _ hp => by omega⟩⟩
  · rintro n ⟨y, m⟩ hI
    show Ok (fX11_isTied_l74 _ _ _ _ (n + 1) y (nI (nP N)) m) _
    rw [fX11_isTied_l74, hI.1.1.oI (by decide), hG.1.1, if_pos (nI_le (Nat.le_refl _) (by omega))]
    exact ok_some hI
  · rintro n i ⟨y, m⟩ hi ⟨⟨F, k0⟩, k1, k2⟩ kk
    show Ok (fX11_isTied_l74 _ _ _ _ (n + 1) y (nI i) m) _
    obtain ⟨v1, v2, v3⟩ := k1 i hi (Nat.le_refl _)
    obtain ⟨i1, -, i3, i4, i5, i6, i7, -, -⟩ := h.1 i hi
    rw [fX11_isTied_l74, F.oI (by decide), hG.1.1, if_neg (nI_ge hi (by omega)), F.n, ln1232 hl, chk_nI (by omega) (by omega), nI_clamp (by omega), v1]
    have goon : ∀ w : Int32 × tM, TI X N s T a (i + 1) w.1 w.2 → Ok ((fun x => match x with | (x18, M19) => bnd (nI i + 1) fun x50 => fX11_isTied_l74 (nI a) (lN (red (tieX s a g b) (tieY s a t b))) (lN (red (tieY s a t b) (tieX s a g b))) (nI (rg s b)) n x18 x50 M19) w) (fun w => TI X N s T a (nP N) w.1 w.2) := by
      rintro ⟨y', m'⟩ hw
      show Ok (bnd (nI i + 1) fun x50 => _) _
      rw [bnd_eq, nI_1]
      exact kk (y', m') hw
    by_cases e : rg s i = rg s b
    · refine ok_call (P := fun w => TI X N s T a (i + 1) w.1 w.2) ?_ goon
      have u0 := red_pos (y := tieY s a t b) hX
      have w0 := red_pos (y := tieX s a g b) hY
      have u1 := red_le (x := tieX s a g b) (y := tieY s a t b)
      have w1 := red_le (x := tieY s a t b) (y := tieX s a g b)
      obtain ⟨t1, t2⟩ := tie_way i3 i4 hX hY i7
      have eu : ru T i = red (ru s i * tieX s a g b) (rl s i * tieY s a t b) := by rw [← hT]; exact if_pos e
      have el : rl T i = red (rl s i * tieY s a t b) (ru s i * tieX s a g b) := by rw [← hT]; exact if_pos e
      have eg : rg T i = rg s a := by rw [← hT]; exact if_pos e
      generalize red (tieX s a g b) (tieY s a t b) = u at *
      generalize red (tieY s a t b) (tieX s a g b) = w at *
      have g1 := Nat.gcd_pos_of_pos_left w i3
      have g2 := Nat.gcd_pos_of_pos_left (rl s i) u0
      have g1' := Nat.le_of_dvd i3 (Nat.gcd_dvd_left (ru s i) w)
      have g2' := Nat.le_of_dvd i4 (Nat.gcd_dvd_right u (rl s i))
      have A1p := Nat.div_pos g1' g1
      have B1p : 0 < u / Nat.gcd u (rl s i) := Nat.div_pos (Nat.le_of_dvd u0 (Nat.gcd_dvd_left u (rl s i))) g2
      have A2p := Nat.div_pos g2' g2
      have B2p : 0 < w / Nat.gcd (ru s i) w := Nat.div_pos (Nat.le_of_dvd w0 (Nat.gcd_dvd_right (ru s i) w)) g1
      have A1b := Nat.div_le_self (ru s i) (Nat.gcd (ru s i) w)
      have B1b := Nat.div_le_self u (Nat.gcd u (rl s i))
      have A2b := Nat.div_le_self (rl s i) (Nat.gcd u (rl s i))
      have B2b := Nat.div_le_self w (Nat.gcd (ru s i) w)
      rw [if_pos (by rw [e]), F.n, ln1233 hl, chk_nI (by omega) (by omega), bnd_eq, nI_clamp (by omega), v2, F.n, ln1234 hl, chk_nI (by omega) (by omega), bnd_eq, v3, m_gcd (by omega) (by omega), Option.bind_some, m_gcd (by omega) (by omega), Option.bind_some]
      have d1 : lN (ru s i) / lN (Nat.gcd (ru s i) w) = lN (ru s i / Nat.gcd (ru s i) w) := lN_div2 (by omega) (by omega)
      have d2 : lN u / lN (Nat.gcd u (rl s i)) = lN (u / Nat.gcd u (rl s i)) := lN_div2 (by omega) (by omega)
      have d3 : lN (rl s i) / lN (Nat.gcd u (rl s i)) = lN (rl s i / Nat.gcd u (rl s i)) := lN_div2 (by omega) (by omega)
      have d4 : lN w / lN (Nat.gcd (ru s i) w) = lN (w / Nat.gcd (ru s i) w) := lN_div2 (by omega) (by omega)
      have n1 := nz_lN g1 (by omega)
      have n2 := nz_lN g2 (by omega)
      rw [d1, d2, d3, d4]
      generalize hA1 : ru s i / Nat.gcd (ru s i) w = A1 at *
      generalize hB1 : u / Nat.gcd u (rl s i) = B1 at *
      generalize hA2 : rl s i / Nat.gcd u (rl s i) = A2 at *
      generalize hB2 : w / Nat.gcd (ru s i) w = B2 at *
      have n3 := nz_lN B1p (by omega)
      have n4 := nz_lN B2p (by omega)
      have q1 : (1000000 : Int64) / lN B1 = lN (1000000 / B1) := lN_div2 (a := 1000000) (by omega) (by omega)
      have q2 : (1000000 : Int64) / lN B2 = lN (1000000 / B2) := lN_div2 (a := 1000000) (by omega) (by omega)
      have q3 := Nat.div_le_self 1000000 B1
      have q4 := Nat.div_le_self 1000000 B2
      refine ok_call (P := fun fl => (fl = 1 ∧ y = 1 ∧ small1 T i) ∨ (fl = 0 ∧ (y = 0 ∨ ¬ small1 T i))) ?_ ?_
      · rcases k2 with ⟨rfl, -⟩ | ⟨rfl, -⟩
        · rw [if_neg (by decide), chk_tr n1, chk_tr n2, chk_tr n3, q1, chk_tr n2, chk_tr n1, chk_tr n4, q2]
          by_cases c1 : 1000000 / B1 < A1
          · rw [if_pos ((lcmp_gt (by omega) (by omega)).mpr c1)]
            refine ok_some (Or.inr ⟨rfl, Or.inr (fun hs => ?_)⟩)
            have := (Nat.div_lt_iff_lt_mul B1p).mp c1
            have h1 := hs.1
            rw [eu, ← t1] at h1; omega
          · rw [if_neg (fun q => c1 ((lcmp_gt (by omega) (by omega)).mp q))]
            by_cases c2 : 1000000 / B2 < A2
            · rw [if_pos ((lcmp_gt (by omega) (by omega)).mpr c2)]
              refine ok_some (Or.inr ⟨rfl, Or.inr (fun hs => ?_)⟩)
              have := (Nat.div_lt_iff_lt_mul B2p).mp c2
              have h1 := hs.2
              rw [el, ← t2] at h1; omega
            · rw [if_neg (fun q => c2 ((lcmp_gt (by omega) (by omega)).mp q))]
              refine ok_some (Or.inl ⟨rfl, rfl, ?_, ?_⟩)
              · rw [eu, ← t1]
                by_cases z : A1 * B1 ≤ 1000000
                · exact z
                · exact absurd ((Nat.div_lt_iff_lt_mul B1p).mpr (by omega)) c1
              · rw [el, ← t2]
                by_cases z : A2 * B2 ≤ 1000000
                · exact z
                · exact absurd ((Nat.div_lt_iff_lt_mul B2p).mpr (by omega)) c2
        · rw [if_pos rfl]
          exact ok_some (Or.inr ⟨rfl, Or.inl rfl⟩)
      · rintro fl hfl
        have hai : ¬ a = i := fun q => hne (by rw [q]; exact e)
        rcases hfl with ⟨rfl, y1, sm⟩ | ⟨rfl, hf⟩
        · rw [if_neg (by decide), chk_tr n1, chk_tr n2, lN_mul, Option.bind_some, chk_nI (by omega) (by omega), bnd_eq, if_neg (by decide), chk_tr n2, chk_tr n1, lN_mul, Option.bind_some, mN_sL, F.n, ln1234 hl, chk_nI (by omega) (by omega), bnd_eq, mN_sL, mN_sL, F.n, ln1232 hl, chk_nI (by omega) (by omega), chk_nI (by omega) (by omega), bnd_eq, mI_sL, mI_sL, k0]
          refine ok_some ⟨⟨((F.wL (by decide)).wL (by decide)).wI (by decide), ?_⟩, fun p hp hip => ?_, Or.inl ⟨rfl, fun p hp => ?_, fun p hp hip => ?_⟩⟩
          · show mI (sI _ 1232 0 i _) 1232 0 a = _
            rw [mI_sI, if_neg (fun q => hai q.2.2), mI_sL, mI_sL]; exact k0
          · show mI (sI _ 1232 0 i _) 1232 0 p = _ ∧ mL (sI _ 1232 0 i _) 1233 0 p = _ ∧ mL (sI _ 1232 0 i _) 1234 0 p = _
            rw [mI_sI, if_neg (by omega), mI_sL, mI_sL, mL_sI, mL_sL, if_neg (by simp), mL_sL, if_neg (by omega), mL_sI, mL_sL, if_neg (by omega), mL_sL, if_neg (by simp)]
            exact k1 p hp (by omega)
          · rcases k2 with ⟨-, k2, -⟩ | ⟨y0, -⟩
            · by_cases z : p = i
              · rw [z]; exact sm
              · exact k2 p (by omega)
            · have y0 : y = 0 := y0
              rw [y1] at y0; exact absurd y0 (by decide)
          · show mI (sI _ 1232 0 i _) 1232 0 p = _ ∧ mL (sI _ 1232 0 i _) 1233 0 p = _ ∧ mL (sI _ 1232 0 i _) 1234 0 p = _
            rcases k2 with ⟨-, -, k2⟩ | ⟨y0, -⟩
            · by_cases z : p = i
              · subst z
                rw [mI_sI, if_pos ⟨rfl, rfl, rfl⟩, mL_sI, mL_sL, if_neg (by simp), mL_sL, if_pos ⟨rfl, rfl, rfl⟩, mL_sI, mL_sL, if_pos ⟨rfl, rfl, rfl⟩, eg, eu, el, ← t1, ← t2]
                exact ⟨rfl, rfl, rfl⟩
              · rw [mI_sI, if_neg (fun q => z q.2.2), mI_sL, mI_sL, mL_sI, mL_sL, if_neg (by simp), mL_sL, if_neg (fun q => z q.2.2), mL_sI, mL_sL, if_neg (fun q => z q.2.2), mL_sL, if_neg (by simp)]
                exact k2 p hp (by omega)
            · have y0 : y = 0 := y0
              rw [y1] at y0; exact absurd y0 (by decide)
        · rw [if_pos rfl, Option.bind_some, chk_nI (by omega) (by omega), bnd_eq, if_pos rfl, Option.bind_some, mN_sL, F.n, ln1234 hl, chk_nI (by omega) (by omega), bnd_eq, mN_sL, mN_sL, F.n, ln1232 hl, chk_nI (by omega) (by omega), chk_nI (by omega) (by omega), bnd_eq, mI_sL, mI_sL, k0]
          refine ok_some ⟨⟨((F.wL (by decide)).wL (by decide)).wI (by decide), ?_⟩, fun p hp hip => ?_, Or.inr ⟨rfl, ?_⟩⟩
          · show mI (sI _ 1232 0 i _) 1232 0 a = _
            rw [mI_sI, if_neg (fun q => hai q.2.2), mI_sL, mI_sL]; exact k0
          · show mI (sI _ 1232 0 i _) 1232 0 p = _ ∧ mL (sI _ 1232 0 i _) 1233 0 p = _ ∧ mL (sI _ 1232 0 i _) 1234 0 p = _
            rw [mI_sI, if_neg (by omega), mI_sL, mI_sL, mL_sI, mL_sL, if_neg (by simp), mL_sL, if_neg (by omega), mL_sI, mL_sL, if_neg (by omega), mL_sL, if_neg (by simp)]
            exact k1 p hp (by omega)
          · rcases hf with y0 | hs
            · rcases k2 with ⟨y1, -⟩ | ⟨-, k2⟩
              · have y1 : y = 1 := y1
                rw [y1] at y0; exact absurd y0 (by decide)
              · exact k2
            · exact ⟨i, hi, hs⟩
    · rw [if_neg (fun q => e ((nI_eq (by omega) (by omega)).mp q))]
      refine ok_call (P := fun w => TI X N s T a (i + 1) w.1 w.2) (ok_some ⟨⟨F, k0⟩, fun p hp hip => k1 p hp (by omega), ?_⟩) goon
      have eg : rg T i = rg s i := by rw [← hT]; exact if_neg e
      have eu : ru T i = ru s i := by rw [← hT]; exact if_neg e
      have el : rl T i = rl s i := by rw [← hT]; exact if_neg e
      rcases k2 with ⟨y1, k2, k3⟩ | k2
      · refine Or.inl ⟨y1, fun p hp => ?_, fun p hp hip => ?_⟩
        · by_cases z : p = i
          · rw [z, small1, eu, el]; exact ⟨i5, i6⟩
          · exact k2 p (by omega)
        · by_cases z : p = i
          · rw [z, eg, eu, el]; exact ⟨v1, v2, v3⟩
          · exact k3 p hp (by omega)
      · exact Or.inr k2
theorem m_small {X : tM} {N : NG} {T : RS} (hN : NOK N) (hl : Len X) (hx : RX X N T) (hs : ∀ p, p < nP N → 0 < ru T p ∧ 0 < rl T p ∧ small1 T p) {p q : Nat} (hp : p < nP N) (hq : q < nP N) :
    (fX11_isSmall (nI p) (nI q) X = some 1 ∧ red (ru T p * rl T q) (rl T p * ru T q) ≤ 1000000 ∧ red (rl T p * ru T q) (ru T p * rl T q) ≤ 1000000) ∨ (fX11_isSmall (nI p) (nI q) X = some 0 ∧ ¬ (red (ru T p * rl T q) (rl T p * ru T q) ≤ 1000000 ∧ red (rl T p * ru T q) (ru T p * rl T q) ≤ 1000000)) := by
  have hb := hN.1
  obtain ⟨-, a2, a3⟩ := hx p hp
  obtain ⟨-, b2, b3⟩ := hx q hq
  obtain ⟨p1, p2, p3, p4⟩ := hs p hp
  obtain ⟨q1, q2, q3, q4⟩ := hs q hq
  have m1 : ru T p * rl T q ≤ 1000000 * 1000000 := Nat.mul_le_mul p3 q4
  have m2 : rl T p * ru T q ≤ 1000000 * 1000000 := Nat.mul_le_mul p4 q3
  have m3 : 0 < ru T p * rl T q := Nat.mul_pos p1 q2
  have m4 : 0 < rl T p * ru T q := Nat.mul_pos p2 q1
  rw [fX11_isSmall, ln1233 hl, chk_nI (by omega) (by omega), ln1234 hl, chk_nI (by omega) (by omega), bnd_eq, nI_clamp (by omega), nI_clamp (by omega), a2, b3, lN_mul, chk_nI (by omega) (by omega), chk_nI (by omega) (by omega), bnd_eq, a3, b2, lN_mul]
  generalize hA : ru T p * rl T q = A at *
  generalize hB : rl T p * ru T q = B at *
  have g1 := Nat.gcd_pos_of_pos_left B m3
  have g2 := Nat.le_of_dvd m3 (Nat.gcd_dvd_left A B)
  have e1 : A / Nat.gcd A B = red A B := rfl
  have e2 : B / Nat.gcd A B = red B A := by rw [red, Nat.gcd_comm]
  have r1 := red_le (x := A) (y := B)
  have r2 := red_le (x := B) (y := A)
  rw [m_gcd (by omega) (by omega), Option.bind_some, chk_tr (nz_lN g1 (by omega)), lN_div2 (by omega) (by omega), lN_div2 (by omega) (by omega), e1, e2]
  by_cases c1 : 1000000 < red A B
  · rw [if_gt (x := 1000000) (k := 1000000) rfl (by omega) (by omega) c1]
    exact Or.inr ⟨rfl, fun h => by omega⟩
  · rw [if_ngt (x := 1000000) (k := 1000000) rfl (by omega) (by omega) (Nat.le_of_not_lt c1), chk_tr (nz_lN g1 (by omega))]
    by_cases c2 : 1000000 < red B A
    · rw [if_gt (x := 1000000) (k := 1000000) rfl (by omega) (by omega) c2]
      exact Or.inr ⟨rfl, fun h => by omega⟩
    · rw [if_ngt (x := 1000000) (k := 1000000) rfl (by omega) (by omega) (Nat.le_of_not_lt c2)]
      exact Or.inl ⟨rfl, by omega, by omega⟩
def okp (T : RS) (p q : Nat) : Prop := red (ru T p * rl T q) (rl T p * ru T q) ≤ 1000000 ∧ red (rl T p * ru T q) (ru T p * rl T q) ≤ 1000000
theorem m_l255 {X : tM} {N : NG} {T : RS} {a : Nat} (hN : NOK N) (hl : Len X) (hG : Gr X N) (hx : RX X N T) (hr : ∀ p, p < nP N → rg T p < nP N) (hs : ∀ p, p < nP N → 0 < ru T p ∧ 0 < rl T p ∧ small1 T p) (ha : a < nP N) :
    Ok (fX11_isTied_l255 (nI a) X FU 1 0) (fun w => (w = 1 ∧ ∀ p q, p < nP N → q < p → rg T p = rg T a → rg T q = rg T a → okp T p q) ∨ (w = 0 ∧ ∃ p q, p < nP N ∧ q < p ∧ rg T p = rg T a ∧ rg T q = rg T a ∧ ¬ okp T p q)) := by
  have hb := hN.1
  refine loop0 (fun n i y => fX11_isTied_l255 (nI a) X n y i) (nP N) (fun i y => (y = 1 ∧ ∀ p q, p < i → q < p → rg T p = rg T a → rg T q = rg T a → okp T p q) ∨ (y = 0 ∧ ∃ p q, p < nP N ∧ q < p ∧ rg T p = rg T a ∧ rg T q = rg T a ∧ ¬ okp T p q)) _ (by omega) ?_ ?_ 1 (Or.inl ⟨rfl, fun p q hp => by omega⟩)
  · intro n y h
    rw [fX11_isTied_l255, hG.1.1, if_pos (nI_le (Nat.le_refl _) (by omega))]
    exact ok_some h
  · intro n i y hi h kk
    rw [fX11_isTied_l255, hG.1.1, if_neg (nI_ge hi (by omega))]
    rcases h with ⟨rfl, h⟩ | ⟨rfl, h⟩
    · rw [if_neg (by decide)]
      refine ok_call (P := fun y => (y = 1 ∧ ∀ q, q < i → rg T i = rg T a → rg T q = rg T a → okp T i q) ∨ (y = 0 ∧ ∃ p q, p < nP N ∧ q < p ∧ rg T p = rg T a ∧ rg T q = rg T a ∧ ¬ okp T p q)) ?_ ?_
      · refine loop0 (fun n j y => fX11_isTied_l272 (nI a) (nI i) X n y j) i (fun j y => (y = 1 ∧ ∀ q, q < j → rg T i = rg T a → rg T q = rg T a → okp T i q) ∨ (y = 0 ∧ ∃ p q, p < nP N ∧ q < p ∧ rg T p = rg T a ∧ rg T q = rg T a ∧ ¬ okp T p q)) _ (by omega) ?_ ?_ 1 (Or.inl ⟨rfl, fun q hq => by omega⟩)
        · intro n y h
          rw [fX11_isTied_l272, if_pos (nI_le (Nat.le_refl _) (by omega))]
          exact ok_some h
        · intro n j y hj h kk
          have r1 := hr i hi
          have r2 := hr a ha
          have r3 := hr j (by omega)
          rw [fX11_isTied_l272, if_neg (nI_ge hj (by omega))]
          rcases h with ⟨rfl, h⟩ | ⟨rfl, h⟩
          · rw [if_neg (by decide), ln1232 hl, chk_nI (by omega) (by omega), chk_nI (by omega) (by omega), nI_clamp (by omega), nI_clamp (by omega), (hx i hi).1, (hx a ha).1]
            have skip : ¬ (rg T i = rg T a ∧ rg T j = rg T a) → Ok (bnd (nI j + 1) fun x68 => fX11_isTied_l272 (nI a) (nI i) X n 1 x68) (fun y => (y = 1 ∧ ∀ q, q < i → rg T i = rg T a → rg T q = rg T a → okp T i q) ∨ (y = 0 ∧ ∃ p q, p < nP N ∧ q < p ∧ rg T p = rg T a ∧ rg T q = rg T a ∧ ¬ okp T p q)) := fun c => by
              rw [bnd_eq, nI_1]
              refine kk 1 (Or.inl ⟨rfl, fun q hq g1 g2 => ?_⟩)
              by_cases z : q = j
              · subst z; exact absurd ⟨g1, g2⟩ c
              · exact h q (by omega) g1 g2
            by_cases e1 : rg T i = rg T a
            · rw [if_pos (by rw [e1]), chk_nI (by omega) (by omega), chk_nI (by omega) (by omega), nI_clamp (by omega), (hx j (by omega)).1]
              by_cases e2 : rg T j = rg T a
              · rw [if_pos (by rw [e2])]
                rcases m_small hN hl hx hs hi (show j < nP N by omega) with ⟨ev, sm⟩ | ⟨ev, sm⟩
                · rw [ev, Option.bind_some, if_neg (by decide), Option.bind_some, bnd_eq, nI_1]
                  refine kk 1 (Or.inl ⟨rfl, fun q hq g1 g2 => ?_⟩)
                  by_cases z : q = j
                  · subst z; exact sm
                  · exact h q (by omega) g1 g2
                · rw [ev, Option.bind_some, if_pos rfl, Option.bind_some, bnd_eq, nI_1]
                  exact kk 0 (Or.inr ⟨rfl, i, j, hi, hj, e1, e2, sm⟩)
              · rw [if_neg (fun q => e2 ((nI_eq (by omega) (by omega)).mp q)), Option.bind_some]
                exact skip (fun c => e2 c.2)
            · rw [if_neg (fun q => e1 ((nI_eq (by omega) (by omega)).mp q)), Option.bind_some]
              exact skip (fun c => e1 c.1)
          · rw [if_pos rfl]
            exact ok_some (Or.inr ⟨rfl, h⟩)
      · rintro y hy
        rw [bnd_eq, nI_1]
        rcases hy with ⟨rfl, hy⟩ | ⟨rfl, hy⟩
        · refine kk 1 (Or.inl ⟨rfl, fun p q hp hq g1 g2 => ?_⟩)
          by_cases z : p = i
          · subst z; exact hy q hq g1 g2
          · exact h p q (by omega) hq g1 g2
        · exact kk 0 (Or.inr ⟨rfl, hy⟩)
    · rw [if_pos rfl]
      exact ok_some (Or.inr ⟨rfl, h⟩)
