/-! once: greatest common divisors, tables -/
def gcI (R rw : Nat → Nat) (i : Nat) : Nat → Nat
  | 0 => R (rw i)
  | d + 1 => Nat.gcd (gcI R rw i d) (R (rw (i + d + 1)))
def gcR (R rw : Nat → Nat) (i j : Nat) : Nat := gcI R rw i (j - i)
theorem gcI_dvd {R rw : Nat → Nat} {i : Nat} : ∀ {d e : Nat}, e ≤ d → gcI R rw i d ∣ R (rw (i + e)) := by
  intro d
  induction d with
  | zero => intro e he; have : e = 0 := by omega
            subst this; exact Nat.dvd_refl _
  | succ d ih =>
    intro e he
    by_cases z : e = d + 1
    · subst z; exact Nat.gcd_dvd_right _ _
    · exact Nat.dvd_trans (Nat.gcd_dvd_left _ _) (ih (by omega))
theorem gcI_of {R rw : Nat → Nat} {i x : Nat} : ∀ {d : Nat}, (∀ e, e ≤ d → x ∣ R (rw (i + e))) → x ∣ gcI R rw i d := by
  intro d
  induction d with
  | zero => intro h; exact h 0 (Nat.le_refl _)
  | succ d ih => intro h; exact Nat.dvd_gcd (ih (fun e he => h e (by omega))) (h (d + 1) (Nat.le_refl _))
theorem gcR_sub {R rw : Nat → Nat} {i j i' j' : Nat} (h1 : i ≤ i') (h2 : i' ≤ j') (h3 : j' ≤ j) : gcR R rw i j ∣ gcR R rw i' j' := by
  refine gcI_of (fun e he => ?_)
  have := gcI_dvd (R := R) (rw := rw) (i := i) (d := j - i) (e := i' - i + e) (by omega)
  rw [show i + (i' - i + e) = i' + e by omega] at this
  exact this
theorem gcR_dvd {R rw : Nat → Nat} {i j k : Nat} (h1 : i ≤ k) (h2 : k ≤ j) : gcR R rw i j ∣ R (rw k) := by
  have := gcI_dvd (R := R) (rw := rw) (i := i) (d := j - i) (e := k - i) (by omega)
  rw [show i + (k - i) = k by omega] at this
  exact this
theorem gcR_self {R rw : Nat → Nat} {i : Nat} : gcR R rw i i = R (rw i) := by rw [gcR, Nat.sub_self]; rfl
theorem gcR_succ {R rw : Nat → Nat} {i j : Nat} (h : i ≤ j) : gcR R rw i (j + 1) = Nat.gcd (gcR R rw i j) (R (rw (j + 1))) := by
  rw [gcR, gcR, show j + 1 - i = (j - i) + 1 by omega, gcI, show i + (j - i) + 1 = j + 1 by omega]
def ROK (N : NG) (R rw : Nat → Nat) : Prop := isRw N rw (nP N) ∧ ∀ p, p < nP N → 1 ≤ R p ∧ R p ≤ 1000
theorem gcR_ok {N : NG} {R rw : Nat → Nat} (h : ROK N R rw) {i j : Nat} (h1 : i ≤ j) (h2 : j < nP N) : 1 ≤ gcR R rw i j ∧ gcR R rw i j ≤ 1000 := by
  have hr := h.2 _ (h.1 i (by omega)).1.1
  have hd := gcR_dvd (R := R) (rw := rw) (i := i) (j := j) (k := i) (Nat.le_refl _) h1
  have hp : 0 < R (rw i) := by omega
  exact ⟨Nat.pos_of_dvd_of_pos hd hp, Nat.le_trans (Nat.le_of_dvd hp hd) hr.2⟩
/-- the LINES across: what they store -/
def inI (rw : Nat → Nat) (a b p : Nat) : Prop := ∃ y, a ≤ y ∧ y ≤ b ∧ rw y = p
noncomputable def XT (N : NG) (R rw : Nat → Nat) (i s j l : Nat) : Nat := @ite _ (inI rw i s (nF N l) ∧ inI rw (s + 1) j (nT N l)) (Classical.propDecidable _) (R (nF N l) * nG N l 0 / gcR R rw i j + nS N l) 0
noncomputable def XX (N : NG) (R rw : Nat → Nat) (i s j : Nat) : Nat := sumTo (XT N R rw i s j) (nL N)
theorem XT_le {N : NG} {R rw : Nat → Nat} (hN : NOK N) (h : ROK N R rw) {i s j l : Nat} (hl : l < nL N) : XT N R rw i s j l ≤ 50060 := by
  unfold XT
  by_cases q : inI rw i s (nF N l) ∧ inI rw (s + 1) j (nT N l)
  · rw [if_pos q]
    obtain ⟨f1, -, f3⟩ := hN.2.2.1 l hl
    have h1 : R (nF N l) * nG N l 0 ≤ 1000 * 50 := Nat.mul_le_mul (h.2 _ f1).2 (hN.2.2.2 l 0 hl (by omega)).1
    have h2 := Nat.div_le_self (R (nF N l) * nG N l 0) (gcR R rw i j)
    omega
  · rw [if_neg q]; omega
theorem XX_le {N : NG} {R rw : Nat → Nat} (hN : NOK N) (h : ROK N R rw) {i s j : Nat} : XX N R rw i s j ≤ 1001200 := by
  have hb := hN.1
  have : ∀ n, n ≤ nL N → sumTo (XT N R rw i s j) n ≤ 50060 * n := by
    intro n
    induction n with
    | zero => intro _; exact Nat.le_refl _
    | succ n ih =>
      intro hn
      have h1 := ih (by omega)
      have h2 := XT_le (i := i) (s := s) (j := j) (l := n) hN h (by omega)
      rw [sumTo]; omega
  have := this (nL N) (Nat.le_refl _)
  unfold XX; omega
def DM (M : tM) (k i j : Nat) : Nat := (mI M k 0 (12 * i + j)).toNatClampNeg
noncomputable def vvM (M : tM) (k : Nat) (N : NG) (R rw : Nat → Nat) (i s j : Nat) : Nat := DM M k i s + DM M k (s + 1) j + XX N R rw i s j
def PT (M : tM) (kD kS : Nat) (N : NG) (R rw : Nat → Nat) (i j : Nat) : Prop := (mI M kD 0 (12 * i + j) = nI (DM M kD i j) ∧ DM M kD i j ≤ 1100000 * (j - i)) ∧ mI M kS 0 (12 * i + j) = nI (DM M kS i j) ∧ (i ≤ DM M kS i j ∧ DM M kS i j < j) ∧ DM M kD i j = vvM M kD N R rw i (DM M kS i j) j ∧ (∀ t, i ≤ t → t < DM M kS i j → DM M kD i j < vvM M kD N R rw i t j) ∧ ∀ t, DM M kS i j ≤ t → t < j → DM M kD i j ≤ vvM M kD N R rw i t j
def TB (M : tM) (kD kS : Nat) (N : NG) (R rw : Nat → Nat) (d i0 : Nat) : Prop := (∀ i, i < nP N → mI M kD 0 (12 * i + i) = 0) ∧ ∀ i j, i < j → j < nP N → (j - i < d ∨ (j - i = d ∧ i < i0)) → PT M kD kS N R rw i j
theorem TB.at {M : tM} {kD kS : Nat} {N : NG} {R rw : Nat → Nat} {d i0 : Nat} (h : TB M kD kS N R rw d i0) {i j : Nat} (hij : i ≤ j) (hj : j < nP N) (hd : j - i < d) : mI M kD 0 (12 * i + j) = nI (DM M kD i j) ∧ DM M kD i j ≤ 1100000 * (j - i) := by
  by_cases e : i = j
  · subst e
    have := h.1 i hj
    have e2 : DM M kD i i = 0 := by rw [DM, this]; rfl
    rw [e2, this]; exact ⟨rfl, Nat.zero_le _⟩
  · exact (h.2 i j (by omega) hj (Or.inl hd)).1
theorem PT.congr {M M' : tM} {kD kS : Nat} {N : NG} {R rw : Nat → Nat} {i j : Nat} (h : PT M kD kS N R rw i j) (hD : ∀ a b, i ≤ a → a ≤ b → b ≤ j → mI M' kD 0 (12 * a + b) = mI M kD 0 (12 * a + b)) (hS : mI M' kS 0 (12 * i + j) = mI M kS 0 (12 * i + j)) (hij : i < j) : PT M' kD kS N R rw i j := by
  have eS : DM M' kS i j = DM M kS i j := by rw [DM, DM, hS]
  have eD : ∀ a b, i ≤ a → a ≤ b → b ≤ j → DM M' kD a b = DM M kD a b := fun a b h1 h2 h3 => by rw [DM, DM, hD a b h1 h2 h3]
  have eV : ∀ t, i ≤ t → t < j → vvM M' kD N R rw i t j = vvM M kD N R rw i t j := fun t h1 h2 => by rw [vvM, vvM, eD i t (Nat.le_refl _) h1 (by omega), eD (t + 1) j (by omega) (by omega) (Nat.le_refl _)]
  obtain ⟨a, b, c, d, e, f⟩ := h
  unfold PT
  rw [eS, eD i j (Nat.le_refl _) (by omega) (Nat.le_refl _), hD i j (Nat.le_refl _) (by omega) (Nat.le_refl _), hS]
  exact ⟨a, b, c, by rw [eV _ c.1 c.2]; exact d, fun t h1 h2 => by rw [eV t h1 (by omega)]; exact e t h1 h2, fun t h1 h2 => by rw [eV t (by omega) h2]; exact f t h1 h2⟩
theorem TB_uniq {M M' : tM} {kD kS kD' kS' : Nat} {N : NG} {R rw : Nat → Nat} (h : TB M kD kS N R rw (nP N) 0) (h' : TB M' kD' kS' N R rw (nP N) 0) : ∀ d i j, j - i ≤ d → i ≤ j → j < nP N → DM M kD i j = DM M' kD' i j ∧ (i < j → DM M kS i j = DM M' kS' i j) := by
  intro d
  induction d with
  | zero =>
    intro i j h1 h2 h3
    have e : i = j := by omega
    subst e
    refine ⟨?_, fun q => by omega⟩
    rw [DM, DM, h.1 i h3, h'.1 i h3]
  | succ d ih =>
    intro i j h1 h2 h3
    by_cases e : i = j
    · subst e
      refine ⟨?_, fun q => by omega⟩
      rw [DM, DM, h.1 i h3, h'.1 i h3]
    obtain ⟨-, -, c, d1, e1, f1⟩ := h.2 i j (by omega) h3 (Or.inl (by omega))
    obtain ⟨-, -, c', d1', e1', f1'⟩ := h'.2 i j (by omega) h3 (Or.inl (by omega))
    have ev : ∀ t, i ≤ t → t < j → vvM M kD N R rw i t j = vvM M' kD' N R rw i t j := fun t a b => by
      rw [vvM, vvM, (ih i t (by omega) a (by omega)).1, (ih (t + 1) j (by omega) (by omega) h3).1]
    have es : DM M kS i j = DM M' kS' i j := by
      rcases Nat.lt_trichotomy (DM M kS i j) (DM M' kS' i j) with z | z | z
      · have a1 := e1' _ c.1 z
        have a2 := f1 _ (by omega) c'.2
        rw [← ev _ c.1 c.2, ← d1] at a1
        rw [ev _ c'.1 c'.2, ← d1'] at a2
        omega
      · exact z
      · have a1 := e1 _ c'.1 z
        have a2 := f1' _ (by omega) c.2
        rw [ev _ c'.1 c'.2, ← d1'] at a1
        rw [← ev _ c.1 c.2, ← d1] at a2
        omega
    refine ⟨?_, fun _ => es⟩
    rw [d1, d1', es, ev _ c'.1 c'.2]
/-! the class's -/
theorem ix12 (i j : Nat) : nI i * 12 + nI j = nI (12 * i + j) := by rw [L32 12, pk_mul, nI_add, Nat.mul_comm]
theorem ix12' (i j : Nat) : 12 * nI i + nI j = nI (12 * i + j) := by rw [L32 12, pk_mul, nI_add]
def GC3 (M : tM) (k : Nat) (N : NG) (R rw : Nat → Nat) (i0 : Nat) : Prop := ∀ i j, i < i0 → i ≤ j → j < nP N → mI M k 0 (12 * i + j) = nI (gcR R rw i j)
theorem c_divs {M : tM} {N : NG} {R rw : Nat → Nat} (hN : NOK N) (hl : Len M) (hC : Cg M M N) (h : ROK N R rw) (h1 : ∀ i, i < nP N → mI M 701 0 i = nI (rw i)) (hR : ∀ p, p < nP N → mI M 7 p 6 = nI (R p)) :
    Ok (fX6_findDivisors M) (fun m => Fr [703, 704] M m ∧ GC3 m 703 N R rw (nP N) ∧ ∀ i, i < nP N → mI m 704 0 (12 * i + i) = 0) := by
  have hb := hN.1
  rw [fX6_findDivisors]
  refine ok_call (P := fun m => Fr [703, 704] M m ∧ GC3 m 703 N R rw (nP N) ∧ ∀ i, i < nP N → mI m 704 0 (12 * i + i) = 0) ?_ (fun _ h => ok_some h)
  refine loop0 (fun n i m => fX6_findDivisors_l2 n i m) (nP N) (fun i m => Fr [703, 704] M m ∧ GC3 m 703 N R rw i ∧ ∀ i', i' < i → mI m 704 0 (12 * i' + i') = 0) _ (by omega) ?_ ?_ M ⟨Fr.refl, fun i j hi => by omega, fun i hi => by omega⟩
  · rintro n m ⟨F, k1, k2⟩
    rw [fX6_findDivisors_l2, F.oI (by decide), hC.1.1, if_pos (nI_le (Nat.le_refl _) (by omega))]
    exact ok_some ⟨F, k1, k2⟩
  · rintro n i m hi ⟨F, k1, k2⟩ kk
    have hri := (h.1 i hi).1.1
    have e11 := ix12 i i
    rw [fX6_findDivisors_l2, F.oI (by decide), hC.1.1, if_neg (nI_ge hi (by omega)), F.n, ln701 hl, chk_nI (by omega) (by omega), nI_clamp (by omega), F.aI (by decide), h1 i hi, F.n, ln200 hl, chk_nI (by omega) (by omega), bnd_eq, nI_clamp (by omega), F.aR (by decide), (hC.2.1 _ hri).1.1, Option.bind_some, bnd_eq, F.oI (by decide), hR _ hri]
    have key : Ok (fX6_findDivisors_l33 (nI i) FU (nI (R (rw i))) (nI i) m) (fun m2 => Fr [703] m m2 ∧ (∀ j, i ≤ j → j < nP N → mI m2 703 0 (12 * i + j) = nI (gcR R rw i j)) ∧ ∀ q, q < 12 * i → mI m2 703 0 q = mI m 703 0 q) := by
      refine loopG (fun n k (s : Int32 × tM) => fX6_findDivisors_l33 (nI i) n s.1 k s.2) (nP N) (fun k s => (i ≤ k ∧ Fr [703] m s.2) ∧ ((k = i ∧ s.1 = nI (R (rw i))) ∨ (i < k ∧ s.1 = nI (gcR R rw i (k - 1)))) ∧ (∀ j, i ≤ j → j < k → mI s.2 703 0 (12 * i + j) = nI (gcR R rw i j)) ∧ ∀ q, q < 12 * i → mI s.2 703 0 q = mI m 703 0 q) _ ?_ ?_ FU i (nI (R (rw i)), m) (by omega) (FU_lt (by omega)) ⟨⟨Nat.le_refl _, Fr.refl⟩, Or.inl ⟨rfl, rfl⟩, fun j h1 h2 => by omega, fun _ _ => rfl⟩
      · rintro n ⟨y, s⟩ ⟨⟨hk, G⟩, -, k3, k4⟩
        have G : Fr [703] m s := G
        show Ok (fX6_findDivisors_l33 (nI i) (n + 1) y (nI (nP N)) s) _
        rw [fX6_findDivisors_l33, G.oI (by decide), F.oI (by decide), hC.1.1, if_pos (nI_le (Nat.le_refl _) (by omega))]
        exact ok_some ⟨G, k3, k4⟩
      · rintro n k ⟨y, s⟩ hk ⟨⟨hik, G⟩, k5, k3, k4⟩ kk2
        have G : Fr [703] m s := G
        have hrk := (h.1 k hk).1.1
        have hRk := h.2 _ hrk
        show Ok (fX6_findDivisors_l33 (nI i) (n + 1) y (nI k) s) _
        obtain ⟨yv, hy, hyb, hg⟩ : ∃ yv, y = nI yv ∧ (1 ≤ yv ∧ yv ≤ 1000) ∧ Nat.gcd yv (R (rw k)) = gcR R rw i k := by
          rcases k5 with ⟨rfl, h5⟩ | ⟨hlt, h5⟩
          · exact ⟨_, h5, hRk, by rw [Nat.gcd_self, gcR_self]⟩
          · refine ⟨_, h5, gcR_ok h (by omega) (by omega), ?_⟩
            have := gcR_succ (R := R) (rw := rw) (i := i) (j := k - 1) (by omega)
            rw [show k - 1 + 1 = k by omega] at this
            exact this.symm
        have hgk := gcR_ok h hik hk
        rw [fX6_findDivisors_l33, G.oI (by decide), F.oI (by decide), hC.1.1, if_neg (nI_ge hk (by omega)), G.n, F.n, ln701 hl, chk_nI (by omega) (by omega), nI_clamp (by omega), G.aI (by decide), F.aI (by decide), h1 k hk, G.n, F.n, ln200 hl, chk_nI (by omega) (by omega), bnd_eq, nI_clamp (by omega), G.aR (by decide), F.aR (by decide), (hC.2.1 _ hrk).1.1, Option.bind_some, G.oI (by decide), F.oI (by decide), hR _ hrk, hy, nI_l (n := yv) (by omega), nI_l (n := R (rw k)) (by omega), c_gcd (by omega) (by omega) (by omega), Option.bind_some, bnd_eq, lN_i, hg, ix12, G.n, F.n, ln703 hl, chk_nI (by omega) (by omega), bnd_eq, nI_clamp (by omega), bnd_eq, nI_1]
        refine kk2 (nI (gcR R rw i k), _) ⟨⟨by omega, G.wI (by decide)⟩, Or.inr ⟨by omega, rfl⟩, fun j h1 h2 => ?_, fun q hq => ?_⟩
        · show mI (sI s 703 0 _ _) 703 0 _ = _
          rw [mI_sI]
          by_cases z : j = k
          · rw [if_pos ⟨rfl, rfl, by rw [z]⟩, z]
          · rw [if_neg (by omega)]; exact k3 j h1 (by omega)
        · show mI (sI s 703 0 _ _) 703 0 _ = _
          rw [mI_sI, if_neg (by omega)]; exact k4 q hq
    refine ok_call key ?_
    rintro m2 ⟨F2, q1, q2⟩
    have G2 : Fr [703, 704] M m2 := F.step F2 (by decide)
    rw [ix12, G2.n, ln704 hl, chk_nI (by omega) (by omega), bnd_eq, bnd_eq, nI_1, nI_clamp (by omega)]
    refine kk _ ⟨G2.wI (by decide), fun a b ha hab hbP => ?_, fun a ha => ?_⟩
    · rw [mI_sI, if_neg (by simp)]
      by_cases z : a = i
      · subst z; exact q1 b hab hbP
      · rw [q2 _ (by omega)]; exact k1 a b (by omega) hab hbP
    · rw [mI_sI]
      by_cases z : a = i
      · rw [if_pos ⟨rfl, rfl, by rw [z]⟩]
      · rw [if_neg (by omega), F2.aI (by decide)]; exact k2 a (by omega)
theorem inI_pos {N : NG} {rw : Nat → Nat} (h : isRw N rw (nP N)) {a b p i0 : Nat} (hi : i0 < nP N) (e : rw i0 = p) (hb : b < nP N) : inI rw a b p ↔ a ≤ i0 ∧ i0 ≤ b := by
  constructor
  · rintro ⟨y, h1, h2, h3⟩
    have : y = i0 := rw_inj h (by omega) hi (by rw [h3, e])
    omega
  · rintro ⟨h1, h2⟩; exact ⟨i0, h1, h2, e⟩
theorem c_across {M : tM} {N : NG} {R rw : Nat → Nat} {i s j : Nat} (hN : NOK N) (hl : Len M) (hC : Cg M M N) (h : ROK N R rw) (hw : RwC M N rw (nP N)) (hR : ∀ p, p < nP N → mI M 7 p 6 = nI (R p)) (hg : GC3 M 703 N R rw (nP N)) (h1 : ∀ p, p < nP N → nH N p = 1) (his : i ≤ s) (hsj : s < j) (hj : j < nP N) : fX6_storesAcross (nI i) (nI s) (nI j) M = some (nI (XX N R rw i s j)) := by
  have hb := hN.1
  have hgv := gcR_ok h (show i ≤ j by omega) hj
  have emax : fJ9_max_7cf53 (nI (gcR R rw i j)) 1 M = some (nI (gcR R rw i j)) := by
    rw [fJ9_max_7cf53, if_neg (show ¬ nI (gcR R rw i j) < (1 : Int32) from nI_nlt (b := 1) hgv.1 (by omega))]
  rw [fX6_storesAcross, ix12, ln703 hl, chk_nI (by omega) (by omega), nI_clamp (by omega), hg i j (by omega) (by omega) hj, emax, Option.bind_some]
  have key : Ok (fX6_storesAcross_l23 (nI i) (nI s) (nI j) (nI (gcR R rw i j)) M FU 0 0) (fun w => w = nI (XX N R rw i s j)) := by
    refine loop0 (fun n l y => fX6_storesAcross_l23 (nI i) (nI s) (nI j) (nI (gcR R rw i j)) M n y l) (nL N) (fun l y => y = nI (sumTo (XT N R rw i s j) l)) _ (by omega) ?_ ?_ 0 rfl
    · intro n y hy
      rw [fX6_storesAcross_l23, hC.1.2, if_pos (nI_le (Nat.le_refl _) (by omega))]
      exact ok_some hy
    · intro n l y hl' hy kk
      have cl := (hC.2.2.1 l hl').1
      obtain ⟨f1, f2, f3⟩ := hN.2.2.1 l hl'
      obtain ⟨a, ha, ea, va⟩ := (hw.2 _ f1).1 (rw_sur h.1 _ f1)
      obtain ⟨b, hb', eb, vb⟩ := (hw.2 _ f2).1 (rw_sur h.1 _ f2)
      have ia := inI_pos (a := i) (b := s) h.1 ha ea (by omega)
      have ib := inI_pos (a := s + 1) (b := j) h.1 hb' eb hj
      rw [fX6_storesAcross_l23, hC.1.2, if_neg (nI_ge hl' (by omega)), ln201 hl, chk_nI (by omega) (by omega), bnd_eq, nI_clamp (by omega), cl.1, Option.bind_some, bnd_eq, cl.2.2.1, Option.bind_some, (hC.2.1 _ f1).1.2.1, ln702 hl, chk_nI (by omega) (by omega), bnd_eq, nI_clamp (by omega), va, bnd_eq, cl.2.2.2.1, Option.bind_some, (hC.2.1 _ f2).1.2.1, chk_nI (by omega) (by omega), bnd_eq, nI_clamp (by omega), vb]
      have miss : ¬ (inI rw i s (nF N l) ∧ inI rw (s + 1) j (nT N l)) → Ok (bnd (nI l + 1) fun x26 => fX6_storesAcross_l23 (nI i) (nI s) (nI j) (nI (gcR R rw i j)) M n y x26) (fun w => w = nI (XX N R rw i s j)) := fun q => by
        rw [bnd_eq, nI_1]
        refine kk y ?_
        rw [hy, sumTo, XT, if_neg q]; rfl
      by_cases c1 : a < i
      · rw [if_pos (nI_lt c1 (by omega)), Option.bind_some]
        exact miss (fun q => by have := ia.mp q.1; omega)
      rw [if_neg (nI_nlt (by omega) (by omega))]
      by_cases c2 : s < a
      · rw [if_pos (nI_lt c2 (by omega)), Option.bind_some]
        exact miss (fun q => by have := ia.mp q.1; omega)
      rw [if_neg (nI_nlt (by omega) (by omega))]
      by_cases c3 : b ≤ s
      · rw [if_pos (nI_le c3 (by omega)), Option.bind_some]
        exact miss (fun q => by have := ib.mp q.2; omega)
      rw [if_neg (nI_ge (by omega) (by omega))]
      by_cases c4 : j < b
      · rw [if_pos (nI_lt c4 (by omega)), Option.bind_some]
        exact miss (fun q => by have := ib.mp q.2; omega)
      have eg : fX4_givesIn l 0 M = some (nI (nG N l 0)) := by
        have := cGives (h := 0) hN hC hl' (by rw [h1 _ f1]; omega)
        rw [nI_0] at this; exact this
      have hRb := h.2 _ f1
      have hGb := (hN.2.2.2 l 0 hl' (by omega)).1
      have m1 : R (nF N l) * nG N l 0 ≤ 1000 * 50 := Nat.mul_le_mul hRb.2 hGb
      rw [if_neg (nI_nlt (by omega) (by omega)), bnd_eq, Option.bind_some, eg, Option.bind_some, chk_tr (show nz4 (nI (gcR R rw i j)) = true from decide_eq_true (nI_ne0 (by omega) (by omega))), bnd_eq, hR _ f1, cl.2.2.2.2.1, pk_mul, pk_div (by omega) (by omega) (by omega), nI_add, Option.bind_some, bnd_eq, nI_1]
      refine kk _ ?_
      rw [hy, nI_add, sumTo, XT, if_pos ⟨ia.mpr (by omega), ib.mpr (by omega)⟩]
  obtain ⟨w, e, rfl⟩ := key
  rw [e, Option.bind_some]
theorem c_two {M : tM} {N : NG} {R rw : Nat → Nat} {i j : Nat} (hN : NOK N) (hl : Len M) (hC : Cg M M N) (h : ROK N R rw) (hw : RwC M N rw (nP N)) (hR : ∀ p, p < nP N → mI M 7 p 6 = nI (R p)) (hg : GC3 M 703 N R rw (nP N)) (h1 : ∀ p, p < nP N → nH N p = 1) (hij : i < j) (hj : j < nP N) (hT : TB M 704 705 N R rw (j - i) i) :
    Ok (fX6_partInTwo (nI i) (nI j) M) (fun m => Fr [704, 705] M m ∧ (∀ q, ¬ q = 12 * i + j → mI m 704 0 q = mI M 704 0 q ∧ mI m 705 0 q = mI M 705 0 q) ∧ PT m 704 705 N R rw i j) := by
  have hb := hN.1
  rw [fX6_partInTwo, bnd_eq, ix12, ln704 hl, chk_nI (by omega) (by omega), bnd_eq, nI_clamp (by omega)]
  have vb : ∀ t, i ≤ t → t < j → vvM M 704 N R rw i t j ≤ 1100000 * (j - i) := fun t a b => by
    have h1 := (hT.at a (by omega) (by omega)).2
    have h2 := (hT.at (i := t + 1) (j := j) (by omega) hj (by omega)).2
    have h3 := XX_le (i := i) (s := t) (j := j) hN h
    have e1 : 1100000 * (t - i) + 1100000 * (j - (t + 1)) + 1100000 = 1100000 * (j - i) := by omega
    unfold vvM; omega
  have key : Ok (fX6_partInTwo_l18 (nI i) (nI j) (nI (12 * i + j)) FU (nI i) (sI M 704 0 (12 * i + j) 1000000000)) (fun m => Fr [704, 705] M m ∧ (∀ q, ¬ q = 12 * i + j → mI m 704 0 q = mI M 704 0 q ∧ mI m 705 0 q = mI M 705 0 q) ∧ ∃ b, (i ≤ b ∧ b < j) ∧ mI m 704 0 (12 * i + j) = nI (vvM M 704 N R rw i b j) ∧ mI m 705 0 (12 * i + j) = nI b ∧ (∀ u, i ≤ u → u < b → vvM M 704 N R rw i b j < vvM M 704 N R rw i u j) ∧ ∀ u, b ≤ u → u < j → vvM M 704 N R rw i b j ≤ vvM M 704 N R rw i u j) := by
    refine loopG (fun n t m => fX6_partInTwo_l18 (nI i) (nI j) (nI (12 * i + j)) n t m) j (fun t m => i ≤ t ∧ Fr [704, 705] M m ∧ (∀ q, ¬ q = 12 * i + j → mI m 704 0 q = mI M 704 0 q ∧ mI m 705 0 q = mI M 705 0 q) ∧ ((t = i ∧ mI m 704 0 (12 * i + j) = nI 1000000000) ∨ ∃ b, (i ≤ b ∧ b < t) ∧ mI m 704 0 (12 * i + j) = nI (vvM M 704 N R rw i b j) ∧ mI m 705 0 (12 * i + j) = nI b ∧ (∀ u, i ≤ u → u < b → vvM M 704 N R rw i b j < vvM M 704 N R rw i u j) ∧ ∀ u, b ≤ u → u < t → vvM M 704 N R rw i b j ≤ vvM M 704 N R rw i u j)) _ ?_ ?_ FU i _ (by omega) (FU_lt (by omega)) ⟨Nat.le_refl _, Fr.refl.wI (by decide), fun q hq => ⟨by rw [mI_sI, if_neg (fun y => hq y.2.2)], by rw [mI_sI, if_neg (by simp)]⟩, Or.inl ⟨rfl, by rw [mI_sI, if_pos ⟨rfl, rfl, rfl⟩]; rfl⟩⟩
    · rintro n m ⟨-, F, k1, k2⟩
      rw [fX6_partInTwo_l18, if_pos (nI_le (Nat.le_refl _) (by omega))]
      rcases k2 with ⟨z, -⟩ | k2
      · omega
      · exact ok_some ⟨F, k1, k2⟩
    · rintro n t m ht ⟨hit, F, k1, k2⟩ kk
      have x1 := hT.at (i := i) (j := t) hit (by omega) (by omega)
      have x2 := hT.at (i := t + 1) (j := j) (by omega) hj (by omega)
      have e1 : (nI t + 1) * 12 + nI j = nI (12 * (t + 1) + j) := by rw [nI_1, ix12]
      have hlm := hl.fr F
      have hCm := hC.fr F (by decide)
      have hwm : RwC m N rw (nP N) := ⟨fun a ha => (F.aI (by decide)).trans (hw.1 a ha), fun p hp => by rw [F.aI (by decide)]; exact hw.2 p hp⟩
      have ea := c_across (s := t) hN hlm hCm h hwm (fun p hp => (F.oI (by decide)).trans (hR p hp)) (fun a b c d e => (F.aI (by decide)).trans (hg a b c d e)) h1 hit ht hj
      rw [fX6_partInTwo_l18, if_neg (nI_ge ht (by omega)), ix12, F.n, ln704 hl, chk_nI (by omega) (by omega), e1, chk_nI (by omega) (by omega), ea, Option.bind_some, bnd_eq, nI_clamp (show 12 * i + t < 2 ^ 31 by omega), nI_clamp (show 12 * (t + 1) + j < 2 ^ 31 by omega), (k1 (12 * i + t) (by omega)).1, (k1 (12 * (t + 1) + j) (by omega)).1, x1.1, x2.1, nI_add, nI_add, chk_nI (by omega) (by omega), nI_clamp (show 12 * i + j < 2 ^ 31 by omega)]
      have evv : DM M 704 i t + DM M 704 (t + 1) j + XX N R rw i t j = vvM M 704 N R rw i t j := rfl
      rw [evv]
      have vbt := vb t hit ht
      have hjn : 1100000 * (j - i) ≤ 13200000 := by omega
      have setS : Ok (chk (inb (nI (12 * i + j)) 144) <| bnd (sI m 704 0 (12 * i + j) (nI (vvM M 704 N R rw i t j))) fun M13 => chk (inb (nI (12 * i + j)) (mN M13 705 0)) <| bnd (sI M13 705 0 (12 * i + j) (nI t)) fun M15 => some M15) (fun m2 => Fr [704, 705] M m2 ∧ (∀ q, ¬ q = 12 * i + j → mI m2 704 0 q = mI M 704 0 q ∧ mI m2 705 0 q = mI M 705 0 q) ∧ mI m2 704 0 (12 * i + j) = nI (vvM M 704 N R rw i t j) ∧ mI m2 705 0 (12 * i + j) = nI t) := by
        rw [chk_nI (by omega) (by omega), bnd_eq, mN_sI, F.n, ln705 hl, chk_nI (by omega) (by omega), bnd_eq]
        refine ok_some ⟨(F.wI (by decide)).wI (by decide), fun q hq => ⟨?_, ?_⟩, ?_, ?_⟩
        · rw [mI_sI, if_neg (by simp), mI_sI, if_neg (fun y => hq y.2.2)]; exact (k1 q hq).1
        · rw [mI_sI, if_neg (fun y => hq y.2.2), mI_sI, if_neg (by simp)]; exact (k1 q hq).2
        · rw [mI_sI, if_neg (by simp), mI_sI, if_pos ⟨rfl, rfl, rfl⟩]
        · rw [mI_sI, if_pos ⟨rfl, rfl, rfl⟩]
      rcases k2 with ⟨rfl, k2⟩ | ⟨b, ⟨hb1, hb2⟩, k3, k4, k5, k6⟩
      · rw [k2, if_neg (nI_ge (by omega) (by omega))]
        refine ok_call setS ?_
        rintro m2 ⟨F2, q1, q2, q3⟩
        rw [bnd_eq, nI_1]
        exact kk m2 ⟨by omega, F2, q1, Or.inr ⟨t, ⟨Nat.le_refl _, by omega⟩, q2, q3, fun u a b => by omega, fun u a b => by rw [show u = t by omega]; exact Nat.le_refl _⟩⟩
      · have vbb := vb b hb1 (by omega)
        rw [k3]
        by_cases c : vvM M 704 N R rw i b j ≤ vvM M 704 N R rw i t j
        · rw [if_pos (nI_le c (by omega)), Option.bind_some, bnd_eq, nI_1]
          refine kk m ⟨by omega, F, k1, Or.inr ⟨b, ⟨hb1, by omega⟩, k3, k4, k5, fun u a b' => ?_⟩⟩
          by_cases z : u = t
          · rw [z]; exact c
          · exact k6 u a (by omega)
        · rw [if_neg (nI_ge (by omega) (by omega))]
          refine ok_call setS ?_
          rintro m2 ⟨F2, q1, q2, q3⟩
          rw [bnd_eq, nI_1]
          refine kk m2 ⟨by omega, F2, q1, Or.inr ⟨t, ⟨hit, by omega⟩, q2, q3, fun u a b' => ?_, fun u a b' => by rw [show u = t by omega]; exact Nat.le_refl _⟩⟩
          by_cases z : u < b
          · have := k5 u a z; omega
          · have := k6 u (by omega) b'; omega
  refine ok_call key ?_
  rintro m ⟨F, k1, b, ⟨hb1, hb2⟩, k3, k4, k5, k6⟩
  have vbb := vb b hb1 hb2
  have hjn : 1100000 * (j - i) ≤ 13200000 := by omega
  have eD : DM m 704 i j = vvM M 704 N R rw i b j := by rw [DM, k3, nI_clamp (by omega)]
  have eS : DM m 705 i j = b := by rw [DM, k4, nI_clamp (by omega)]
  have eV : ∀ t, i ≤ t → t < j → vvM m 704 N R rw i t j = vvM M 704 N R rw i t j := fun t a b => by
    rw [vvM, vvM, DM, DM, (k1 (12 * i + t) (by omega)).1, (k1 (12 * (t + 1) + j) (by omega)).1]; rfl
  refine ok_some ⟨F, k1, ?_⟩
  unfold PT
  rw [eD, eS]
  exact ⟨⟨k3, vbb⟩, k4, ⟨hb1, hb2⟩, by rw [eV b hb1 hb2], fun t a c => by rw [eV t a (by omega)]; exact k5 t a c, fun t a c => by rw [eV t (by omega) c]; exact k6 t a c⟩
theorem TB_next {M m : tM} {kD kS : Nat} {N : NG} {R rw : Nat → Nat} {i j : Nat} (hij : i < j) (hT : TB M kD kS N R rw (j - i) i) (hj : j < nP N) (b12 : nP N ≤ 12) (ho : ∀ q, ¬ q = 12 * i + j → mI m kD 0 q = mI M kD 0 q ∧ mI m kS 0 q = mI M kS 0 q) (hp : PT m kD kS N R rw i j) : TB m kD kS N R rw (j - i) (i + 1) := by
  refine ⟨fun a ha => by rw [(ho _ (by omega)).1]; exact hT.1 a ha, fun a b hab hb hd => ?_⟩
  by_cases z : a = i ∧ b = j
  · obtain ⟨rfl, rfl⟩ := z; exact hp
  · refine (hT.2 a b hab hb (by omega)).congr (fun x y h1 h2 h3 => (ho _ ?_).1) (ho _ (by omega)).2 hab
    intro q
    have : x = i ∧ y = j := by omega
    omega
theorem c_table {M : tM} {N : NG} {R rw : Nat → Nat} (hN : NOK N) (hl : Len M) (hC : Cg M M N) (h : ROK N R rw) (hw : RwC M N rw (nP N)) (hR : ∀ p, p < nP N → mI M 7 p 6 = nI (R p)) (hg : GC3 M 703 N R rw (nP N)) (h1 : ∀ p, p < nP N → nH N p = 1) (p0 : 0 < nP N) (hD : ∀ i, i < nP N → mI M 704 0 (12 * i + i) = 0) :
    Ok (fX6_arrange_l25 (nI (nP N - 1)) FU 1 M) (fun m => Fr [704, 705] M m ∧ TB m 704 705 N R rw (nP N) 0) := by
  have hb := hN.1
  have e1 : fX6_arrange_l25 (nI (nP N - 1)) FU 1 M = fX6_arrange_l25 (nI (nP N - 1)) FU (nI 1) M := rfl
  rw [e1]
  refine loopG (fun n d m => fX6_arrange_l25 (nI (nP N - 1)) n d m) (nP N) (fun d m => 1 ≤ d ∧ Fr [704, 705] M m ∧ TB m 704 705 N R rw d 0) _ ?_ ?_ FU 1 M p0 (FU_lt (by omega)) ⟨Nat.le_refl _, Fr.refl, hD, fun i j a b c => by omega⟩
  · rintro n m ⟨-, F, k⟩
    rw [fX6_arrange_l25, if_pos (nI_lt (by omega) (by omega))]
    exact ok_some ⟨F, k⟩
  · rintro n d m hd ⟨hd1, F, k⟩ kk
    rw [fX6_arrange_l25, if_neg (nI_nlt (by omega) (by omega))]
    have key : Ok (fX6_arrange_l32 (nI (nP N - 1)) (nI d) FU 0 m) (fun m2 => Fr [704, 705] M m2 ∧ TB m2 704 705 N R rw d (nP N - d)) := by
      refine loop0 (fun n i m2 => fX6_arrange_l32 (nI (nP N - 1)) (nI d) n i m2) (nP N - d) (fun i m2 => Fr [704, 705] M m2 ∧ TB m2 704 705 N R rw d i) _ (by omega) ?_ ?_ m ⟨F, k⟩
      · rintro n m2 ⟨F2, k2⟩
        rw [fX6_arrange_l32, nI_add, if_pos (nI_lt (by omega) (by omega))]
        exact ok_some ⟨F2, k2⟩
      · rintro n i m2 hi ⟨F2, k2⟩ kk2
        rw [fX6_arrange_l32, nI_add, if_neg (nI_nlt (by omega) (by omega))]
        have ed : i + d - i = d := by omega
        refine ok_call (c_two (i := i) (j := i + d) hN (hl.fr F2) (hC.fr F2 (by decide)) h ⟨fun a ha => (F2.aI (by decide)).trans (hw.1 a ha), fun p hp => by rw [F2.aI (by decide)]; exact hw.2 p hp⟩ (fun p hp => (F2.oI (by decide)).trans (hR p hp)) (fun a b c e f => (F2.aI (by decide)).trans (hg a b c e f)) h1 (by omega) (by omega) (by rw [ed]; exact k2)) ?_
        rintro m3 ⟨F3, q1, q2⟩
        rw [bnd_eq, nI_1]
        refine kk2 m3 ⟨F2.step F3 (by decide), ?_⟩
        have := TB_next (i := i) (j := i + d) (by omega) (by rw [ed]; exact k2) (by omega) hb.1 q1 q2
        rw [ed] at this; exact this
    refine ok_call key ?_
    rintro m2 ⟨F2, k2⟩
    rw [bnd_eq, nI_1]
    refine kk m2 ⟨by omega, F2, k2.1, fun i j a b c => k2.2 i j a b (by omega)⟩
