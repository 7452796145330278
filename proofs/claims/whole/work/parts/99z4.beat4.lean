/-! beat: the class's waits on the LINES -/
theorem t_sub {x : Int32} {t : Nat} (h1 : -100000000 ≤ x.toInt) (h2 : x.toInt ≤ 100000000) (ht : t ≤ 100000000) : (x - nI t).toInt = x.toInt - t := by
  rw [Int32.toInt_sub, nI_toInt (by omega)]
  apply Int.bmod_eq_of_le <;> omega
theorem t_add {x : Int32} {t : Nat} (h1 : -100000000 ≤ x.toInt) (h2 : x.toInt ≤ 100000000) (ht : t ≤ 100000000) : (x + nI t).toInt = x.toInt + t := by
  rw [Int32.toInt_add, nI_toInt (by omega)]
  apply Int.bmod_eq_of_le <;> omega
theorem t_nsub {a b : Nat} (ha : a ≤ 100000000) (hb : b ≤ 100000000) : (nI a - nI b).toInt = (a : Int) - b := by
  have h := nI_toInt (n := a) (by omega)
  rw [t_sub (by omega) (by omega) hb, h]
theorem t_neg {a : Nat} (ha : a ≤ 100000000) : (- nI a).toInt = - (a : Int) := by
  rw [← Int32.zero_sub, L32 0, t_nsub (by omega) ha]; omega
theorem xor_sgn (a b : Int32) : (0 ≤ a ^^^ b) ↔ ((a.toInt < 0) ↔ (b.toInt < 0)) := by
  rw [Int32.le_iff_toInt_le]
  have e0 : (0 : Int32).toInt = 0 := by decide
  rw [e0]
  have e1 : (a ^^^ b).toInt < 0 ↔ (a.toBitVec ^^^ b.toBitVec).msb = true := by
    rw [BitVec.msb_eq_toInt, decide_eq_true_iff]; rfl
  have e2 : a.toInt < 0 ↔ a.toBitVec.msb = true := by rw [BitVec.msb_eq_toInt, decide_eq_true_iff]; rfl
  have e3 : b.toInt < 0 ↔ b.toBitVec.msb = true := by rw [BitVec.msb_eq_toInt, decide_eq_true_iff]; rfl
  rw [BitVec.msb_xor] at e1
  rw [e2, e3, ← Int.not_lt, e1]
  cases a.toBitVec.msb <;> cases b.toBitVec.msb <;> simp
theorem nz_nI {m : Nat} (h0 : 0 < m) (h : m < 2 ^ 31) : nz4 (nI m) = true := decide_eq_true (fun q => by have := (nI_eq (b := 0) h (by decide)).mp q; omega)
theorem neg_div {i m : Nat} (hi : i ≤ 100000000) (h0 : 0 < m) (hm : m ≤ 100000000) : (- nI i) / nI m = - nI (i / m) := by
  have hq : i / m ≤ i := Nat.div_le_self _ _
  apply Int32.toInt_inj.mp
  rw [Int32.toInt_div_of_ne_left _ _ (fun e => by
    have h1 := congrArg Int32.toInt e
    rw [t_neg hi] at h1
    have : Int32.minValue.toInt = -2147483648 := by decide
    omega), t_neg hi, t_neg (by omega), nI_toInt (by omega), Int.neg_tdiv, Int.tdiv_eq_ediv_of_nonneg (by omega)]
  rw [Int.natCast_ediv]
theorem fl_form {u q m : Nat} (hq : 1 ≤ q) (hu : u < m) (hb : q * m ≤ 100000000) : nI u - nI (q * m) = - nI (q * m - u) := by
  have hm : 1 * m ≤ q * m := Nat.mul_le_mul_right m hq
  apply Int32.toInt_inj.mp
  rw [t_nsub (by omega) hb, t_neg (by omega)]; omega
theorem neg_eq {a b : Nat} (ha : a ≤ 100000000) (hb : b ≤ 100000000) : - nI a = - nI b ↔ a = b := by
  constructor
  · intro h
    have := congrArg Int32.toInt h
    rw [t_neg ha, t_neg hb] at this; omega
  · rintro rfl; rfl
theorem fl_div {u q m : Nat} (hq : 1 ≤ q) (hu : u < m) : (q * m - u) / m = if u = 0 then q else q - 1 := by
  by_cases z : u = 0
  · rw [if_pos z, z, Nat.sub_zero, Nat.mul_div_cancel _ (by omega)]
  · rw [if_neg z]
    obtain ⟨r, rfl⟩ : ∃ r, q = r + 1 := ⟨q - 1, by omega⟩
    rw [Nat.add_mul, Nat.one_mul, show r * m + m - u = (m - u) + r * m by omega, Nat.add_mul_div_right _ _ (by omega), Nat.div_eq_of_lt (by omega)]; omega
theorem fdv {u q m : Nat} {M : tM} (hu : u < m) (hm : m ≤ 100000000) (hb : q * m ≤ 100000000) : fJ9_floorDiv_7cf53 (nI u - nI (q * m)) (nI m) M = some (- nI q) := by
  rw [fJ9_floorDiv_7cf53, chk_tr (nz_nI (by omega) (by omega)), bnd_eq]
  by_cases z : q = 0
  · subst z
    rw [Nat.zero_mul, show nI u - nI 0 = nI u from Int32.sub_zero _, if_pos ((xor_sgn _ _).mpr (by rw [nI_toInt (by omega), nI_toInt (by omega)]; omega)), pk_div (by omega) (by omega) (by omega), Nat.div_eq_of_lt hu]
    rfl
  · have hm1 : 1 * m ≤ q * m := Nat.mul_le_mul_right m (by omega)
    have hq1 : q ≤ q * m := Nat.le_mul_of_pos_right q (by omega)
    rw [fl_form (by omega) hu hb, if_neg (fun h => by
      have := (xor_sgn _ _).mp h
      rw [t_neg (by omega), nI_toInt (by omega)] at this; omega), neg_div (by omega) (by omega) hm, fl_div (by omega) hu, Int32.neg_mul, pk_mul]
    by_cases y : u = 0
    · rw [if_pos y, y, Nat.sub_zero, if_pos rfl]
    · rw [if_neg y, if_neg (fun h => by
        have := (neg_eq (by have : (q - 1) * m ≤ q * m := Nat.mul_le_mul_right m (by omega); omega) (by omega)).mp h
        have e : q * m = (q - 1) * m + m := by
          obtain ⟨r, rfl⟩ : ∃ r, q = r + 1 := ⟨q - 1, by omega⟩
          rw [Nat.add_mul, Nat.one_mul]; rfl
        omega)]
      congr 1
      apply Int32.toInt_inj.mp
      have e := t_neg (a := q - 1) (by omega)
      rw [L32 1, t_sub (by omega) (by omega) (by omega), e, t_neg (by omega)]; omega
theorem fmd {u q m : Nat} {M : tM} (hu : u < m) (hm : m ≤ 100000000) (hb : q * m ≤ 100000000) : fJ9_floorMod_7cf53 (nI u - nI (q * m)) (nI m) M = some (nI u) := by
  rw [fJ9_floorMod_7cf53, chk_tr (nz_nI (by omega) (by omega)), bnd_eq]
  by_cases z : q = 0
  · subst z
    rw [Nat.zero_mul, show nI u - nI 0 = nI u from Int32.sub_zero _, if_pos ((xor_sgn _ _).mpr (by rw [nI_toInt (by omega), nI_toInt (by omega)]; omega)), pk_rem (by omega) (by omega) (by omega), Nat.mod_eq_of_lt hu]
  · have hm1 : 1 * m ≤ q * m := Nat.mul_le_mul_right m (by omega)
    have hq1 : q ≤ q * m := Nat.le_mul_of_pos_right q (by omega)
    have hr : q * m = (q - 1) * m + m := by
      obtain ⟨r, rfl⟩ : ∃ r, q = r + 1 := ⟨q - 1, by omega⟩
      rw [Nat.add_mul, Nat.one_mul]; rfl
    rw [fl_form (by omega) hu hb, if_neg (fun h => by
      have := (xor_sgn _ _).mp h
      rw [t_neg (by omega), nI_toInt (by omega)] at this; omega), neg_div (by omega) (by omega) hm, fl_div (by omega) hu, Int32.neg_mul, pk_mul]
    by_cases y : u = 0
    · subst y
      rw [if_pos rfl, Nat.sub_zero, Int32.sub_self, if_pos rfl]; rfl
    · have ex : - nI (q * m - u) - - nI ((q - 1) * m) = - nI (m - u) := by
        apply Int32.toInt_inj.mp
        have e := t_neg (a := q * m - u) (by omega)
        rw [Int32.sub_neg, t_add (by omega) (by omega) (by omega), e, t_neg (by omega)]; omega
      rw [if_neg y, ex, if_neg (fun h => by
        have := (neg_eq (b := 0) (by omega) (by omega)).mp h
        omega)]
      congr 1
      apply Int32.toInt_inj.mp
      have e := t_neg (a := m - u) (by omega)
      rw [t_add (by omega) (by omega) (by omega), e, nI_toInt (by omega)]; omega
/-- the class's first FIRING that reaches so much -/
theorem c_reach {M : tM} {N : NG} {R : Nat → Nat} {l need q u rem : Nat} (hN : NOK N) (hC : Cg M M N) (hl : l < nL N) (hR : ∀ p, p < nP N → mI M 7 p 6 = nI (R p)) (hR6 : ∀ p, p < nP N → R p ≤ 60) (hg : gvr N R l need q u) (hrem : rem + nS N l = need + q * gN N l (R (nF N l))) : fX0_firingThatReaches (some l) (nI rem) M = some (nI u) := by
  obtain ⟨f1, f2, f3⟩ := hN.2.2.1 l hl
  obtain ⟨g1, g2, g3⟩ := hg
  have hRF := hR6 _ f1
  have cl := (hC.2.2.1 l hl).1
  have gb := gN_le hN hl (n := u + 1)
  have key : Ok (fX0_firingThatReaches_l8 (some l) (nI rem) M FU 0 0 0) (fun w => w = .inl (nI u)) := by
    refine loop0 (fun n i (s : Int32 × Int32) => fX0_firingThatReaches_l8 (some l) (nI rem) M n s.1 s.2 i) u (fun i s => s.1 = nI (gN N l i) ∧ s.2 = nI (i % nH N (nF N l))) _ (by omega) ?_ ?_ (0, 0) ⟨rfl, by show 0 = nI (0 % _); rw [Nat.zero_mod]; rfl⟩
    · rintro n ⟨y3, y4⟩ ⟨h1, h2⟩
      have h1 : y3 = nI (gN N l u) := h1
      have h2 : y4 = nI (u % nH N (nF N l)) := h2
      subst h1 h2
      obtain ⟨ha, ha4⟩ := ph_lt hN f1 u
      show Ok (fX0_firingThatReaches_l8 (some l) (nI rem) M (n + 1) _ _ (nI u)) _
      rw [fX0_firingThatReaches_l8, Option.bind_some, bnd_eq, cl.2.2.1, Option.bind_some, hR _ f1, if_neg (nI_ge g1 (by omega)), cGives hN hC hl ha, Option.bind_some, bnd_eq, nI_add, bnd_eq, Option.bind_some, c_phase hN hC f1, Option.bind_some]
      have e : gN N l u + nG N l (u % nH N (nF N l)) = gN N l (u + 1) := rfl
      rw [e, if_neg (nI_nlt (by omega) (by omega))]
      exact ok_some rfl
    · rintro n i ⟨y3, y4⟩ hi ⟨h1, h2⟩ kk
      have h1 : y3 = nI (gN N l i) := h1
      have h2 : y4 = nI (i % nH N (nF N l)) := h2
      subst h1 h2
      obtain ⟨ha, ha4⟩ := ph_lt hN f1 i
      show Ok (fX0_firingThatReaches_l8 (some l) (nI rem) M (n + 1) _ _ (nI i)) _
      rw [fX0_firingThatReaches_l8, Option.bind_some, bnd_eq, cl.2.2.1, Option.bind_some, hR _ f1, if_neg (nI_ge (show i < R (nF N l) by omega) (by omega)), cGives hN hC hl ha, Option.bind_some, bnd_eq, nI_add, bnd_eq, Option.bind_some, c_phase hN hC f1, Option.bind_some]
      have e : gN N l i + nG N l (i % nH N (nF N l)) = gN N l (i + 1) := rfl
      have m := gN_mono (N := N) (l := l) (show i + 1 ≤ u by omega)
      rw [e, if_pos (nI_lt (by omega) (by omega)), bnd_eq, nI_1]
      exact kk (_, _) ⟨rfl, rfl⟩
  obtain ⟨w, e, rfl⟩ := key
  rw [fX0_firingThatReaches, e]; rfl
def kWc : List Nat := [107, 108, 109, 10010]
theorem c_l41 {M : tM} {N : NG} {R tm : Nat → Nat} {l : Nat} {E0 : List ED} (hN : NOK N) (hl : Len M) (hC : Cg M M N) (hl' : l < nL N) (hR : ∀ p, p < nP N → mI M 7 p 6 = nI (R p)) (hn : bs R (nP N) ≤ 60) (hB : RBal N R) (hV : VT M 104 105 N R tm) (hE : EC M E0) (hlen : E0.length ≤ 1200) :
    Ok (fX0_addWaitsOn_l41 l (nI (gN N l (R (nF N l)))) FU 0 0 0 M) (fun m => Fr kWc M m ∧ EC m (E0 ++ lnE N R l (R (nT N l)))) := by
  have hb := hN.1
  obtain ⟨f1, f2, f3⟩ := hN.2.2.1 l hl'
  have hR6 : ∀ p, p < nP N → R p ≤ 60 := fun p hp => by have : R p ≤ bs R (nP N) := sumTo_ge hp; omega
  have hRT := hR6 _ f2
  refine loop0 (fun n i (s : Int32 × Int32 × tM) => fX0_addWaitsOn_l41 l (nI (gN N l (R (nF N l)))) n s.1 s.2.1 i s.2.2) (R (nT N l)) (fun i s => s.1 = nI (tN N l i) ∧ s.2.1 = nI (i % nH N (nT N l)) ∧ Fr kWc M s.2.2 ∧ EC s.2.2 (E0 ++ lnE N R l i)) _ (by omega) ?_ ?_ (0, 0, M) ⟨rfl, by show 0 = nI (0 % _); rw [Nat.zero_mod]; rfl, Fr.refl, by rw [lnE, List.append_nil]; exact hE⟩
  · rintro n ⟨y3, y4, m⟩ ⟨h1, h2, F, h3⟩
    have F : Fr kWc M m := F
    have h3 : EC m (E0 ++ lnE N R l (R (nT N l))) := h3
    show Ok (fX0_addWaitsOn_l41 l (nI (gN N l (R (nF N l)))) (n + 1) y3 y4 (nI (R (nT N l))) m) _
    have hCm := hC.fr F (by decide)
    rw [fX0_addWaitsOn_l41, bnd_eq, (hCm.2.2.1 l hl').1.2.2.2.1, Option.bind_some, F.oI (by decide), hR _ f2, if_pos (nI_le (Nat.le_refl _) (by omega))]
    exact ok_some ⟨F, h3⟩
  · rintro n i ⟨y3, y4, m⟩ hi ⟨h1, h2, F, h3⟩ kk
    have h1 : y3 = nI (tN N l i) := h1
    have h2 : y4 = nI (i % nH N (nT N l)) := h2
    have F : Fr kWc M m := F
    have h3 : EC m (E0 ++ lnE N R l i) := h3
    subst h1 h2
    obtain ⟨ha, ha4⟩ := ph_lt hN f2 i
    have hCm := hC.fr F (by decide)
    have cl := (hCm.2.2.1 l hl').1
    have en : tN N l i + nK N l (i % nH N (nT N l)) = tN N l (i + 1) := rfl
    have hk50 := (hN.2.2.2 l _ hl' ha4).2.1
    have el := lnE_len (N := N) (R := R) (l := l) i
    show Ok (fX0_addWaitsOn_l41 l (nI (gN N l (R (nF N l)))) (n + 1) (nI (tN N l i)) (nI (i % nH N (nT N l))) (nI i) m) _
    rw [fX0_addWaitsOn_l41, bnd_eq, cl.2.2.2.1, Option.bind_some, F.oI (by decide), hR _ f2, if_neg (nI_ge hi (by omega)), cTakes hN hCm hl' ha, Option.bind_some, bnd_eq, Option.bind_some, c_phase hN hCm f2, Option.bind_some, bnd_eq, nI_add, en]
    refine ok_call (P := fun m2 => Fr kWc M m2 ∧ EC m2 (E0 ++ lnE N R l (i + 1))) ?_ ?_
    · by_cases z : nK N l (i % nH N (nT N l)) = 0
      · rw [z, if_pos (by decide), lnE, if_pos z, List.append_nil]
        exact ok_some ⟨F, h3⟩
      · rw [if_neg (show ¬ nI _ ≤ (0 : Int32) from nI_ge (a := 0) (by omega) (by omega)), lnE, if_neg z, ← List.append_assoc]
        have n2 := tN_mono (N := N) (l := l) (show i + 1 ≤ R (nT N l) by omega)
        have n3 := (hB.2 l hl').1
        have n4 := tN_le hN hl' (n := R (nT N l))
        have hg := gvr_ex (N := N) (R := R) (l := l) (need := tN N l (i + 1)) (by omega) (by omega)
        have hq := gq_b (N := N) (R := R) (l := l) rfl (show 1 ≤ tN N l (i + 1) by omega) (by omega)
        generalize hneed : tN N l (i + 1) = need at *
        generalize hqq : gq N R l need = q at *
        generalize huu : gu N R l need = u at *
        generalize hKK : gN N l (R (nF N l)) = K at *
        obtain ⟨rem, hrem⟩ : ∃ rem, rem + nS N l = need + q * K := ⟨need + q * K - nS N l, by omega⟩
        have e1 : nI need - nI (nS N l) - 1 = nI (rem - 1) - nI (q * K) := by
          apply Int32.toInt_inj.mp
          have e := t_nsub (a := need) (b := nS N l) (by omega) (by omega)
          rw [L32 1, t_sub (by omega) (by omega) (by omega), e, t_nsub (by omega) (by omega)]; omega
        have e2 : nI need - nI (nS N l) - (- nI q) * nI K = nI rem := by
          apply Int32.toInt_inj.mp
          have e := t_nsub (a := need) (b := nS N l) (by omega) (by omega)
          rw [Int32.neg_mul, pk_mul, Int32.sub_neg, t_add (by omega) (by omega) (by omega), e, nI_toInt (by omega)]; omega
        have hRm : ∀ p, p < nP N → mI m 7 p 6 = nI (R p) := fun p hp => (F.oI (by decide)).trans (hR p hp)
        rw [bnd_eq, cl.2.2.2.2.1, e1, fdv (show rem - 1 < K by omega) (by omega) (by omega), Option.bind_some, e2, c_reach (need := need) (q := q) (u := u) hN hCm hl' hRm hR6 hg (by rw [hKK]; exact hrem), Option.bind_some, bnd_eq, Option.bind_some, (hCm.2.1 _ f2).1.2.1, F.n, ln104 hl, chk_nI (by omega) (by omega), bnd_eq, cl.2.2.1, Option.bind_some, (hCm.2.1 _ f1).1.2.1, chk_nI (by omega) (by omega), nI_clamp (by omega), nI_clamp (by omega), F.aI (by decide), F.aI (by decide), hV.1 _ f2, hV.1 _ f1, nI_add, nI_add, Int32.neg_neg]
        have b1 := bs_lt (n := nP N) f2 hi
        have b2 := bs_lt (n := nP N) f1 hg.1
        refine ok_call (c_wait (a := bs R (nT N l) + i) (b := bs R (nF N l) + u) (r := q) (hl.fr F) h3 (by rw [List.length_append]; omega) (by omega) (by omega)) ?_
        rintro m2 ⟨F2, e2⟩
        exact ok_some ⟨F.step F2 (by decide), e2⟩
    · rintro m2 ⟨F2, e2⟩
      rw [bnd_eq, nI_1]
      exact kk (_, _, m2) ⟨rfl, rfl, F2, e2⟩
theorem lnE_nil {N : NG} {R : Nat → Nat} {l : Nat} : ∀ k, tN N l k = 0 → lnE N R l k = [] := by
  intro k
  induction k with
  | zero => intro _; rfl
  | succ k ih =>
    intro h
    have en : tN N l k + nK N l (k % nH N (nT N l)) = tN N l (k + 1) := rfl
    rw [lnE, ih (by omega), if_pos (by omega)]; rfl
theorem c_waitsOn {M : tM} {N : NG} {R tm : Nat → Nat} {l : Nat} {E0 : List ED} (hN : NOK N) (hl : Len M) (hC : Cg M M N) (hl' : l < nL N) (hR : ∀ p, p < nP N → mI M 7 p 6 = nI (R p)) (hn : bs R (nP N) ≤ 60) (hB : RBal N R) (hV : VT M 104 105 N R tm) (hE : EC M E0) (hlen : E0.length ≤ 1200) :
    Ok (fX0_addWaitsOn (some l) M) (fun m => Fr kWc M m ∧ EC m (E0 ++ lnE N R l (R (nT N l)))) := by
  have hb := hN.1
  obtain ⟨f1, f2, f3⟩ := hN.2.2.1 l hl'
  have cl := (hC.2.2.1 l hl').1
  have hh := (hN.2.1 _ f1).2
  have hR6 : R (nF N l) ≤ bs R (nP N) := sumTo_ge f1
  have hK := (hB.2 l hl').2
  have hK0 := (hB.2 l hl').1
  have hKb := gN_le hN hl' (n := R (nF N l))
  have emax : fJ9_max_7cf53 (nI (nH N (nF N l))) 1 M = some (nI (nH N (nF N l))) := by
    rw [fJ9_max_7cf53, if_neg (show ¬ nI _ < (1 : Int32) from nI_nlt (b := 1) (by omega) (by omega))]
  rw [fX0_addWaitsOn, Option.bind_some, (c_sumG hN hC hl').1, Option.bind_some, bnd_eq, cl.2.2.1, Option.bind_some, bnd_eq, Option.bind_some, (hC.2.1 _ f1).1.2.2.2.2.1, emax, Option.bind_some, chk_tr (nz_nI (by omega) (by omega)), hR _ f1, pk_div (by omega) (by omega) (by omega), bnd_eq, pk_mul, Nat.mul_comm, ← hK]
  by_cases z : gN N l (R (nF N l)) = 0
  · rw [z, if_neg (by decide), lnE_nil _ (by omega), List.append_nil]
    exact ok_some ⟨Fr.refl, hE⟩
  · rw [if_pos (show (0 : Int32) < nI _ from nI_lt (a := 0) (by omega) (by omega))]
    exact ok_call (c_l41 hN hl hC hl' hR hn hB hV hE hlen) (fun m h => ok_some h)
theorem c_lines {M : tM} {N : NG} {R tm : Nat → Nat} (hN : NOK N) (hl : Len M) (hC : Cg M M N) (hR : ∀ p, p < nP N → mI M 7 p 6 = nI (R p)) (hn : bs R (nP N) ≤ 60) (hB : RBal N R) (hV : VT M 104 105 N R tm) (hE : EC M (ownA R (nP N))) :
    Ok (fX0_know_l14 FU 0 M) (fun m => Fr kWc M m ∧ EC m (lnA N R (nL N))) := by
  have hb := hN.1
  refine loop0 (fun n i m => fX0_know_l14 n i m) (nL N) (fun i m => Fr kWc M m ∧ EC m (lnA N R i)) _ (by omega) ?_ ?_ M ⟨Fr.refl, hE⟩
  · rintro n m ⟨F, h⟩
    rw [fX0_know_l14, F.oI (by decide), hC.1.2, if_pos (nI_le (Nat.le_refl _) (by omega))]
    exact ok_some ⟨F, h⟩
  · rintro n i m hi ⟨F, h⟩ kk
    have hCm := hC.fr F (by decide)
    have hlen := lnA_len (N := N) (R := R) hN hn i (by omega)
    rw [fX0_know_l14, hCm.1.2, if_neg (nI_ge hi (by omega)), F.n, ln201 hl, chk_nI (by omega) (by omega), bnd_eq, nI_clamp (by omega), (hCm.2.2.1 i hi).1.1]
    refine ok_call (c_waitsOn hN (hl.fr F) hCm hi (fun p hp => (F.oI (by decide)).trans (hR p hp)) hn hB ⟨fun p hp => (F.aI (by decide)).trans (hV.1 p hp), fun p j hp hj => (F.aI (by decide)).trans (hV.2 p j hp hj)⟩ h (by omega)) ?_
    rintro m2 ⟨F2, e2⟩
    rw [bnd_eq, nI_1]
    exact kk m2 ⟨F.step F2 (by decide), e2⟩
