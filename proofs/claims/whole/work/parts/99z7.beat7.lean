/-! beat: one way over all waits, the class -/
theorem lN_ofInt (n : Nat) : lN n = Int64.ofInt (n : Int) := by
  first
  | rfl
  | simp [lN, Int64.ofInt, Int64.ofNat]
  | (apply Int64.toBitVec_inj.mp; simp)
theorem l_w (a : Int) (q t p r : Nat) : Int64.ofInt a + lN q * lN t - lN p * lN r = Int64.ofInt (a + ((q : Int) * t - (p : Int) * r)) := by
  rw [lN_ofInt, lN_ofInt, lN_ofInt, lN_ofInt, ← Int64.ofInt_mul, ← Int64.ofInt_mul, ← Int64.ofInt_add, ← Int64.ofInt_sub]
  congr 1; omega
theorem l_cmp {a b : Int} (ha : -4000000000000 ≤ a ∧ a ≤ 4000000000000) (hb : -4000000000000 ≤ b ∧ b ≤ 4000000000000) : lg_cmp (Int64.ofInt a) (Int64.ofInt b) ≤ 0 ↔ a ≤ b := by
  have ta : (Int64.ofInt a).toInt = a := Int64.toInt_ofInt_of_le (by omega) (by omega)
  have tb : (Int64.ofInt b).toInt = b := Int64.toInt_ofInt_of_le (by omega) (by omega)
  unfold lg_cmp
  simp only [gt_iff_lt, Int64.lt_iff_toInt_lt, ← Int64.toInt_inj, ta, tb]
  repeat' split
  all_goals (constructor <;> intro hh <;> first | omega | decide | exact absurd hh (by decide))
def bI : Option Nat → Int32
  | none => -9
  | some e => nI e
def DB (M : tM) (kd kb n : Nat) (d : Nat → Int) (b : Nat → Option Nat) : Prop := ∀ v, v < n → mL M kd 0 v = Int64.ofInt (d v) ∧ mI M kb 0 v = bI (b v)
/-- within a pass -/
def BP (M : tM) (kd kb n : Nat) (E : List ED) (w : Nat → Int) (s j : Nat) (y : Int32) : Prop := ∃ (d : Nat → Int) (b : Nat → Option Nat) (tt z : Nat → Nat) (c : Nat), BF n E.length (eF E) (eA E) w s j c d b tt z ∧ DB M kd kb n d b ∧ (∀ v, v < n → d v ≤ 3600000 * (c : Int)) ∧ c ≤ 1260 * s + j ∧ ((y = (-9) ∧ ∀ e, e < j → d (eA E e) + w e ≤ d (eF E e)) ∨ ∃ v, v < n ∧ y = nI v ∧ tt v = s + 1)
theorem w_b {q t p r : Nat} (hq : q ≤ 3600) (ht : t ≤ 1000) (hp : p ≤ 60000) (hr : r ≤ 60) : -3600000 ≤ (q : Int) * t - (p : Int) * r ∧ (q : Int) * t - (p : Int) * r ≤ 3600000 := by
  have h1 : q * t ≤ 3600 * 1000 := Nat.mul_le_mul hq ht
  have h2 : p * r ≤ 60000 * 60 := Nat.mul_le_mul hp hr
  have e1 : (q : Int) * t = ((q * t : Nat) : Int) := by rw [Int.natCast_mul]
  have e2 : (p : Int) * r = ((p * r : Nat) : Int) := by rw [Int.natCast_mul]
  rw [e1, e2]; omega
def wC (E : List ED) (t : Nat → Nat) (p q e : Nat) : Int := (q : Int) * (t (eA E e) : Int) - (p : Int) * (eR E e : Int)
def wM (E : List ED) (t : Nat → Nat) (p q e : Nat) : Int := (q : Int) * (t (eF E e) : Int) - (p : Int) * (eR E e : Int)
/-- one edge -/
theorem bp_no {M : tM} {kd kb n : Nat} {E : List ED} {w : Nat → Int} {s j : Nat} {y : Int32} {d : Nat → Int} {b : Nat → Option Nat} {tt z : Nat → Nat} {c : Nat} (h1 : BF n E.length (eF E) (eA E) w s j c d b tt z) (h2 : DB M kd kb n d b) (h3 : ∀ v, v < n → d v ≤ 3600000 * (c : Int)) (h4 : c ≤ 1260 * s + j) (h5 : (y = (-9) ∧ ∀ e, e < j → d (eA E e) + w e ≤ d (eF E e)) ∨ ∃ v, v < n ∧ y = nI v ∧ tt v = s + 1) (hn : d (eA E j) + w j ≤ d (eF E j)) : BP M kd kb n E w s (j + 1) y := by
  refine ⟨d, b, tt, z, c, bf_no h1 hn, h2, h3, by omega, ?_⟩
  rcases h5 with ⟨k1, k2⟩ | k
  · refine Or.inl ⟨k1, fun e he => ?_⟩
    by_cases q : e = j
    · rw [q]; exact hn
    · exact k2 e (by omega)
  · exact Or.inr k
theorem bp_yes {M : tM} {kd kb n : Nat} {E : List ED} {w : Nat → Int} {s j : Nat} {d : Nat → Int} {b : Nat → Option Nat} {tt z : Nat → Nat} {c : Nat} (hE : ∀ e, e < E.length → eF E e < n ∧ eA E e < n) (hj : j < E.length) (hw : w j ≤ 3600000) (h1 : BF n E.length (eF E) (eA E) w s j c d b tt z) (h3 : ∀ v, v < n → d v ≤ 3600000 * (c : Int)) (h4 : c ≤ 1260 * s + j) (hy : d (eF E j) < d (eA E j) + w j)
    (h2 : ∀ v, v < n → mL M kd 0 v = Int64.ofInt (up d (eF E j) (d (eA E j) + w j) v) ∧ mI M kb 0 v = bI (up b (eF E j) (some j) v)) : BP M kd kb n E w s (j + 1) (nI (eF E j)) := by
  refine ⟨_, _, _, _, _, bf_yes hE hj h1 hy, h2, fun v hv => ?_, by omega, Or.inr ⟨eF E j, (hE j hj).1, rfl, up_same _ _ _⟩⟩
  have a := h3 _ (hE j hj).2
  have b := h3 v hv
  by_cases e : v = eF E j
  · rw [e, up_same]; omega
  · rw [up_ne e]; omega
/-- the class's numbers for a search -/
def QC (M : tM) (n : Nat) (E : List ED) (t : Nat → Nat) (p q : Nat) : Prop := EC M E ∧ mI M 0 0 6 = nI n ∧ (∀ v, v < n → mI M 105 0 v = nI (t v)) ∧ mL M 0 0 1 = lN p ∧ mL M 0 0 2 = lN q
theorem QC.fr {ks : List Nat} {M M2 : tM} {n : Nat} {E : List ED} {t : Nat → Nat} {p q : Nat} (h : QC M n E t p q) (hF : Fr ks M M2) (hd : disj ks [0, 105, 107, 108, 109, 10001, 10002, 10006, 10010] = true) : QC M2 n E t p q := by
  obtain ⟨h1, h2, h3, h4, h5⟩ := h
  exact ⟨h1.fr hF (disj_sub hd (by decide)), (hF.hI hd 0 6 (by decide) 0).trans h2, fun v hv => (hF.gI hd 105 (by decide) _ _).trans (h3 v hv), (hF.hL hd 0 1 (by decide) 0).trans h4, (hF.hL hd 0 2 (by decide) 0).trans h5⟩
/-- what bounds it -/
def HB (n : Nat) (E : List ED) (t : Nat → Nat) (p q : Nat) : Prop := n ≤ 60 ∧ E.length ≤ 1260 ∧ (∀ e, e < E.length → eF E e < n ∧ eA E e < n) ∧ (∀ e, e < E.length → eR E e ≤ 60) ∧ (∀ v, v < n → t v ≤ 1000) ∧ p ≤ 60000 ∧ 1 ≤ q ∧ q ≤ 3600
theorem c_pass {M : tM} {n : Nat} {E : List ED} {t : Nat → Nat} {p q s : Nat} (hl : Len M) (hQ : QC M n E t p q) (hH : HB n E t p q) (hs : s ≤ 60) (hB : BP M 111 112 n E (wC E t p q) s 0 (-9)) :
    Ok (fX0_reachFurther M) (fun w => Fr [111, 112] M w.2 ∧ BP w.2 111 112 n E (wC E t p q) s E.length w.1) := by
  obtain ⟨h60, hm, hE, hr, ht, hp, hq1, hq⟩ := hH
  have key : Ok (fX0_reachFurther_l5 FU (-9) 0 M) (fun w => Fr [111, 112] M w.2 ∧ BP w.2 111 112 n E (wC E t p q) s E.length w.1) := by
    refine loop0 (fun k i (x : Int32 × tM) => fX0_reachFurther_l5 k x.1 i x.2) E.length (fun i x => Fr [111, 112] M x.2 ∧ BP x.2 111 112 n E (wC E t p q) s i x.1) _ (by omega) ?_ ?_ (-9, M) ⟨Fr.refl, hB⟩
    · rintro k ⟨y, m⟩ ⟨F, h⟩
      have F : Fr [111, 112] M m := F
      show Ok (fX0_reachFurther_l5 (k + 1) y (nI E.length) m) _
      rw [fX0_reachFurther_l5, (hQ.1.fr F (by decide)).1, if_pos (nI_le (Nat.le_refl _) (by omega))]
      exact ok_some ⟨F, h⟩
    · rintro k j ⟨y, m⟩ hj ⟨F, h⟩ kk
      have F : Fr [111, 112] M m := F
      obtain ⟨d, b, tt, z, c, b1, b2, b3, b4, b5⟩ := h
      have b2 : DB m 111 112 n d b := b2
      obtain ⟨qe, q6, q5, qp, qq⟩ := hQ.fr F (by decide)
      obtain ⟨e7, e8, e9⟩ := qe.2 j hj
      have e7 : mI m 107 0 j = nI (eF E j) := e7
      have e8 : mI m 108 0 j = nI (eA E j) := e8
      have e9 : mI m 109 0 j = nI (eR E j) := e9
      obtain ⟨jf, ja⟩ := hE j hj
      have jr := hr j hj
      have jt := ht _ ja
      have hw : -3600000 ≤ wC E t p q j ∧ wC E t p q j ≤ 3600000 := w_b hq jt hp jr
      have da := b3 _ ja
      have df := b3 _ jf
      have da0 := (b1.1 _ ja).1
      have df0 := (b1.1 _ jf).1
      show Ok (fX0_reachFurther_l5 (k + 1) y (nI j) m) _
      rw [fX0_reachFurther_l5, qe.1, if_neg (nI_ge hj (by omega)), F.n, ln108 hl, chk_nI (by omega) (by omega), bnd_eq, nI_clamp (show j < 2 ^ 31 by omega), e8, F.n, ln111 hl, chk_nI (by omega) (by omega), F.n, ln105 hl, chk_nI (by omega) (by omega), F.n, ln109 hl, chk_nI (by omega) (by omega), bnd_eq, nI_clamp (show eA E j < 2 ^ 31 by omega), (b2 _ ja).1, qq, q5 _ ja, qp, e9, nI_l (by omega), nI_l (by omega), l_w, F.n, ln107 hl, chk_nI (by omega) (by omega), e7, chk_nI (by omega) (by omega), nI_clamp (show eF E j < 2 ^ 31 by omega), (b2 _ jf).1]
      have ew : (q : Int) * (t (eA E j) : Int) - (p : Int) * (eR E j : Int) = wC E t p q j := rfl
      rw [ew]
      by_cases cc : d (eA E j) + wC E t p q j ≤ d (eF E j)
      · rw [if_pos ((l_cmp (by omega) (by omega)).mpr cc), Option.bind_some]
        show Ok (bnd (nI j + 1) fun x19 => fX0_reachFurther_l5 k y x19 m) _
        rw [bnd_eq, nI_1]
        exact kk (y, m) ⟨F, bp_no b1 b2 b3 b4 b5 cc⟩
      · rw [if_neg (fun x => cc ((l_cmp (by omega) (by omega)).mp x)), chk_nI (by omega) (by omega), chk_nI (by omega) (by omega), bnd_eq]
        have F1 : Fr [111] m (sL m 111 0 (eF E j) (Int64.ofInt (d (eA E j) + wC E t p q j))) := Fr.refl.wL (by decide)
        have v1 : ∀ v, mL (sL m 111 0 (eF E j) (Int64.ofInt (d (eA E j) + wC E t p q j))) 111 0 v = if v = eF E j then Int64.ofInt (d (eA E j) + wC E t p q j) else mL m 111 0 v := fun v => by
          rw [mL_sL]
          by_cases e : v = eF E j
          · rw [if_pos ⟨rfl, rfl, e⟩, if_pos e]
          · rw [if_neg (fun x => e x.2.2), if_neg e]
        generalize sL m 111 0 (eF E j) (Int64.ofInt (d (eA E j) + wC E t p q j)) = m1 at *
        have G1 : Fr [111, 112] M m1 := F.step F1 (by decide)
        have e71 : mI m1 107 0 j = nI (eF E j) := (F1.aI (by decide)).trans e7
        rw [G1.n, ln107 hl, chk_nI (by omega) (by omega), e71, G1.n, ln112 hl, chk_nI (by omega) (by omega), bnd_eq, nI_clamp (show eF E j < 2 ^ 31 by omega)]
        have F2 : Fr [112] m1 (sI m1 112 0 (eF E j) (nI j)) := Fr.refl.wI (by decide)
        have v2 : ∀ v, mI (sI m1 112 0 (eF E j) (nI j)) 112 0 v = if v = eF E j then nI j else mI m1 112 0 v := fun v => by
          rw [mI_sI]
          by_cases e : v = eF E j
          · rw [if_pos ⟨rfl, rfl, e⟩, if_pos e]
          · rw [if_neg (fun x => e x.2.2), if_neg e]
        generalize sI m1 112 0 (eF E j) (nI j) = m2 at *
        have G2 : Fr [111, 112] M m2 := G1.step F2 (by decide)
        have e72 : mI m2 107 0 j = nI (eF E j) := (F2.aI (by decide)).trans e71
        rw [G2.n, ln107 hl, chk_nI (by omega) (by omega), bnd_eq, e72, Option.bind_some]
        show Ok (bnd (nI j + 1) fun x19 => fX0_reachFurther_l5 k (nI (eF E j)) x19 m2) _
        rw [bnd_eq, nI_1]
        refine kk (nI (eF E j), m2) ⟨G2, bp_yes hE hj hw.2 b1 b3 b4 (by omega) (fun v hv => ⟨?_, ?_⟩)⟩
        · show mL m2 111 0 v = _
          rw [F2.aL (by decide), v1]
          by_cases e : v = eF E j
          · rw [if_pos e, e, up_same]
          · rw [if_neg e, up_ne e]; exact (b2 v hv).1
        · show mI m2 112 0 v = _
          rw [v2]
          by_cases e : v = eF E j
          · rw [if_pos e, e, up_same]; rfl
          · rw [if_neg e, up_ne e, F1.aI (by decide)]; exact (b2 v hv).2
  rw [fX0_reachFurther]
  exact ok_call key (fun w h => ok_some h)
