/-! once: the model's tables -/
theorem m_divs {X : tM} {N : NG} {R rw : Nat → Nat} (hN : NOK N) (hl : Len X) (hG : Gr X N) (h : ROK N R rw) (h1 : ∀ i, i < nP N → mI X 1254 0 i = nI (rw i)) (hR : ∀ p, p < nP N → mI X 1235 0 p = nI (R p)) :
    Ok (fX11_divide_l2 FU 0 X) (fun m => Fr [1256, 1257] X m ∧ GC3 m 1256 N R rw (nP N) ∧ ∀ i, i < nP N → mI m 1257 0 (12 * i + i) = 0) := by
  have hb := hN.1
  refine loop0 (fun n i m => fX11_divide_l2 n i m) (nP N) (fun i m => Fr [1256, 1257] X m ∧ GC3 m 1256 N R rw i ∧ ∀ i', i' < i → mI m 1257 0 (12 * i' + i') = 0) _ (by omega) ?_ ?_ X ⟨Fr.refl, fun i j hi => by omega, fun i hi => by omega⟩
  · rintro n m ⟨F, k1, k2⟩
    rw [fX11_divide_l2, F.oI (by decide), hG.1.1, if_pos (nI_le (Nat.le_refl _) (by omega))]
    exact ok_some ⟨F, k1, k2⟩
  · rintro n i m hi ⟨F, k1, k2⟩ kk
    have hri := (h.1 i hi).1.1
    have hRi := h.2 _ hri
    have e13 : 13 * nI i = nI (12 * i + i) := by rw [L32 13, pk_mul]; congr 1; omega
    rw [fX11_divide_l2, F.oI (by decide), hG.1.1, if_neg (nI_ge hi (by omega)), F.n, ln1254 hl, chk_nI (by omega) (by omega), nI_clamp (by omega), F.aI (by decide), h1 i hi, F.n, ln1235 hl, chk_nI (by omega) (by omega), e13, F.n, ln1256 hl, chk_nI (by omega) (by omega), bnd_eq, nI_clamp (show rw i < 2 ^ 31 by omega), F.aI (by decide), hR _ hri, nI_clamp (show 12 * i + i < 2 ^ 31 by omega), mN_sI, F.n, ln1257 hl, chk_nI (by omega) (by omega), bnd_eq, bnd_eq, nI_1]
    have F1 : Fr [1256, 1257] m (sI (sI m 1256 0 (12 * i + i) (nI (R (rw i)))) 1257 0 (12 * i + i) 0) := (Fr.refl.wI (by decide)).wI (by decide)
    have v56 : mI (sI (sI m 1256 0 (12 * i + i) (nI (R (rw i)))) 1257 0 (12 * i + i) 0) 1256 0 (12 * i + i) = nI (R (rw i)) := by rw [mI_sI, if_neg (by simp), mI_sI, if_pos ⟨rfl, rfl, rfl⟩]
    have o56 : ∀ q, q < 12 * i → mI (sI (sI m 1256 0 (12 * i + i) (nI (R (rw i)))) 1257 0 (12 * i + i) 0) 1256 0 q = mI m 1256 0 q := fun q hq => by rw [mI_sI, if_neg (by simp), mI_sI, if_neg (by omega)]
    have v57 : mI (sI (sI m 1256 0 (12 * i + i) (nI (R (rw i)))) 1257 0 (12 * i + i) 0) 1257 0 (12 * i + i) = 0 := by rw [mI_sI, if_pos ⟨rfl, rfl, rfl⟩]
    have o57 : ∀ q, ¬ q = 12 * i + i → mI (sI (sI m 1256 0 (12 * i + i) (nI (R (rw i)))) 1257 0 (12 * i + i) 0) 1257 0 q = mI m 1257 0 q := fun q hq => by rw [mI_sI, if_neg (fun y => hq y.2.2), mI_sI, if_neg (by simp)]
    generalize sI (sI m 1256 0 (12 * i + i) (nI (R (rw i)))) 1257 0 (12 * i + i) 0 = m1 at *
    have G1 : Fr [1256, 1257] X m1 := F.step F1 (by decide)
    have key : Ok (fX11_divide_l44 (nI i) FU (nI (i + 1)) m1) (fun m2 => Fr [1256] m1 m2 ∧ (∀ j, i ≤ j → j < nP N → mI m2 1256 0 (12 * i + j) = nI (gcR R rw i j)) ∧ ∀ q, q < 12 * i → mI m2 1256 0 q = mI m1 1256 0 q) := by
      refine loopG (fun n k s => fX11_divide_l44 (nI i) n k s) (nP N) (fun k s => (i + 1 ≤ k ∧ Fr [1256] m1 s) ∧ (∀ j, i ≤ j → j < k → mI s 1256 0 (12 * i + j) = nI (gcR R rw i j)) ∧ ∀ q, q < 12 * i → mI s 1256 0 q = mI m1 1256 0 q) _ ?_ ?_ FU (i + 1) m1 (by omega) (FU_lt (by omega)) ⟨⟨Nat.le_refl _, Fr.refl⟩, fun j a b => by rw [show j = i by omega, gcR_self]; exact v56, fun _ _ => rfl⟩
      · rintro n s ⟨⟨hk, G⟩, k3, k4⟩
        rw [fX11_divide_l44, G.oI (by decide), G1.oI (by decide), hG.1.1, if_pos (nI_le (Nat.le_refl _) (by omega))]
        exact ok_some ⟨G, k3, k4⟩
      · rintro n k s hk ⟨⟨hik, G⟩, k3, k4⟩ kk2
        have hrk := (h.1 k hk).1.1
        have hRk := h.2 _ hrk
        have hgp := gcR_ok h (show i ≤ k - 1 by omega) (show k - 1 < nP N by omega)
        have hgk := gcR_ok h (show i ≤ k by omega) hk
        have es : Nat.gcd (gcR R rw i (k - 1)) (R (rw k)) = gcR R rw i k := by
          have := gcR_succ (R := R) (rw := rw) (i := i) (j := k - 1) (by omega)
          rw [show k - 1 + 1 = k by omega] at this
          exact this.symm
        have em : nI (12 * i + k) - 1 = nI (12 * i + (k - 1)) := by rw [L32 1, pk_sub (by omega)]; congr 1; omega
        rw [fX11_divide_l44, G.oI (by decide), G1.oI (by decide), hG.1.1, if_neg (nI_ge hk (by omega)), ix12', em, G.n, G1.n, ln1256 hl, chk_nI (by omega) (by omega), G.n, G1.n, ln1254 hl, chk_nI (by omega) (by omega), nI_clamp (show k < 2 ^ 31 by omega), G.aI (k := 1254) (by decide), G1.aI (k := 1254) (by decide), h1 k hk, G.n, G1.n, ln1235 hl, chk_nI (by omega) (by omega), nI_clamp (show 12 * i + (k - 1) < 2 ^ 31 by omega), k3 (k - 1) (by omega) (by omega), nI_clamp (show rw k < 2 ^ 31 by omega), G.aI (k := 1235) (by decide), G1.aI (k := 1235) (by decide), hR _ hrk, nI_l (n := gcR R rw i (k - 1)) (by omega), nI_l (n := R (rw k)) (by omega), m_gcd (by omega) (by omega), Option.bind_some, chk_nI (by omega) (by omega), bnd_eq, bnd_eq, nI_1, lN_i, es, nI_clamp (show 12 * i + k < 2 ^ 31 by omega)]
        refine kk2 _ ⟨⟨by omega, G.wI (by decide)⟩, fun j a b => ?_, fun q hq => ?_⟩
        · rw [mI_sI]
          by_cases z : j = k
          · rw [if_pos ⟨rfl, rfl, by rw [z]⟩, z]
          · rw [if_neg (by omega)]; exact k3 j a (by omega)
        · rw [mI_sI, if_neg (by omega)]; exact k4 q hq
    refine ok_call key ?_
    rintro m2 ⟨F2, q1, q2⟩
    rw [bnd_eq]
    refine kk m2 ⟨G1.step F2 (by decide), fun a b ha hab hbP => ?_, fun a ha => ?_⟩
    · by_cases z : a = i
      · subst z; exact q1 b hab hbP
      · rw [q2 _ (by omega), o56 _ (by omega)]; exact k1 a b (by omega) hab hbP
    · rw [F2.aI (by decide)]
      by_cases z : a = i
      · rw [z]; exact v57
      · rw [o57 _ (by omega)]; exact k2 a (by omega)
theorem m_cross {X : tM} {N : NG} {R rw : Nat → Nat} {i s j : Nat} (hN : NOK N) (hl : Len X) (hG : Gr X N) (h : ROK N R rw) (h1 : ∀ i, i < nP N → mI X 1254 0 i = nI (rw i)) (hR : ∀ p, p < nP N → mI X 1235 0 p = nI (R p)) (hg : GC3 X 1256 N R rw (nP N)) (his : i ≤ s) (hsj : s < j) (hj : j < nP N) : fX11_crossing (nI i) (nI s) (nI j) X = some (nI (XX N R rw i s j)) := by
  have hb := hN.1
  have hgv := gcR_ok h (show i ≤ j by omega) hj
  have key : Ok (fX11_crossing_l6 (nI i) (nI s) (nI j) X FU 0 0) (fun w => w = nI (XX N R rw i s j)) := by
    refine loop0 (fun n l y => fX11_crossing_l6 (nI i) (nI s) (nI j) X n y l) (nL N) (fun l y => y = nI (sumTo (XT N R rw i s j) l)) _ (by omega) ?_ ?_ 0 rfl
    · intro n y hy
      rw [fX11_crossing_l6, hG.1.2, if_pos (nI_le (Nat.le_refl _) (by omega))]
      exact ok_some hy
    · intro n l y hl' hy kk
      obtain ⟨f1, f2, f3⟩ := hN.2.2.1 l hl'
      have hgg := hG.2.2.1 l hl'
      rw [fX11_crossing_l6, hG.1.2, if_neg (nI_ge hl' (by omega))]
      have q1 : Ok (fX11_crossing_l24 (nI i) (nI s) (nI j) y (nI l) X FU 0 (nI i)) (fun w => (w = 1 ∧ inI rw i s (nF N l)) ∨ (w = 0 ∧ ¬ inI rw i s (nF N l))) := by
        refine loopG (fun n t w => fX11_crossing_l24 (nI i) (nI s) (nI j) y (nI l) X n w t) (s + 1) (fun t w => i ≤ t ∧ ((w = 1 ∧ inI rw i s (nF N l)) ∨ (w = 0 ∧ ∀ u, i ≤ u → u < t → ¬ rw u = nF N l))) _ ?_ ?_ FU i 0 (by omega) (FU_lt (by omega)) ⟨Nat.le_refl _, Or.inr ⟨rfl, fun u a b => by omega⟩⟩
        · rintro n w ⟨-, k⟩
          rw [fX11_crossing_l24, if_pos (nI_lt (by omega) (by omega))]
          rcases k with k | ⟨k1, k2⟩
          · exact ok_some (Or.inl k)
          · exact ok_some (Or.inr ⟨k1, fun ⟨u, a, b, c⟩ => k2 u a (by omega) c⟩)
        · rintro n t w ht ⟨hit, k⟩ kk2
          have hrt := (h.1 t (by omega)).1.1
          rw [fX11_crossing_l24, if_neg (nI_nlt (by omega) (by omega))]
          rcases k with ⟨rfl, k⟩ | ⟨rfl, k⟩
          · rw [if_neg (by decide), Option.bind_some, bnd_eq, nI_1]
            exact kk2 1 ⟨by omega, Or.inl ⟨rfl, k⟩⟩
          · rw [if_pos rfl, ln1254 hl, chk_nI (by omega) (by omega), ln1213 hl, chk_nI (by omega) (by omega), nI_clamp (by omega), nI_clamp (by omega), h1 t (by omega), hgg.1]
            by_cases e : rw t = nF N l
            · rw [if_pos (by rw [e]), Option.bind_some, bnd_eq, nI_1]
              exact kk2 1 ⟨by omega, Or.inl ⟨rfl, t, hit, by omega, e⟩⟩
            · rw [if_neg (fun q => e ((nI_eq (by omega) (by omega)).mp q)), Option.bind_some, bnd_eq, nI_1]
              refine kk2 0 ⟨by omega, Or.inr ⟨rfl, fun u a b => ?_⟩⟩
              by_cases z : u = t
              · rw [z]; exact e
              · exact k u a (by omega)
      refine ok_call q1 ?_
      rintro x10 h10
      rw [bnd_eq, nI_1]
      have q2 : Ok (fX11_crossing_l70 (nI i) (nI s) (nI j) y (nI l) x10 X FU 0 (nI (s + 1))) (fun w => (w = 1 ∧ inI rw (s + 1) j (nT N l)) ∨ (w = 0 ∧ ¬ inI rw (s + 1) j (nT N l))) := by
        refine loopG (fun n t w => fX11_crossing_l70 (nI i) (nI s) (nI j) y (nI l) x10 X n w t) (j + 1) (fun t w => s + 1 ≤ t ∧ ((w = 1 ∧ inI rw (s + 1) j (nT N l)) ∨ (w = 0 ∧ ∀ u, s + 1 ≤ u → u < t → ¬ rw u = nT N l))) _ ?_ ?_ FU (s + 1) 0 (by omega) (FU_lt (by omega)) ⟨Nat.le_refl _, Or.inr ⟨rfl, fun u a b => by omega⟩⟩
        · rintro n w ⟨-, k⟩
          rw [fX11_crossing_l70, if_pos (nI_lt (by omega) (by omega))]
          rcases k with k | ⟨k1, k2⟩
          · exact ok_some (Or.inl k)
          · exact ok_some (Or.inr ⟨k1, fun ⟨u, a, b, c⟩ => k2 u a (by omega) c⟩)
        · rintro n t w ht ⟨hit, k⟩ kk2
          have hrt := (h.1 t (by omega)).1.1
          rw [fX11_crossing_l70, if_neg (nI_nlt (by omega) (by omega))]
          rcases k with ⟨rfl, k⟩ | ⟨rfl, k⟩
          · rw [if_neg (by decide), Option.bind_some, bnd_eq, nI_1]
            exact kk2 1 ⟨by omega, Or.inl ⟨rfl, k⟩⟩
          · rw [if_pos rfl, ln1254 hl, chk_nI (by omega) (by omega), ln1214 hl, chk_nI (by omega) (by omega), nI_clamp (by omega), nI_clamp (by omega), h1 t (by omega), hgg.2.1]
            by_cases e : rw t = nT N l
            · rw [if_pos (by rw [e]), Option.bind_some, bnd_eq, nI_1]
              exact kk2 1 ⟨by omega, Or.inl ⟨rfl, t, hit, by omega, e⟩⟩
            · rw [if_neg (fun q => e ((nI_eq (by omega) (by omega)).mp q)), Option.bind_some, bnd_eq, nI_1]
              refine kk2 0 ⟨by omega, Or.inr ⟨rfl, fun u a b => ?_⟩⟩
              by_cases z : u = t
              · rw [z]; exact e
              · exact k u a (by omega)
      refine ok_call q2 ?_
      rintro x20 h20
      have miss : ¬ (inI rw i s (nF N l) ∧ inI rw (s + 1) j (nT N l)) → Ok (bnd (y + 0) fun x29 => bnd (nI l + 1) fun x30 => fX11_crossing_l6 (nI i) (nI s) (nI j) X n x29 x30) (fun w => w = nI (XX N R rw i s j)) := fun q => by
        rw [bnd_eq, bnd_eq, nI_1]
        refine kk _ ?_
        rw [hy, sumTo, XT, if_neg q, Int32.add_zero]; rfl
      rcases h10 with ⟨rfl, h10⟩ | ⟨rfl, h10⟩
      · rw [if_neg (by decide)]
        rcases h20 with ⟨rfl, h20⟩ | ⟨rfl, h20⟩
        · have hRb := h.2 _ f1
          have hGb := (hN.2.2.2 l 0 hl' (by omega)).1
          have m1 : R (nF N l) * nG N l 0 ≤ 1000 * 50 := Nat.mul_le_mul hRb.2 hGb
          have e4 : 4 * nI l = nI (4 * l + 0) := by rw [L32 4, pk_mul]; rfl
          rw [if_neg (by decide), ln1213 hl, chk_nI (by omega) (by omega), nI_clamp (show l < 2 ^ 31 by omega), hgg.1, ln1235 hl, chk_nI (by omega) (by omega), e4, ln1215 hl, chk_nI (by omega) (by omega), ix12', ln1256 hl, chk_nI (by omega) (by omega), nI_clamp (show 12 * i + j < 2 ^ 31 by omega), hg i j (by omega) (by omega) hj, chk_tr (show nz4 (nI (gcR R rw i j)) = true from decide_eq_true (nI_ne0 (by omega) (by omega))), ln1217 hl, chk_nI (by omega) (by omega), nI_clamp (show nF N l < 2 ^ 31 by omega), hR _ f1, nI_clamp (show 4 * l + 0 < 2 ^ 31 by omega), (hG.2.2.2 l 0 hl' (by omega)).1, hgg.2.2, pk_mul, pk_div (by omega) (by omega) (by omega), nI_add, Option.bind_some, bnd_eq, bnd_eq, nI_1]
          refine kk _ ?_
          rw [hy, nI_add, sumTo, XT, if_pos ⟨h10, h20⟩]
        · rw [if_pos rfl, Option.bind_some]
          exact miss (fun q => h20 q.2)
      · rw [if_pos rfl, Option.bind_some]
        exact miss (fun q => h10 q.1)
  obtain ⟨w, e, rfl⟩ := key
  rw [fX11_crossing, e, Option.bind_some]
theorem m_two {X : tM} {N : NG} {R rw : Nat → Nat} {i j : Nat} {z1 : Int32} (hN : NOK N) (hl : Len X) (hG : Gr X N) (h : ROK N R rw) (h1 : ∀ i, i < nP N → mI X 1254 0 i = nI (rw i)) (hR : ∀ p, p < nP N → mI X 1235 0 p = nI (R p)) (hg : GC3 X 1256 N R rw (nP N)) (hij : i < j) (hj : j < nP N) (hT : TB X 1257 1258 N R rw (j - i) i) :
    Ok (fX11_divide_l147 z1 (nI i) (nI j) FU (nI i) (sI X 1258 0 (12 * i + j) (-9))) (fun m => Fr [1257, 1258] X m ∧ (∀ q, ¬ q = 12 * i + j → mI m 1257 0 q = mI X 1257 0 q ∧ mI m 1258 0 q = mI X 1258 0 q) ∧ PT m 1257 1258 N R rw i j) := by
  have hb := hN.1
  have vb : ∀ t, i ≤ t → t < j → vvM X 1257 N R rw i t j ≤ 1100000 * (j - i) := fun t a b => by
    have h1 := (hT.at a (by omega) (by omega)).2
    have h2 := (hT.at (i := t + 1) (j := j) (by omega) hj (by omega)).2
    have h3 := XX_le (i := i) (s := t) (j := j) hN h
    have e1 : 1100000 * (t - i) + 1100000 * (j - (t + 1)) + 1100000 = 1100000 * (j - i) := by omega
    unfold vvM; omega
  have key : Ok (fX11_divide_l147 z1 (nI i) (nI j) FU (nI i) (sI X 1258 0 (12 * i + j) (-9))) (fun m => Fr [1257, 1258] X m ∧ (∀ q, ¬ q = 12 * i + j → mI m 1257 0 q = mI X 1257 0 q ∧ mI m 1258 0 q = mI X 1258 0 q) ∧ ∃ b, (i ≤ b ∧ b < j) ∧ mI m 1257 0 (12 * i + j) = nI (vvM X 1257 N R rw i b j) ∧ mI m 1258 0 (12 * i + j) = nI b ∧ (∀ u, i ≤ u → u < b → vvM X 1257 N R rw i b j < vvM X 1257 N R rw i u j) ∧ ∀ u, b ≤ u → u < j → vvM X 1257 N R rw i b j ≤ vvM X 1257 N R rw i u j) := by
    refine loopG (fun n t m => fX11_divide_l147 z1 (nI i) (nI j) n t m) j (fun t m => i ≤ t ∧ Fr [1257, 1258] X m ∧ (∀ q, ¬ q = 12 * i + j → mI m 1257 0 q = mI X 1257 0 q ∧ mI m 1258 0 q = mI X 1258 0 q) ∧ ((t = i ∧ mI m 1258 0 (12 * i + j) = (-9)) ∨ ∃ b, (i ≤ b ∧ b < t) ∧ mI m 1257 0 (12 * i + j) = nI (vvM X 1257 N R rw i b j) ∧ mI m 1258 0 (12 * i + j) = nI b ∧ (∀ u, i ≤ u → u < b → vvM X 1257 N R rw i b j < vvM X 1257 N R rw i u j) ∧ ∀ u, b ≤ u → u < t → vvM X 1257 N R rw i b j ≤ vvM X 1257 N R rw i u j)) _ ?_ ?_ FU i _ (by omega) (FU_lt (by omega)) ⟨Nat.le_refl _, Fr.refl.wI (by decide), fun q hq => ⟨by rw [mI_sI, if_neg (by simp)], by rw [mI_sI, if_neg (fun y => hq y.2.2)]⟩, Or.inl ⟨rfl, by rw [mI_sI, if_pos ⟨rfl, rfl, rfl⟩]⟩⟩
    · rintro n m ⟨-, F, k1, k2⟩
      rw [fX11_divide_l147, if_pos (nI_le (Nat.le_refl _) (by omega))]
      rcases k2 with ⟨z, -⟩ | k2
      · omega
      · exact ok_some ⟨F, k1, k2⟩
    · rintro n t m ht ⟨hit, F, k1, k2⟩ kk
      have x1 := hT.at (i := i) (j := t) hit (by omega) (by omega)
      have x2 := hT.at (i := t + 1) (j := j) (by omega) hj (by omega)
      have e1 : 12 * (nI t + 1) + nI j = nI (12 * (t + 1) + j) := by rw [nI_1, ix12']
      have ea := m_cross (s := t) hN (hl.fr F) (hG.fr F (by decide)) h (fun a ha => (F.aI (by decide)).trans (h1 a ha)) (fun p hp => (F.aI (by decide)).trans (hR p hp)) (fun a b c d e => (F.aI (by decide)).trans (hg a b c d e)) hit ht hj
      rw [fX11_divide_l147, if_neg (nI_ge ht (by omega)), ix12' i t, F.n, ln1257 hl, chk_nI (by omega) (by omega), e1, chk_nI (by omega) (by omega), ea, Option.bind_some, bnd_eq, nI_clamp (show 12 * i + t < 2 ^ 31 by omega), nI_clamp (show 12 * (t + 1) + j < 2 ^ 31 by omega), (k1 (12 * i + t) (by omega)).1, (k1 (12 * (t + 1) + j) (by omega)).1, x1.1, x2.1, nI_add, nI_add, ix12' i j, F.n, ln1258 hl, chk_nI (by omega) (by omega), nI_clamp (show 12 * i + j < 2 ^ 31 by omega)]
      have evv : DM X 1257 i t + DM X 1257 (t + 1) j + XX N R rw i t j = vvM X 1257 N R rw i t j := rfl
      rw [evv]
      have vbt := vb t hit ht
      have hjn : 1100000 * (j - i) ≤ 13200000 := by omega
      have setS : Ok (chk (inb (nI (12 * i + j)) 144) <| bnd (sI m 1258 0 (12 * i + j) (nI t)) fun M39 => chk (inb (nI (12 * i + j)) (mN M39 1257 0)) <| bnd (sI M39 1257 0 (12 * i + j) (nI (vvM X 1257 N R rw i t j))) fun M41 => some M41) (fun m2 => Fr [1257, 1258] X m2 ∧ (∀ q, ¬ q = 12 * i + j → mI m2 1257 0 q = mI X 1257 0 q ∧ mI m2 1258 0 q = mI X 1258 0 q) ∧ mI m2 1257 0 (12 * i + j) = nI (vvM X 1257 N R rw i t j) ∧ mI m2 1258 0 (12 * i + j) = nI t) := by
        rw [chk_nI (by omega) (by omega), bnd_eq, mN_sI, F.n, ln1257 hl, chk_nI (by omega) (by omega), bnd_eq]
        refine ok_some ⟨(F.wI (by decide)).wI (by decide), fun q hq => ⟨?_, ?_⟩, ?_, ?_⟩
        · rw [mI_sI, if_neg (fun y => hq y.2.2), mI_sI, if_neg (by simp)]; exact (k1 q hq).1
        · rw [mI_sI, if_neg (by simp), mI_sI, if_neg (fun y => hq y.2.2)]; exact (k1 q hq).2
        · rw [mI_sI, if_pos ⟨rfl, rfl, rfl⟩]
        · rw [mI_sI, if_neg (by simp), mI_sI, if_pos ⟨rfl, rfl, rfl⟩]
      rcases k2 with ⟨rfl, k2⟩ | ⟨b, ⟨hb1, hb2⟩, k3, k4, k5, k6⟩
      · rw [k2, if_pos (by decide)]
        refine ok_call setS ?_
        rintro m2 ⟨F2, q1, q2, q3⟩
        rw [bnd_eq, nI_1]
        exact kk m2 ⟨by omega, F2, q1, Or.inr ⟨t, ⟨Nat.le_refl _, by omega⟩, q2, q3, fun u a b => by omega, fun u a b => by rw [show u = t by omega]; exact Nat.le_refl _⟩⟩
      · have vbb := vb b hb1 (by omega)
        rw [k4, if_neg (nI_pos (by omega)), chk_nI (by omega) (by omega), k3]
        by_cases c : vvM X 1257 N R rw i b j ≤ vvM X 1257 N R rw i t j
        · rw [if_pos (nI_le c (by omega)), Option.bind_some, bnd_eq, nI_1]
          refine kk m ⟨by omega, F, k1, Or.inr ⟨b, ⟨hb1, by omega⟩, k3, k4, k5, fun u a b' => ?_⟩⟩
          by_cases z : u = t
          · rw [z]; exact c
          · exact k6 u a (by omega)
        · rw [if_neg (nI_ge (by omega) (by omega))]
          refine ok_call setS ?_
          rintro m2 ⟨F2, q1, q2, q3⟩
          rw [bnd_eq, nI_1]
          refine kk m2 ⟨by omega, F2, q1, Or.inr ⟨t, ⟨hit, by omega⟩, q2, q3, fun u a b' => ?_, fun u a b' => by rw [show u = t by omega]; exact Nat.le_refl _⟩⟩
          by_cases z : u < b
          · have := k5 u a z; omega
          · have := k6 u (by omega) b'; omega
  refine key.mono ?_
  rintro m ⟨F, k1, b, ⟨hb1, hb2⟩, k3, k4, k5, k6⟩
  have vbb := vb b hb1 hb2
  have hjn : 1100000 * (j - i) ≤ 13200000 := by omega
  have eD : DM m 1257 i j = vvM X 1257 N R rw i b j := by rw [DM, k3, nI_clamp (by omega)]
  have eS : DM m 1258 i j = b := by rw [DM, k4, nI_clamp (by omega)]
  have eV : ∀ t, i ≤ t → t < j → vvM m 1257 N R rw i t j = vvM X 1257 N R rw i t j := fun t a b => by
    rw [vvM, vvM, DM, DM, (k1 (12 * i + t) (by omega)).1, (k1 (12 * (t + 1) + j) (by omega)).1]; rfl
  refine ⟨F, k1, ?_⟩
  unfold PT
  rw [eD, eS]
  exact ⟨⟨k3, vbb⟩, k4, ⟨hb1, hb2⟩, by rw [eV b hb1 hb2], fun t a c => by rw [eV t a (by omega)]; exact k5 t a c, fun t a c => by rw [eV t (by omega) c]; exact k6 t a c⟩
theorem m_table {X : tM} {N : NG} {R rw : Nat → Nat} (hN : NOK N) (hl : Len X) (hG : Gr X N) (h : ROK N R rw) (h1 : ∀ i, i < nP N → mI X 1254 0 i = nI (rw i)) (hR : ∀ p, p < nP N → mI X 1235 0 p = nI (R p)) (p0 : 0 < nP N) :
    Ok (fX11_divide X) (fun m => Fr [1256, 1257, 1258] X m ∧ GC3 m 1256 N R rw (nP N) ∧ TB m 1257 1258 N R rw (nP N) 0) := by
  have hb := hN.1
  rw [fX11_divide]
  refine ok_call (m_divs hN hl hG h h1 hR) ?_
  rintro X1 ⟨F1, g1, g2⟩
  have key : Ok (fX11_divide_l107 FU (nI 1) X1) (fun m => Fr [1257, 1258] X1 m ∧ TB m 1257 1258 N R rw (nP N) 0) := by
    refine loopG (fun n d m => fX11_divide_l107 n d m) (nP N) (fun d m => 1 ≤ d ∧ Fr [1257, 1258] X1 m ∧ TB m 1257 1258 N R rw d 0) _ ?_ ?_ FU 1 X1 p0 (FU_lt (by omega)) ⟨Nat.le_refl _, Fr.refl, g2, fun i j a b c => by omega⟩
    · rintro n m ⟨-, F, k⟩
      rw [fX11_divide_l107, F.oI (by decide), F1.oI (by decide), hG.1.1, if_pos (nI_le (Nat.le_refl _) (by omega))]
      exact ok_some ⟨F, k⟩
    · rintro n d m hd ⟨hd1, F, k⟩ kk
      rw [fX11_divide_l107, F.oI (by decide), F1.oI (by decide), hG.1.1, if_neg (nI_ge hd (by omega))]
      have key2 : Ok (fX11_divide_l117 (nI d) FU 0 m) (fun m2 => Fr [1257, 1258] X1 m2 ∧ TB m2 1257 1258 N R rw d (nP N - d)) := by
        refine loop0 (fun n i m2 => fX11_divide_l117 (nI d) n i m2) (nP N - d) (fun i m2 => Fr [1257, 1258] X1 m2 ∧ TB m2 1257 1258 N R rw d i) _ (by omega) ?_ ?_ m ⟨F, k⟩
        · rintro n m2 ⟨F2, k2⟩
          rw [fX11_divide_l117, F2.oI (by decide), F1.oI (by decide), hG.1.1, nI_add, if_pos (nI_le (by omega) (by omega))]
          exact ok_some ⟨F2, k2⟩
        · rintro n i m2 hi ⟨F2, k2⟩ kk2
          have ed : i + d - i = d := by omega
          have G2 : Fr [1256, 1257, 1258] X m2 := (F1.mono (by decide)).step F2 (by decide)
          rw [fX11_divide_l117, F2.oI (by decide), F1.oI (by decide), hG.1.1, nI_add, if_neg (nI_ge (by omega) (by omega)), bnd_eq, ix12', G2.n, ln1258 hl, chk_nI (by omega) (by omega), bnd_eq, nI_clamp (show 12 * i + (i + d) < 2 ^ 31 by omega)]
          refine ok_call (m_two (i := i) (j := i + d) (z1 := nI d) hN (hl.fr G2) (hG.fr G2 (by decide)) h (fun a ha => (G2.aI (by decide)).trans (h1 a ha)) (fun p hp => (G2.aI (by decide)).trans (hR p hp)) (fun a b c e f => (F2.aI (by decide)).trans (g1 a b c e f)) (by omega) (by omega) (by rw [ed]; exact k2)) ?_
          rintro m3 ⟨F3, q1, q2⟩
          rw [bnd_eq, nI_1]
          refine kk2 m3 ⟨F2.step F3 (by decide), ?_⟩
          have := TB_next (i := i) (j := i + d) (by omega) (by rw [ed]; exact k2) (by omega) hb.1 q1 q2
          rw [ed] at this; exact this
      refine ok_call key2 ?_
      rintro m2 ⟨F2, k2⟩
      rw [bnd_eq, nI_1]
      refine kk m2 ⟨by omega, F2, k2.1, fun i j a b c => k2.2 i j a b (by omega)⟩
  have key' : Ok (fX11_divide_l107 FU 1 X1) (fun m => Fr [1257, 1258] X1 m ∧ TB m 1257 1258 N R rw (nP N) 0) := key
  refine ok_call key' ?_
  rintro X2 ⟨F2, k⟩
  exact ok_some ⟨(F1.mono (by decide)).step F2 (by decide), fun a b c d e => (F2.aI (by decide)).trans (g1 a b c d e), k⟩
