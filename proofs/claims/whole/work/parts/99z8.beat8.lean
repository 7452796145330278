/-! beat: the class finds a slower RING -/
theorem isum_lin {g h : Nat → Nat} {f : Nat → Nat} {p q : Nat} : ∀ {k v : Nat}, isum (fun u => (q : Int) * (g u : Int) - (p : Int) * (h u : Int)) f k v = (q : Int) * (sm g f k v : Int) - (p : Int) * (sm h f k v : Int) := by
  intro k
  induction k with
  | zero => intro v; simp [isum, sm]
  | succ k ih =>
    intro v
    rw [isum, ih, sm, sm, Int.natCast_add, Int.natCast_add, Int.mul_add, Int.mul_add]
    omega
theorem isum_congr {g g' : Nat → Int} {f : Nat → Nat} : ∀ {k v : Nat}, (∀ i, i < k → g (it f i v) = g' (it f i v)) → isum g f k v = isum g' f k v := by
  intro k
  induction k with
  | zero => intro v _; rfl
  | succ k ih =>
    intro v h
    rw [isum, isum, ih (fun i hi => h (i + 1) (by omega))]
    have h0 : g v = g' v := h 0 (by omega)
    rw [h0]
/-- what the way back tells -/
theorem bf_rngs {n : Nat} {E : List ED} {t : Nat → Nat} {w : Nat → Int} {s j c : Nat} {d : Nat → Int} {b : Nat → Option Nat} {tt z : Nat → Nat} (hE : ∀ e, e < E.length → eF E e < n ∧ eA E e < n) (hr : ∀ e, e < E.length → eR E e ≤ 60) (h : BF n E.length (eF E) (eA E) w s j c d b tt z) {v : Nat} (hv : v < n) (ht : n < tt v) :
    (∀ x, it (pr (eA E) b) x v < n ∧ pe b (it (pr (eA E) b) x v) < E.length ∧ eF E (pe b (it (pr (eA E) b) x v)) = it (pr (eA E) b) x v ∧ b (it (pr (eA E) b) x v) = some (pe b (it (pr (eA E) b) x v))) ∧ ∃ k v0 T r, v0 = it (pr (eA E) b) n v ∧ 0 < k ∧ k ≤ n ∧ it (pr (eA E) b) k v0 = v0 ∧ (∀ i, 0 < i → i < k → ¬ it (pr (eA E) b) i v0 = v0) ∧ T = sm t (pr (eA E) b) k v0 ∧ r = sm (fun u => eR E (pe b u)) (pr (eA E) b) k v0 ∧ rng E t T r ∧ T ≤ sumTo t n ∧ r ≤ 60 * n ∧ 0 < isum (fun u => w (pe b u)) (pr (eA E) b) k v0 := by
  obtain ⟨h1, k, k1, k2, k3, k4⟩ := bf_found hE h hv ht
  have hall : ∀ x, it (pr (eA E) b) x v < n ∧ pe b (it (pr (eA E) b) x v) < E.length ∧ eF E (pe b (it (pr (eA E) b) x v)) = it (pr (eA E) b) x v ∧ b (it (pr (eA E) b) x v) = some (pe b (it (pr (eA E) b) x v)) := fun x => by
    obtain ⟨a1, e, a2⟩ := h1 x
    refine ⟨a1, ?_⟩
    rcases h.2.1 _ a1 with q | ⟨e', q1, q2, q3, -⟩
    · rw [q.1] at a2; cases a2
    · have : pe b (it (pr (eA E) b) x v) = e' := by show (b _).getD 0 = e'; rw [q1]; rfl
      rw [this]
      exact ⟨q2, q3, q1⟩
  refine ⟨hall, k, _, _, _, rfl, k1, k2, k3, k4, rfl, rfl, ?_, ?_, ?_, ?_⟩
  · refine ⟨pe b, it (pr (eA E) b) n v, k, k1, k3, fun i _ => ?_, rfl, rfl⟩
    have := hall (n + i)
    rw [it_add] at this
    exact ⟨this.2.1, this.2.2.1⟩
  · rw [sm_sum]
    exact sum_inj (fun i _ => by have := (hall (n + i)).1; rw [it_add] at this; exact this) (ring_inj k3 k4)
  · refine Nat.le_trans (sm_le (c := 60) (fun i _ => ?_)) (Nat.mul_le_mul_left _ k2)
    have := (hall (n + i)).2.1
    rw [it_add] at this
    exact hr _ this
  · refine bf_ring hE h (hall n).1 k1 k3 (fun i _ => ?_)
    have := (hall (n + i)).2.2.2
    rw [it_add] at this
    exact ⟨_, this⟩
/-- between passes -/
def BQ (M : tM) (kd kb n : Nat) (E : List ED) (w : Nat → Int) (s : Nat) (y : Int32) : Prop := ∃ (d : Nat → Int) (b : Nat → Option Nat) (tt z : Nat → Nat) (c : Nat), BF n E.length (eF E) (eA E) w s 0 c d b tt z ∧ DB M kd kb n d b ∧ (∀ v, v < n → d v ≤ 3600000 * (c : Int)) ∧ c ≤ 1260 * s ∧ (s = 0 ∨ ∃ v, v < n ∧ y = nI v ∧ tt v = s)
theorem bq_bp {M : tM} {kd kb n : Nat} {E : List ED} {w : Nat → Int} {s : Nat} {y : Int32} (h : BQ M kd kb n E w s y) : BP M kd kb n E w s 0 (-9) := by
  obtain ⟨d, b, tt, z, c, h1, h2, h3, h4, -⟩ := h
  exact ⟨d, b, tt, z, c, h1, h2, h3, by omega, Or.inl ⟨rfl, fun e he => by omega⟩⟩
theorem bp_end {M : tM} {kd kb n : Nat} {E : List ED} {w : Nat → Int} {s : Nat} {y : Int32} (hn : n ≤ 60) (hm : E.length ≤ 1260) (h : BP M kd kb n E w s E.length y) : (y = (-9) ∧ ∃ d : Nat → Int, ∀ e, e < E.length → d (eA E e) + w e ≤ d (eF E e)) ∨ (0 ≤ y ∧ BQ M kd kb n E w (s + 1) y) := by
  obtain ⟨d, b, tt, z, c, h1, h2, h3, h4, h5⟩ := h
  rcases h5 with ⟨k1, k2⟩ | ⟨v, hv, k1, k2⟩
  · exact Or.inl ⟨k1, d, k2⟩
  · refine Or.inr ⟨?_, d, b, tt, z, c, bf_next h1, h2, h3, by omega, Or.inr ⟨v, hv, k1, k2⟩⟩
    rw [k1]
    exact nI_le (a := 0) (Nat.zero_le _) (by omega)
theorem bq_0 {M : tM} {kd kb n : Nat} {E : List ED} {w : Nat → Int} {y : Int32} (h1 : ∀ v, v < n → mL M kd 0 v = 0) (h2 : ∀ v, v < n → mI M kb 0 v = (-9)) : BQ M kd kb n E w 0 y :=
  ⟨fun _ => 0, fun _ => none, fun _ => 0, fun _ => 0, 0, bf_start, fun v hv => ⟨h1 v hv, h2 v hv⟩, fun _ _ => by simp, by omega, Or.inl rfl⟩
theorem pot_c {E : List ED} {t : Nat → Nat} {p q : Nat} (h : ∃ d : Nat → Int, ∀ e, e < E.length → d (eA E e) + wC E t p q e ≤ d (eF E e)) : pot E t p q := by
  obtain ⟨d, hd⟩ := h
  refine ⟨fun v => d v + (q : Int) * (t v : Int), fun e he => ?_⟩
  have := hd e he
  show d (eA E e) + (q : Int) * (t (eA E e) : Int) + (q : Int) * (t (eF E e) : Int) - (p : Int) * (eR E e : Int) ≤ d (eF E e) + (q : Int) * (t (eF E e) : Int)
  unfold wC at this
  omega
theorem pot_m {E : List ED} {t : Nat → Nat} {p q : Nat} (h : ∃ d : Nat → Int, ∀ e, e < E.length → d (eA E e) + wM E t p q e ≤ d (eF E e)) : pot E t p q := by
  obtain ⟨d, hd⟩ := h
  refine ⟨d, fun e he => ?_⟩
  have := hd e he
  unfold wM at this
  omega
theorem c_l22 {M : tM} {n : Nat} {E : List ED} {t : Nat → Nat} {p q : Nat} (hl : Len M) (hQ : QC M n E t p q) (hH : HB n E t p q) (hB : BQ M 111 112 n E (wC E t p q) 0 (-9)) :
    Ok (fX0_findSlowerRing_l22 FU (-9) 0 M) (fun w => (∃ m, w = .inl (0, m) ∧ Fr [111, 112] M m ∧ pot E t p q) ∨ ∃ y m, w = .inr (y, m) ∧ Fr [111, 112] M m ∧ BQ m 111 112 n E (wC E t p q) (n + 1) y) := by
  have h60 := hH.1
  have hm := hH.2.1
  refine loop0 (fun k i (x : Int32 × tM) => fX0_findSlowerRing_l22 k x.1 i x.2) (n + 1) (fun i x => Fr [111, 112] M x.2 ∧ BQ x.2 111 112 n E (wC E t p q) i x.1) _ (by omega) ?_ ?_ (-9, M) ⟨Fr.refl, hB⟩
  · rintro k ⟨y, m⟩ ⟨F, h⟩
    have F : Fr [111, 112] M m := F
    show Ok (fX0_findSlowerRing_l22 (k + 1) y (nI (n + 1)) m) _
    rw [fX0_findSlowerRing_l22, (hQ.fr F (by decide)).2.1, if_pos (nI_lt (by omega) (by omega))]
    exact ok_some (Or.inr ⟨y, m, rfl, F, h⟩)
  · rintro k i ⟨y, m⟩ hi ⟨F, h⟩ kk
    have F : Fr [111, 112] M m := F
    have h : BQ m 111 112 n E (wC E t p q) i y := h
    show Ok (fX0_findSlowerRing_l22 (k + 1) y (nI i) m) _
    rw [fX0_findSlowerRing_l22, (hQ.fr F (by decide)).2.1, if_neg (nI_nlt (by omega) (by omega))]
    refine ok_call (c_pass (hl.fr F) (hQ.fr F (by decide)) hH (by omega) (bq_bp h)) ?_
    rintro ⟨y2, m2⟩ ⟨F2, h2⟩
    have F2 : Fr [111, 112] m m2 := F2
    have h2 : BP m2 111 112 n E (wC E t p q) i E.length y2 := h2
    show Ok (if 0 ≤ y2 then _ else _) _
    rcases bp_end h60 hm h2 with ⟨k1, k2⟩ | ⟨k1, k2⟩
    · rw [k1, if_neg (by decide)]
      exact ok_some (Or.inl ⟨m2, rfl, F.step F2 (by decide), pot_c k2⟩)
    · rw [if_pos k1, bnd_eq, nI_1]
      exact kk (y2, m2) ⟨F.step F2 (by decide), k2⟩
/-- a sum of sums by places -/
theorem sm_end {g f : Nat → Nat} {i v : Nat} : sm g f (i + 1) v = sm g f i v + g (it f i v) := by rw [sm_sum, sm_sum, sumTo]
theorem c_find {M : tM} {n : Nat} {E : List ED} {t ps : Nat → Nat} {p q : Nat} (hl : Len M) (hQ : QC M n E t p q) (hH : HB n E t p q) (hG : GE n ps E) :
    Ok (fX0_findSlowerRing M) (fun w => (w.1 = 0 ∧ Fr [111, 112] M w.2 ∧ pot E t p q) ∨ (w.1 = 1 ∧ Fr [111, 112, 10001, 10002] M w.2 ∧ ∃ T r, rng E t T r ∧ T ≤ sumTo t n ∧ 1 ≤ r ∧ r ≤ 60 * n ∧ p * r < q * T ∧ mL w.2 0 0 1 = lN (T / Nat.gcd r T) ∧ mL w.2 0 0 2 = lN (r / Nat.gcd r T))) := by
  obtain ⟨h60, hm, hE, hr, ht, hp, hq1, hq⟩ := id hH
  have hts : sumTo t n ≤ 60000 := by
    have : ∀ k, k ≤ n → sumTo t k ≤ 1000 * k := by
      intro k
      induction k with
      | zero => intro _; exact Nat.le_refl _
      | succ k ih =>
        intro hk
        have h1 := ih (by omega)
        have h2 := ht k (by omega)
        rw [sumTo]; omega
    have := this n (Nat.le_refl _); omega
  rw [fX0_findSlowerRing]
  refine ok_call (s_fillL (k := 111) (i := 0) (n := 60) (v := 0) (by decide) (by decide) (by decide) (ln111 hl) (by decide)) ?_
  rintro M1 ⟨F1, k1, -⟩
  refine ok_call (s_fill (k := 112) (i := 0) (n := 60) (v := -9) (by decide) (by decide) (by decide) ((F1.n _ _).trans (ln112 hl)) (by decide)) ?_
  rintro M2 ⟨F2, k2, -⟩
  have G2 : Fr [111, 112] M M2 := (F1.mono (by decide)).step F2 (by decide)
  refine ok_call (c_l22 (hl.fr G2) (hQ.fr G2 (by decide)) hH (bq_0 (fun v hv => (F2.aL (by decide)).trans (k1 v (by omega))) (fun v hv => k2 v (by omega)))) ?_
  rintro w (⟨m, rfl, F, hpot⟩ | ⟨y, m, rfl, F, hBQ⟩)
  · exact ok_some (Or.inl ⟨rfl, G2.step F (by decide), hpot⟩)
  have G3 : Fr [111, 112] M m := G2.step F (by decide)
  obtain ⟨d, b, tt, z, c, b1, b2, -, -, b5⟩ := hBQ
  obtain ⟨v, hv, rfl, htv⟩ : ∃ v, v < n ∧ y = nI v ∧ tt v = n + 1 := by
    rcases b5 with h | h
    · omega
    · exact h
  obtain ⟨hall, k, v0, T, r, ev0, c1, c2, c3, c4, eT, er, hrng, hT, hr60, hpos⟩ := bf_rngs (t := t) hE hr b1 hv (by omega)
  obtain ⟨qe, q6, q5, qp, qq⟩ := hQ.fr G3 (by decide)
  have by12 : ∀ x, mI m 112 0 (it (pr (eA E) b) x v) = nI (pe b (it (pr (eA E) b) x v)) := fun x => by
    have h := hall x
    rw [(b2 _ h.1).2, h.2.2.2]; rfl
  have wa8 : ∀ x, mI m 108 0 (pe b (it (pr (eA E) b) x v)) = nI (it (pr (eA E) b) (x + 1) v) := fun x => by
    have h := hall x
    rw [it_succ]
    exact (qe.2 _ h.2.1).2.1
  show Ok (Option.bind (fX0_findSlowerRing_l51 m FU (nI v) 0) _) _
  have walk : Ok (fX0_findSlowerRing_l51 m FU (nI v) 0) (fun w => w = .inr (nI v0)) := by
    refine loop0 (fun k i (x : Int32) => fX0_findSlowerRing_l51 m k x i) n (fun i x => x = nI (it (pr (eA E) b) i v)) _ (by omega) ?_ ?_ (nI v) rfl
    · intro k x h
      rw [fX0_findSlowerRing_l51, q6, if_pos (nI_le (Nat.le_refl _) (by omega)), h, ev0]
      exact ok_some rfl
    · intro k i x hi h kk
      have hx := hall i
      rw [fX0_findSlowerRing_l51, q6, if_neg (nI_ge hi (by omega)), h, if_neg (nI_pos (by omega)), G3.n, ln112 hl, chk_nI (by omega) (by omega), nI_clamp (by omega), by12, if_pos (show (0 : Int32) ≤ nI _ from nI_le (a := 0) (Nat.zero_le _) (by omega)), chk_nI (by omega) (by omega), G3.n, ln108 hl, chk_nI (by omega) (by omega), bnd_eq, bnd_eq, nI_clamp (by omega), wa8, nI_1]
      exact kk _ rfl
  refine ok_call walk ?_
  rintro _ rfl
  show Ok ((fX0_takeRing (nI v0) m).bind fun (x26, M28) => chk (tb x26) <| some ((x26, M28))) _
  have e0 : ∀ x, it (pr (eA E) b) x v0 = it (pr (eA E) b) (n + x) v := fun x => by rw [ev0, ← it_add]
  have v0n : v0 < n := by rw [ev0]; exact (hall n).1
  have take : Ok (fX0_takeRing_l11 (nI v0) m FU 0 0 (nI v0) 0) (fun w => w = .inr (lN T, lN r)) := by
    refine loop0 (fun k' i (x : Int64 × Int64 × Int32) => fX0_takeRing_l11 (nI v0) m k' x.1 x.2.1 x.2.2 i) k (fun i x => i < k ∧ x.1 = lN (sm (fun u => t (pr (eA E) b u)) (pr (eA E) b) i v0) ∧ x.2.1 = lN (sm (fun u => eR E (pe b u)) (pr (eA E) b) i v0) ∧ x.2.2 = nI (it (pr (eA E) b) i v0)) _ (by omega) ?_ ?_ (0, 0, nI v0) ⟨c1, rfl, rfl, rfl⟩
    · rintro k' x ⟨h, -⟩; omega
    · rintro k' i ⟨y2, y4, y6⟩ hi ⟨-, h1, h2, h3⟩ kk
      have h1 : y2 = lN (sm (fun u => t (pr (eA E) b u)) (pr (eA E) b) i v0) := h1
      have h2 : y4 = lN (sm (fun u => eR E (pe b u)) (pr (eA E) b) i v0) := h2
      have h3 : y6 = nI (it (pr (eA E) b) i v0) := h3
      subst h1 h2 h3
      have hx := hall (n + i)
      have hx1 := hall (n + (i + 1))
      have bx := by12 (n + i)
      have wx := wa8 (n + i)
      rw [← e0] at hx hx1 bx wx
      rw [show n + i + 1 = n + (i + 1) by omega, ← e0] at wx
      have tx := ht _ hx1.1
      have rx := hr _ hx.2.1
      have e9 : mI m 109 0 (pe b (it (pr (eA E) b) i v0)) = nI (eR E (pe b (it (pr (eA E) b) i v0))) := (qe.2 _ hx.2.1).2.2
      show Ok (fX0_takeRing_l11 (nI v0) m (k' + 1) (lN _) (lN _) (nI (it (pr (eA E) b) i v0)) (nI i)) _
      rw [fX0_takeRing_l11, q6, if_neg (nI_ge (show i < n by omega) (by omega)), G3.n, ln112 hl, chk_nI (by omega) (by omega), bnd_eq, nI_clamp (by omega), bx, if_pos (show (0 : Int32) ≤ nI _ from nI_le (a := 0) (Nat.zero_le _) (by omega)), G3.n, ln108 hl, chk_nI (by omega) (by omega), bnd_eq, nI_clamp (by omega), wx, G3.n, ln105 hl, chk_nI (by omega) (by omega), bnd_eq, nI_clamp (by omega), q5 _ hx1.1, nI_l (by omega), lN_add, G3.n, ln109 hl, chk_nI (by omega) (by omega), bnd_eq, e9, nI_l (by omega), lN_add]
      have s1 : sm (fun u => t (pr (eA E) b u)) (pr (eA E) b) i v0 + t (it (pr (eA E) b) (i + 1) v0) = sm (fun u => t (pr (eA E) b u)) (pr (eA E) b) (i + 1) v0 := by rw [sm_end, it_succ]
      have s2 : sm (fun u => eR E (pe b u)) (pr (eA E) b) i v0 + eR E (pe b (it (pr (eA E) b) i v0)) = sm (fun u => eR E (pe b u)) (pr (eA E) b) (i + 1) v0 := by rw [sm_end]
      rw [s1, s2]
      by_cases e : i + 1 = k
      · rw [if_pos (by rw [e, c3])]
        have e1 : sm (fun u => t (pr (eA E) b u)) (pr (eA E) b) (i + 1) v0 = T := by
          have := sm_shift (g := t) (f := pr (eA E) b) (k := i + 1) (v := v0)
          rw [e, c3] at this
          rw [e, eT]; omega
        rw [e1, e, ← er]
        exact ok_some rfl
      · rw [if_neg (fun x => c4 (i + 1) (by omega) (by omega) ((nI_eq (by omega) (by omega)).mp x)), bnd_eq, nI_1]
        exact kk (_, _, _) ⟨by omega, rfl, rfl, rfl⟩
  have r1 := rng_pos hG hrng
  have hg1 : 0 < Nat.gcd r T := Nat.gcd_pos_of_pos_left _ r1
  have hg2 : Nat.gcd r T ≤ r := Nat.le_of_dvd r1 (Nat.gcd_dvd_left _ _)
  have hlt : p * r < q * T := by
    have e : isum (fun u => wC E t p q (pe b u)) (pr (eA E) b) k v0 = (q : Int) * (T : Int) - (p : Int) * (r : Int) := by
      have h1 := isum_lin (g := fun u => t (pr (eA E) b u)) (h := fun u => eR E (pe b u)) (f := pr (eA E) b) (p := p) (q := q) (k := k) (v := v0)
      have h2 := sm_shift (g := t) (f := pr (eA E) b) (k := k) (v := v0)
      rw [c3] at h2
      rw [eT, er, ← show sm (fun u => t (pr (eA E) b u)) (pr (eA E) b) k v0 = sm t (pr (eA E) b) k v0 by omega]
      exact h1
    rw [e] at hpos
    have : (p : Int) * (r : Int) < (q : Int) * (T : Int) := by omega
    exact_mod_cast this
  rw [fX0_takeRing]
  obtain ⟨w, ew, rfl⟩ := take
  rw [ew, Option.bind_some]
  show Ok (Option.bind (if 0 < lg_cmp (lN r) 0 then _ else _) _) _
  rw [if_pos (show 0 < lg_cmp (lN r) 0 from (lcmp_gt (b := 0) (by omega) (by omega)).mpr r1), c_gcd r1 (by omega) (by omega), Option.bind_some, chk_tr (nz_lN hg1 (by omega)), bnd_eq, chk_tr (nz_lN hg1 (by omega)), bnd_eq, lN_div2 (by omega) (by omega), lN_div2 (by omega) (by omega), Option.bind_some]
  show Ok (chk (tb 1) _) _
  rw [chk_tr (by decide)]
  have F5 : Fr [10001, 10002] m (sL (sL m 0 0 1 (lN (T / Nat.gcd r T))) 0 0 2 (lN (r / Nat.gcd r T))) := (Fr.refl.wLo (by decide)).wLo (by decide)
  refine ok_some (Or.inr ⟨rfl, (G3.mono (by decide)).step F5 (by decide), T, r, hrng, hT, r1, hr60, hlt, ?_, ?_⟩)
  · simp [mL_sL]
  · simp [mL_sL]
