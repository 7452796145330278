/-! beat: turn by turn -/
theorem new_pq {p q T r p' q' : Nat} (hq : 1 ≤ q) (hr : 1 ≤ r) (h : p * r < q * T) (hp' : p' = T / Nat.gcd r T) (hq' : q' = r / Nat.gcd r T) : Nat.Coprime p' q' ∧ 1 ≤ q' ∧ q' ≤ r ∧ p' ≤ T ∧ p' * r = q' * T ∧ p * q' < p' * q := by
  have hg1 : 0 < Nat.gcd r T := Nat.gcd_pos_of_pos_left _ hr
  have e1 : p' * Nat.gcd r T = T := by rw [hp']; exact Nat.div_mul_cancel (Nat.gcd_dvd_right _ _)
  have e2 : q' * Nat.gcd r T = r := by rw [hq']; exact Nat.div_mul_cancel (Nat.gcd_dvd_left _ _)
  have hc : Nat.Coprime q' p' := by rw [hp', hq']; exact Nat.coprime_div_gcd_div_gcd hg1
  generalize Nat.gcd r T = g at *
  subst e1 e2
  refine ⟨hc.symm, ?_, Nat.le_mul_of_pos_right _ hg1, Nat.le_mul_of_pos_right _ hg1, by ac_rfl, ?_⟩
  · refine Nat.pos_of_ne_zero fun z => ?_
    rw [z, Nat.zero_mul] at hr; omega
  · refine Nat.lt_of_mul_lt_mul_right (a := g) ?_
    calc p * q' * g = p * (q' * g) := by ac_rfl
      _ < q * (p' * g) := h
      _ = p' * q * g := by ac_rfl
/-- a beat that some RING has, or 0 -/
def some_r (E : List ED) (t : Nat → Nat) (p q : Nat) : Prop := (p = 0 ∧ q = 1) ∨ ∃ T r, rng E t T r ∧ p * r = q * T
def HN (n : Nat) (E : List ED) (t : Nat → Nat) : Prop := n ≤ 60 ∧ E.length ≤ 1260 ∧ (∀ e, e < E.length → eF E e < n ∧ eA E e < n) ∧ (∀ e, e < E.length → eR E e ≤ 60) ∧ (∀ v, v < n → t v ≤ 1000)
theorem HN.hb {n : Nat} {E : List ED} {t : Nat → Nat} {p q : Nat} (h : HN n E t) (hp : p ≤ 60000) (hq : 1 ≤ q) (hq2 : q ≤ 3600) : HB n E t p q := ⟨h.1, h.2.1, h.2.2.1, h.2.2.2.1, h.2.2.2.2, hp, hq, hq2⟩
def kBl : List Nat := [1272, 1273, 120074, 120075]
theorem m_turns {M : tM} {n : Nat} {E : List ED} {t ps : Nat → Nat} {z1 : Int32} (hl : Len M) (hH : HN n E t) (hG : GE n ps E) (hQ : QX M n E t 0 1) :
    Ok (fX11_beat_l40 z1 FU 1 M) (fun m => ∃ p q, BT E t p q ∧ mL m 11 0 74 = lN p ∧ mL m 11 0 75 = lN q) := by
  have hts := ts_le hH.1 hH.2.2.2.2
  have key := loopW (fun k (x : Int32 × tM × Nat × Nat) => fX11_beat_l40 z1 k x.1 x.2.1) (fun x => Fr kBl M x.2.1 ∧ QX x.2.1 n E t x.2.2.1 x.2.2.2 ∧ x.2.2.1 ≤ 60000 ∧ 1 ≤ x.2.2.2 ∧ x.2.2.2 ≤ 3600 ∧ Nat.Coprime x.2.2.1 x.2.2.2 ∧ some_r E t x.2.2.1 x.2.2.2 ∧ (x.1 = 1 ∨ (x.1 = 0 ∧ pot E t x.2.2.1 x.2.2.2))) (fun x => if x.1 = 0 then 0 else 216000002 - phi 3600 x.2.2.1 x.2.2.2) (fun m => ∃ p q, BT E t p q ∧ mL m 11 0 74 = lN p ∧ mL m 11 0 75 = lN q) ?_
  · refine key FU (1, M, 0, 1) ?_ ⟨Fr.refl, hQ, Nat.zero_le _, Nat.le_refl _, by show 1 ≤ 3600; omega, by show Nat.Coprime 0 1; decide, Or.inl ⟨rfl, rfl⟩, Or.inl rfl⟩
    refine FU_lt ?_
    show (if (1 : Int32) = 0 then 0 else 216000002 - phi 3600 0 1) < 1000000000
    rw [if_neg (by decide)]; omega
  · rintro k ⟨y, m, p, q⟩ ⟨F, hq, h1, h2, h3, h4, h5, h6⟩ kk
    have F : Fr kBl M m := F
    have hq : QX m n E t p q := hq
    have h1 : p ≤ 60000 := h1
    have h2 : 1 ≤ q := h2
    have h3 : q ≤ 3600 := h3
    have h4 : Nat.Coprime p q := h4
    have h5 : some_r E t p q := h5
    have h6 : y = 1 ∨ (y = 0 ∧ pot E t p q) := h6
    show Ok (fX11_beat_l40 z1 (k + 1) y m) _
    rcases h6 with rfl | ⟨rfl, hpot⟩
    · rw [fX11_beat_l40, if_neg (by decide)]
      refine ok_call (m_find (hl.fr F) hq (hH.hb h1 h2 h3) hG) ?_
      rintro ⟨y2, m2⟩ (⟨e, F2, hpot⟩ | ⟨e, F2, T, r, a1, a2, a3, a4, a5, a6, a7⟩)
      · have e : y2 = 0 := e
        have F2 : Fr [1272, 1273] m m2 := F2
        subst e
        refine kk (0, m2, p, q) ⟨F.step F2 (by decide), hq.fr F2 (by decide), h1, h2, h3, h4, h5, Or.inr ⟨rfl, hpot⟩⟩ ?_
        show (if (0 : Int32) = 0 then 0 else _) < (if (1 : Int32) = 0 then 0 else 216000002 - phi 3600 p q)
        have := phi_le (c := 3600) (p := p) (q := q)
        rw [if_pos rfl, if_neg (by decide)]; omega
      · have e : y2 = 1 := e
        have F2 : Fr kBl m m2 := F2
        have a6 : mL m2 11 0 74 = lN (T / Nat.gcd r T) := a6
        have a7 : mL m2 11 0 75 = lN (r / Nat.gcd r T) := a7
        subst e
        obtain ⟨b1, b2, b3, b4, b5, b6⟩ := new_pq h2 a3 a5 rfl rfl
        generalize T / Nat.gcd r T = p' at *
        generalize r / Nat.gcd r T = q' at *
        have h60 := hH.1
        obtain ⟨d1, d2, d3, -, -⟩ := hq
        refine kk (1, m2, p', q') ⟨F.step F2 (by decide), ⟨d1.fr F2 (by decide), (F2.oI (by decide)).trans d2, fun v hv => (F2.aI (by decide)).trans (d3 v hv), a6, a7⟩, by show p' ≤ 60000; omega, b2, by show q' ≤ 3600; omega, b1, Or.inr ⟨T, r, a1, b5⟩, Or.inl rfl⟩ ?_
        show (if (1 : Int32) = 0 then 0 else 216000002 - phi 3600 p' q') < (if (1 : Int32) = 0 then 0 else 216000002 - phi 3600 p q)
        have l1 := phi_le (c := 3600) (p := p') (q := q')
        have l2 := phi_lt (c := 3600) (by omega) (by omega) b6 a3 (by omega) (show T ≤ 60000 by omega) b5
        rw [if_neg (show ¬ (1 : Int32) = 0 by decide), if_neg (show ¬ (1 : Int32) = 0 by decide)]
        generalize phi 3600 p' q' = y1 at *
        generalize phi 3600 p q = y2 at *
        omega
    · rw [fX11_beat_l40, if_pos rfl]
      exact ok_some ⟨p, q, ⟨by omega, h4, hpot, h5⟩, hq.2.2.2.1, hq.2.2.2.2⟩
theorem c_turns {M : tM} {n : Nat} {E : List ED} {t ps : Nat → Nat} {p0 : Nat} (hl : Len M) (hH : HN n E t) (hG : GE n ps E) (hQ : QC M n E t p0 1) (h0 : p0 ≤ 60000) (hs : some_r E t p0 1) (hts : sumTo t n ≤ 12 * p0) :
    Ok (fX0_know_l52 FU 1 0 M) (fun m => Fr [111, 112, 10001, 10002] M m ∧ ∃ p q, BT E t p q ∧ mL m 0 0 1 = lN p ∧ mL m 0 0 2 = lN q) := by
  have hts6 := ts_le hH.1 hH.2.2.2.2
  have h60 := hH.1
  refine loop0 (fun k i (x : Int32 × tM) => fX0_know_l52 k x.1 i x.2) 1000000 (fun i x => Fr [111, 112, 10001, 10002] M x.2 ∧ ∃ p q, QC x.2 n E t p q ∧ p ≤ 60000 ∧ 1 ≤ q ∧ q ≤ 3600 ∧ p0 * q ≤ p ∧ Nat.Coprime p q ∧ some_r E t p q ∧ ((x.1 = 1 ∧ i ≤ phi 11 p q) ∨ (x.1 = 0 ∧ pot E t p q))) _ (by omega) ?_ ?_ (1, M) ⟨Fr.refl, p0, 1, hQ, h0, Nat.le_refl _, by omega, by omega, Nat.coprime_one_right _, hs, Or.inl ⟨rfl, Nat.zero_le _⟩⟩
  · rintro k ⟨y, m⟩ ⟨F, p, q, hq, h1, h2, h3, h7, h4, h5, h6⟩
    have F : Fr [111, 112, 10001, 10002] M m := F
    have hq : QC m n E t p q := hq
    show Ok (fX0_know_l52 (k + 1) y (nI 1000000) m) _
    rw [fX0_know_l52, if_pos (show (1000000 : Int32) ≤ nI 1000000 from nI_le (a := 1000000) (Nat.le_refl _) (by omega))]
    rcases h6 with ⟨-, h6⟩ | ⟨-, hpot⟩
    · have := phi_le (c := 11) (p := p) (q := q); omega
    · exact ok_some ⟨F, p, q, ⟨by omega, h4, hpot, h5⟩, hq.2.2.2.1, hq.2.2.2.2⟩
  · rintro k i ⟨y, m⟩ hi ⟨F, p, q, hq, h1, h2, h3, h7, h4, h5, h6⟩ kk
    have F : Fr [111, 112, 10001, 10002] M m := F
    have hq : QC m n E t p q := hq
    have h6 : (y = 1 ∧ i ≤ phi 11 p q) ∨ (y = 0 ∧ pot E t p q) := h6
    show Ok (fX0_know_l52 (k + 1) y (nI i) m) _
    rw [fX0_know_l52, if_neg (show ¬ (1000000 : Int32) ≤ nI i from nI_ge (b := 1000000) hi (by omega))]
    rcases h6 with ⟨rfl, h6⟩ | ⟨rfl, hpot⟩
    · rw [if_neg (by decide)]
      refine ok_call (c_find (hl.fr F) hq (hH.hb h1 h2 h3) hG) ?_
      rintro ⟨y2, m2⟩ (⟨e, F2, hpot⟩ | ⟨e, F2, T, r, a1, a2, a3, a4, a5, a6, a7⟩)
      · have e : y2 = 0 := e
        have F2 : Fr [111, 112] m m2 := F2
        subst e
        show Ok (bnd (nI i + 1) fun x20 => fX0_know_l52 k 0 x20 m2) _
        rw [bnd_eq, nI_1]
        exact kk (0, m2) ⟨F.step F2 (by decide), p, q, hq.fr F2 (by decide), h1, h2, h3, h7, h4, h5, Or.inr ⟨rfl, hpot⟩⟩
      · have e : y2 = 1 := e
        have F2 : Fr [111, 112, 10001, 10002] m m2 := F2
        have a6 : mL m2 0 0 1 = lN (T / Nat.gcd r T) := a6
        have a7 : mL m2 0 0 2 = lN (r / Nat.gcd r T) := a7
        subst e
        obtain ⟨b1, b2, b3, b4, b5, b6⟩ := new_pq h2 a3 a5 rfl rfl
        generalize T / Nat.gcd r T = p' at *
        generalize r / Nat.gcd r T = q' at *
        have hT : p0 * r < T := by
          refine Nat.lt_of_mul_lt_mul_right (a := q) ?_
          calc p0 * r * q = (p0 * q) * r := by ac_rfl
            _ ≤ p * r := Nat.mul_le_mul_right _ h7
            _ < q * T := a5
            _ = T * q := Nat.mul_comm _ _
        have r11 : r ≤ 11 := by
          refine Nat.le_of_not_lt fun z => ?_
          have : p0 * 12 ≤ p0 * r := Nat.mul_le_mul_left _ z
          omega
        have h7' : p0 * q' ≤ p' := by
          refine Nat.le_of_mul_le_mul_right (c := r) ?_ a3
          calc p0 * q' * r = q' * (p0 * r) := by ac_rfl
            _ ≤ q' * T := Nat.mul_le_mul_left _ (by omega)
            _ = p' * r := b5.symm
        have l2 := phi_lt (c := 11) (by omega) (by omega) b6 a3 r11 (show T ≤ 60000 by omega) b5
        obtain ⟨d1, d2, d3, -, -⟩ := hq
        show Ok (bnd (nI i + 1) fun x20 => fX0_know_l52 k 1 x20 m2) _
        rw [bnd_eq, nI_1]
        exact kk (1, m2) ⟨F.step F2 (by decide), p', q', ⟨d1.fr F2 (by decide), (F2.oI (by decide)).trans d2, fun v hv => (F2.aI (by decide)).trans (d3 v hv), a6, a7⟩, by omega, b2, by omega, h7', b1, Or.inr ⟨T, r, a1, b5⟩, Or.inl ⟨rfl, by omega⟩⟩
    · rw [if_pos rfl]
      exact ok_some ⟨F, p, q, ⟨by omega, h4, hpot, h5⟩, hq.2.2.2.1, hq.2.2.2.2⟩
