/-! schedule, the call -/
def NSv (N : NG) (v : Int32) : Prop := (nP N = 0 ∧ v = (-4)) ∨ (0 < nP N ∧ ((∃ R, rndOf N = .inl R ∧ ((v = 0 ∧ ¬ stk N R (nS N)) ∨ (v = (-4) ∧ stk N R (nS N)))) ∨ (∃ l, rndOf N = .inr (some l) ∧ v = (-4)) ∨ (rndOf N = .inr none ∧ v = (-6))))
theorem NSv_uniq {N : NG} {v w : Int32} (h : NSv N v) (h' : NSv N w) : v = w := by
  rcases h with ⟨p0, h⟩ | ⟨p0, ⟨R, r1, h⟩ | ⟨l, r1, h⟩ | ⟨r1, h⟩⟩ <;> rcases h' with ⟨q0, g⟩ | ⟨q0, ⟨R', r2, g⟩ | ⟨l', r2, g⟩ | ⟨r2, g⟩⟩
  · rw [h, g]
  · omega
  · omega
  · omega
  · omega
  · rw [r1] at r2
    cases r2
    rcases h with ⟨h, s⟩ | ⟨h, s⟩ <;> rcases g with ⟨g, t⟩ | ⟨g, t⟩
    · rw [h, g]
    · exact absurd t s
    · exact absurd s t
    · rw [h, g]
  · rw [r1] at r2; cases r2
  · rw [r1] at r2; cases r2
  · omega
  · rw [r1] at r2; cases r2
  · rw [h, g]
  · rw [r1] at r2; cases r2
  · omega
  · rw [r1] at r2; cases r2
  · rw [r1] at r2; cases r2
  · rw [h, g]
theorem NSv_neg {N : NG} {v : Int32} (h : NSv N v) (h0 : ¬ v = 0) : ¬ (0 : Int32) ≤ v := by
  rcases h with ⟨p0, h⟩ | ⟨p0, ⟨R, r1, ⟨h, -⟩ | ⟨h, -⟩⟩ | ⟨l, r1, h⟩ | ⟨r1, h⟩⟩
  · rw [h]; decide
  · exact absurd h h0
  · rw [h]; decide
  · rw [h]; decide
  · rw [h]; decide
def kNS : List Nat := [208, 209, 302, 601, 602, 603, 604, 605, 20004, 20005, 20006, 20007, 30003, 30004, 60006, 60007, 60008, 80006]
theorem ns_c {M : tM} {N : NG} (hA : Al M N) : ∃ v M2, fX10_noSchedule M = some (v, M2) ∧ Fr kNS M M2 ∧ Al M2 N ∧ NSv N v ∧ (v = 0 → ∃ R, rndOf N = .inl R ∧ 0 < nP N ∧ ¬ stk N R (nS N) ∧ (∀ p, p < nP N → mI M2 7 p 6 = nI (R p)) ∧ mI M2 1 0 4 = nI (sumTo R (nP N))) := by
  obtain ⟨x, M1, e, F, hA1, hx⟩ := nor_both hA
  obtain ⟨⟨hN, hl, hG⟩, hC, -, -, -, -, -, -, -, -, hk2, -⟩ := id hA1
  rcases hx with ⟨p0, x4⟩ | ⟨p0, ⟨R, r1, x0, hR, h4⟩ | ⟨l, r1, x9⟩ | ⟨r1, x6⟩⟩
  · refine ⟨-4, M1, ?_, F.mono (by decide), hA1, Or.inl ⟨p0, rfl⟩, fun h => absurd h (by decide)⟩
    rw [fX10_noSchedule, e, Option.bind_some]
    show (if x = 0 then _ else _) = _
    rw [x4, if_neg (by decide), if_neg (by decide)]
  · obtain ⟨⟨v, M2⟩, e2, F2, hk, h3, hv, hs⟩ := c_isStuck hN hl hC r1 p0 hR h4 hk2
    have F2 : Fr kSt M1 M2 := F2
    have hA2 := Al_stk hA1 (F2.mono (by decide)) hk
    have hs : (v = 1 ∧ stk N R (nS N)) ∨ (v = 0 ∧ ¬ stk N R (nS N)) := hs
    have G : Fr kNS M M2 := (F.mono (by decide)).step F2 (by decide)
    have pre : fX10_noSchedule M = if v = 0 then some (0, M2) else some (-4, M2) := by
      rw [fX10_noSchedule, e, Option.bind_some]
      show (if x = 0 then _ else _) = _
      rw [x0, if_pos rfl, e2, Option.bind_some]
    rcases hs with ⟨v1, s1⟩ | ⟨v0, s1⟩
    · refine ⟨-4, M2, by rw [pre, v1, if_neg (by decide)], G, hA2, Or.inr ⟨p0, Or.inl ⟨R, r1, Or.inr ⟨rfl, s1⟩⟩⟩, fun h => absurd h (by decide)⟩
    · refine ⟨0, M2, by rw [pre, v0, if_pos rfl], G, hA2, Or.inr ⟨p0, Or.inl ⟨R, r1, Or.inl ⟨rfl, s1⟩⟩⟩, fun _ => ⟨R, r1, p0, s1, fun p hp => (F2.oI (by decide)).trans (hR p hp), (F2.oI (by decide)).trans h4⟩⟩
  · refine ⟨-4, M1, ?_, F.mono (by decide), hA1, Or.inr ⟨p0, Or.inr (Or.inl ⟨l, r1, rfl⟩)⟩, fun h => absurd h (by decide)⟩
    rw [fX10_noSchedule, e, Option.bind_some]
    show (if x = 0 then _ else _) = _
    rw [x9, if_neg (by decide), if_pos rfl]
  · refine ⟨-6, M1, ?_, F.mono (by decide), hA1, Or.inr ⟨p0, Or.inr (Or.inr ⟨r1, rfl⟩)⟩, fun h => absurd h (by decide)⟩
    rw [fX10_noSchedule, e, Option.bind_some]
    show (if x = 0 then _ else _) = _
    rw [x6, if_neg (by decide), if_neg (by decide)]
theorem ns_m {X : tM} {N : NG} (hN : NOK N) (hl : Len X) (hG : Gr X N) : Ok (fX11_barred 1 X) (fun w => Fr kBM X w.2 ∧ NSv N w.1 ∧ ∀ R, rndOf N = .inl R → 0 < nP N → mI w.2 11 0 36 = nI (sumTo R (nP N)) ∧ ∀ p, p < nP N → mI w.2 1235 0 p = nI (R p)) := by
  refine (m_barred (y := 1) hN hl hG (Or.inr rfl)).mono ?_
  rintro ⟨w, m⟩ ⟨F, h⟩
  refine ⟨F, ?_, fun R hr p0 => ?_⟩
  · rcases h with h | ⟨p0, ⟨R, r1, -, -, h⟩ | h | h⟩
    · exact Or.inl h
    · refine Or.inr ⟨p0, Or.inl ⟨R, r1, ?_⟩⟩
      rcases h with ⟨h, z | z⟩ | ⟨h, -, z⟩
      · exact absurd z (by decide)
      · exact Or.inl ⟨h, z⟩
      · exact Or.inr ⟨h, z⟩
    · exact Or.inr ⟨p0, Or.inr (Or.inl h)⟩
    · exact Or.inr ⟨p0, Or.inr (Or.inr h)⟩
  · rcases h with ⟨h, -⟩ | ⟨p0, ⟨R', r1, h1, h2, -⟩ | ⟨l, r1, -⟩ | ⟨r1, -⟩⟩
    · omega
    · rw [hr] at r1
      cases r1
      exact ⟨h1, h2⟩
    · rw [hr] at r1; cases r1
    · rw [hr] at r1; cases r1
theorem c16 : call16 Rel := by
  rintro a1 M ⟨N, hA⟩
  rcases ix_cases a1 (n := 3) (by omega) with ⟨y, hy, rfl⟩ | ha
  rotate_left
  · have ii := out_nI (M := M) (a := a1) (b := 2) (n := 2) rfl (by omega) ha
    refine ⟨-1, M, M, ?_, ?_, N, hA⟩
    · rw [fX10_schedule]
      by_cases q : a1 < 0
      · rw [if_pos q]
      · rw [if_neg q, if_neg]
        rcases ii.2 with h | h
        · exact absurd h q
        · exact h
    · rw [fX11_schedule, ii.1]; rfl
  have ii := fun M => in_nI (M := M) (j := y) (n := 2) (b := 2) rfl (by omega) (by omega)
  obtain ⟨v, M2, e, F, hA2, hv, hv0⟩ := ns_c hA
  obtain ⟨⟨hN, hl, hG⟩, hC, hT, hV, hF, hR0, hD, hO, hS, hk1, hk2, hk3⟩ := id hA2
  have prc : fX10_schedule (nI y) M = if v = 0 then (fX8_goByRule (nI y) M2).bind fun (x7, M9) => some ((x7, M9)) else some ((v, M2)) := by
    rw [fX10_schedule, if_neg (ii M).2.1, if_pos (ii M).2.2, e, Option.bind_some]
  by_cases v0 : v = 0
  rotate_left
  · obtain ⟨⟨w, M3⟩, e3, F3, hw, -⟩ := ns_m hN hl hG
    have F3 : Fr kBM M2 M3 := F3
    have ew : w = v := NSv_uniq hw hv
    refine ⟨v, M2, M3, by rw [prc, if_neg v0], ?_, N, hA2.fr F3 (by decide)⟩
    rw [fX11_schedule, (ii M2).1, Option.bind_some, if_neg (by decide), e3, Option.bind_some]
    show (if 0 ≤ w then _ else _) = _
    rw [ew, if_neg (NSv_neg hv v0)]
  obtain ⟨R, r1, p0, hs, hR, h4⟩ := hv0 v0
  have hB := RB_0 hN r1
  have sp := sumR_pos hN r1 p0
  obtain ⟨⟨u, M3⟩, e3, F3, g1, g2, g3, g4, g5⟩ := c_rule (y := nI y) hN hl hC r1 hs hR h4
  have F3 : Fr kAd M2 M3 := F3
  have g1 : u = nI (sumTo (sO N (odS N R (nI y)) (sumTo R (nP N))) (nL N)) := g1
  have hl3 := hl.fr F3
  have hG3 := hG.fr F3 (by decide)
  obtain ⟨⟨w, M4⟩, e4, F4, hw, hw2⟩ := ns_m hN hl3 hG3
  have F4 : Fr kBM M3 M4 := F4
  have ew : w = 0 := (NSv_uniq hw hv).trans v0
  obtain ⟨w36, w35⟩ := hw2 R r1 p0
  obtain ⟨⟨t, M5⟩, e5, F5, u1, u2, u3, u4, u5⟩ := m_rule (y := nI y) hN (hl3.fr F4) (hG3.fr F4 (by decide)) r1 hs w35 w36
  have F5 : Fr kRu M4 M5 := F5
  have u1 : t = nI (sumTo (sO N (odS N R (nI y)) (sumTo R (nP N))) (nL N)) := u1
  refine ⟨u, M3, M5, ?_, ?_, N, ?_⟩
  · rw [prc, if_pos v0, e3]; rfl
  · rw [fX11_schedule, (ii M3).1, Option.bind_some, if_neg (by decide), e4, Option.bind_some]
    show (if 0 ≤ w then _ else _) = _
    rw [ew, if_pos (by decide), e5, u1, g1]
  · have ob := od_best (y := nI y) hN hs (sumTo R (nP N)) (Nat.le_refl _)
    have hall : ∀ p, p < nP N → ¬ cO (odS N R (nI y)) (sumTo R (nP N)) p < R p := by
      have hsum := vr_sum ob.1
      have hK := vr_ok ob.1
      intro p hp hlt
      have : sumTo (fun q => R q - cO (odS N R (nI y)) (sumTo R (nP N)) q) (nP N) + sumTo (cO (odS N R (nI y)) (sumTo R (nP N))) (nP N) = sumTo R (nP N) := by
        have aux : ∀ (f g : Nat → Nat) n, (∀ q, q < n → f q ≤ g q) → sumTo (fun q => g q - f q) n + sumTo f n = sumTo g n := by
          intro f g n
          induction n with
          | zero => intro _; rfl
          | succ n ihn =>
            intro hq
            have h1 := ihn (fun q h => hq q (by omega))
            have h2 := hq n (by omega)
            rw [sumTo, sumTo, sumTo]
            show sumTo (fun q => g q - f q) n + (g n - f n) + _ = _
            omega
        exact aux _ _ _ hK.1
      have h0 : sumTo (fun q => R q - cO (odS N R (nI y)) (sumTo R (nP N)) q) (nP N) = 0 := by omega
      have h1 : R p - cO (odS N R (nI y)) (sumTo R (nP N)) p = 0 := sumTo_zero.mp h0 p hp
      omega
    obtain ⟨-, hocc⟩ := all_R hN r1 ob.1 hall
    have GE : Fr (kAd ++ kBM ++ kRu) M2 M5 := ((F3.mono (by decide)).step F4 (by decide)).step F5 (by decide)
    refine (hA2.s.fr GE (by decide)).al (Cs_new (st := sO N (odS N R (nI y)) (sumTo R (nP N))) (od := odS N R (nI y)) (z := sumTo R (nP N)) sp hB.2.2 u2 ?_ (fun i hi => ⟨(ob.1 i hi).1, u3 i hi, ?_⟩) hocc (fun l hl' => ⟨?_, u4 l hl'⟩) (fun t ht => ⟨?_, u5 t ht⟩))
    · exact (F5.oI (by decide)).trans ((F4.oI (by decide)).trans g2)
    · exact (F5.aI (by decide)).trans ((F4.aI (by decide)).trans (g3 i hi))
    · exact (F5.aI (by decide)).trans ((F4.aI (by decide)).trans (g4 l hl'))
    · exact (F5.aI (by decide)).trans ((F4.aI (by decide)).trans (g5 t ht))
