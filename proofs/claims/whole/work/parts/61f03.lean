theorem frX8_goByRule {a1 : Int32} {M : tM} {w : (Int32 × tM)} (h : fX8_goByRule a1 M = some w) : Fr [601, 602, 603, 604, 605, 902, 904, 905, 60006, 60007, 60008, 90003] M w.2 := by
  have F_M : Fr [601, 602, 603, 604, 605, 902, 904, 905, 60006, 60007, 60008, 90003] M M := Fr.refl
  unfold fX8_goByRule at h
  replace h := obind_some h
  obtain ⟨M2, c1, h⟩ := h
  have F_M2 : Fr [601, 602, 603, 604, 605, 902, 904, 905, 60006, 60007, 60008, 90003] M M2 := Fr.step F_M (frX5_begin c1) (by decide)
  replace h := obind_some h
  obtain ⟨M16, c2, h⟩ := h
  have F_M16 : Fr [601, 602, 603, 604, 605, 902, 904, 905, 60006, 60007, 60008, 90003] M M16 := Fr.step F_M2 (frX8_goByRule_l9 c2) (by decide)
  replace h := obind_some h
  obtain ⟨w4, c3, h⟩ := h
  obtain ⟨x17, M19⟩ := w4
  dsimp only at h
  have F_M19 : Fr [601, 602, 603, 604, 605, 902, 904, 905, 60006, 60007, 60008, 90003] M M19 := Fr.step F_M16 (frX8_settle c3) (by decide)
  obtain rfl := Option.some.inj h
  exact F_M19
theorem frX8_faultOf_l9_n {kz1 : Nat} {z1 : Nat} {z2 : Int32} : ∀ (n : Nat) (y3 : Int32) (M : tM) (w : ((Int32 × tM) ⊕ (tM))), fX8_faultOf_l9 kz1 z1 z2 n y3 M = some w → Fr [601, 602, 603, 604, 605, 60006, 60007, 60008] M (Sum.elim (fun q => q.2) (fun q => q) w) := by
  intro n
  induction n with
  | zero => intro y3 M w h; cases h
  | succ n ih =>
    intro y3 M w h
    have F_M : Fr [601, 602, 603, 604, 605, 60006, 60007, 60008] M M := Fr.refl
    rw [fX8_faultOf_l9] at h
    rcases ite_some h with ⟨_, h⟩ | ⟨_, h⟩
    · obtain rfl := Option.some.inj h
      exact F_M
    · replace h := chk_some h
      obtain ⟨_, h⟩ := h
      replace h := chk_some h
      obtain ⟨_, h⟩ := h
      rcases ite_some h with ⟨_, h⟩ | ⟨_, h⟩
      · obtain rfl := Option.some.inj h
        exact F_M
      · replace h := chk_some h
        obtain ⟨_, h⟩ := h
        replace h := chk_some h
        obtain ⟨_, h⟩ := h
        replace h := obind_some h
        obtain ⟨r9, c1, h⟩ := h
        rcases ite_some h with ⟨_, h⟩ | ⟨_, h⟩
        · obtain rfl := Option.some.inj h
          exact F_M
        · replace h := obind_some h
          obtain ⟨x12, c2, h⟩ := h
          rcases ite_some h with ⟨_, h⟩ | ⟨_, h⟩
          · obtain rfl := Option.some.inj h
            exact F_M
          · replace h := obind_some h
            obtain ⟨M16, c3, h⟩ := h
            have F_M16 : Fr [601, 602, 603, 604, 605, 60006, 60007, 60008] M M16 := Fr.step F_M (frX5_step c3) (by decide)
            replace h := bnd_some h
            obtain ⟨x17, e4, h⟩ := h
            exact Fr.trans F_M16 (ih _ _ _ h)
theorem frX8_faultOf_l9 {kz1 : Nat} {z1 : Nat} {z2 : Int32} {n : Nat} {y3 : Int32} {M : tM} {w : ((Int32 × tM) ⊕ (tM))} (h : fX8_faultOf_l9 kz1 z1 z2 n y3 M = some w) : Fr [601, 602, 603, 604, 605, 60006, 60007, 60008] M (Sum.elim (fun q => q.2) (fun q => q) w) := frX8_faultOf_l9_n n y3 M w h
theorem frX8_faultOf {k1 : Nat} {a1 : Nat} {a2 : Int32} {M : tM} {w : (Int32 × tM)} (h : fX8_faultOf k1 a1 a2 M = some w) : Fr [601, 602, 603, 604, 605, 60006, 60007, 60008] M w.2 := by
  have F_M : Fr [601, 602, 603, 604, 605, 60006, 60007, 60008] M M := Fr.refl
  unfold fX8_faultOf at h
  replace h := obind_some h
  obtain ⟨M2, c1, h⟩ := h
  have F_M2 : Fr [601, 602, 603, 604, 605, 60006, 60007, 60008] M M2 := Fr.step F_M (frX5_begin c1) (by decide)
  replace h := obind_some h
  obtain ⟨w3, c2, h⟩ := h
  have F_w := Fr.step F_M2 (frX8_faultOf_l9 c2) (ks2 := [601, 602, 603, 604, 605, 60006, 60007, 60008]) (by decide)
  rcases w3 with q22 | v0
  · dsimp only at h
    obtain rfl := Option.some.inj h
    exact F_w
  · dsimp only at h
    obtain ⟨M20, hq⟩ : ∃ q, q = v0 := ⟨_, rfl⟩
    rw [← hq] at h
    have F_M20 : Fr [601, 602, 603, 604, 605, 60006, 60007, 60008] M M20 := by rw [hq]; exact F_w
    rcases ite_some h with ⟨_, h⟩ | ⟨_, h⟩
    · obtain rfl := Option.some.inj h
      exact F_M20
    · obtain rfl := Option.some.inj h
      exact F_M20
theorem frX8_adopt_l9_n {kz1 : Nat} {z1 : Nat} {z2 : Int32} : ∀ (n : Nat) (y3 : Int32) (M : tM) (w : (tM)), fX8_adopt_l9 kz1 z1 z2 n y3 M = some w → Fr [601, 602, 603, 604, 605, 902, 60006, 60007, 60008] M w := by
  intro n
  induction n with
  | zero => intro y3 M w h; cases h
  | succ n ih =>
    intro y3 M w h
    have F_M : Fr [601, 602, 603, 604, 605, 902, 60006, 60007, 60008] M M := Fr.refl
    rw [fX8_adopt_l9] at h
    rcases ite_some h with ⟨_, h⟩ | ⟨_, h⟩
    · obtain rfl := Option.some.inj h
      exact F_M
    · replace h := chk_some h
      obtain ⟨_, h⟩ := h
      replace h := chk_some h
      obtain ⟨_, h⟩ := h
      rcases ite_some h with ⟨_, h⟩ | ⟨_, h⟩
      · obtain rfl := Option.some.inj h
        exact F_M
      · rcases ite_some h with ⟨_, h⟩ | ⟨_, h⟩
        · obtain rfl := Option.some.inj h
          exact F_M
        · replace h := chk_some h
          obtain ⟨_, h⟩ := h
          replace h := chk_some h
          obtain ⟨_, h⟩ := h
          replace h := chk_some h
          obtain ⟨_, h⟩ := h
          replace h := bnd_some h
          obtain ⟨M11, e1, h⟩ := h
          have F_M11 : Fr [601, 602, 603, 604, 605, 902, 60006, 60007, 60008] M M11 := by rw [e1]; exact Fr.wI F_M (by decide)
          replace h := chk_some h
          obtain ⟨_, h⟩ := h
          replace h := chk_some h
          obtain ⟨_, h⟩ := h
          replace h := obind_some h
          obtain ⟨r14, c2, h⟩ := h
          replace h := obind_some h
          obtain ⟨w4, b3, h⟩ := h
          have G_w4 : Fr [601, 602, 603, 604, 605, 902, 60006, 60007, 60008] M w4 := by
            clear h
            replace h := b3
            clear b3
            rcases ite_some h with ⟨_, h⟩ | ⟨_, h⟩
            · obtain rfl := Option.some.inj h
              exact F_M11
            · replace h := obind_some h
              obtain ⟨M18, c5, h⟩ := h
              have F_M18 : Fr [601, 602, 603, 604, 605, 902, 60006, 60007, 60008] M M18 := Fr.step F_M11 (frX5_step c5) (by decide)
              obtain rfl := Option.some.inj h
              exact F_M18
          have F_w4 := G_w4
          obtain ⟨M17, hq⟩ : ∃ q, q = w4 := ⟨_, rfl⟩
          rw [← hq] at h
          have F_M17 : Fr [601, 602, 603, 604, 605, 902, 60006, 60007, 60008] M M17 := by rw [hq]; exact F_w4
          clear hq
          replace h := bnd_some h
          obtain ⟨x20, e6, h⟩ := h
          exact Fr.trans F_M17 (ih _ _ _ h)
theorem frX8_adopt_l9 {kz1 : Nat} {z1 : Nat} {z2 : Int32} {n : Nat} {y3 : Int32} {M : tM} {w : (tM)} (h : fX8_adopt_l9 kz1 z1 z2 n y3 M = some w) : Fr [601, 602, 603, 604, 605, 902, 60006, 60007, 60008] M w := frX8_adopt_l9_n n y3 M w h
theorem frX8_adopt {k1 : Nat} {a1 : Nat} {a2 : Int32} {M : tM} {w : (Int32 × tM)} (h : fX8_adopt k1 a1 a2 M = some w) : Fr [601, 602, 603, 604, 605, 902, 904, 905, 60006, 60007, 60008, 90003] M w.2 := by
  have F_M : Fr [601, 602, 603, 604, 605, 902, 904, 905, 60006, 60007, 60008, 90003] M M := Fr.refl
  unfold fX8_adopt at h
  replace h := obind_some h
  obtain ⟨M2, c1, h⟩ := h
  have F_M2 : Fr [601, 602, 603, 604, 605, 902, 904, 905, 60006, 60007, 60008, 90003] M M2 := Fr.step F_M (frX5_begin c1) (by decide)
  replace h := obind_some h
  obtain ⟨M23, c2, h⟩ := h
  have F_M23 : Fr [601, 602, 603, 604, 605, 902, 904, 905, 60006, 60007, 60008, 90003] M M23 := Fr.step F_M2 (frX8_adopt_l9 c2) (by decide)
  replace h := obind_some h
  obtain ⟨w4, c3, h⟩ := h
  obtain ⟨x24, M26⟩ := w4
  dsimp only at h
  have F_M26 : Fr [601, 602, 603, 604, 605, 902, 904, 905, 60006, 60007, 60008, 90003] M M26 := Fr.step F_M23 (frX8_settle c3) (by decide)
  obtain rfl := Option.some.inj h
  exact F_M26
theorem frX9_toFirst_l7_n : ∀ (n : Nat) (y1 : Int32) (M : tM) (w : (tM)), fX9_toFirst_l7 n y1 M = some w → Fr [810, 80007, 80008] M w := by
  intro n
  induction n with
  | zero => intro y1 M w h; cases h
  | succ n ih =>
    intro y1 M w h
    have F_M : Fr [810, 80007, 80008] M M := Fr.refl
    rw [fX9_toFirst_l7] at h
    rcases ite_some h with ⟨_, h⟩ | ⟨_, h⟩
    · obtain rfl := Option.some.inj h
      exact F_M
    · replace h := chk_some h
      obtain ⟨_, h⟩ := h
      replace h := bnd_some h
      obtain ⟨r4, e1, h⟩ := h
      replace h := obind_some h
      obtain ⟨i5, c2, h⟩ := h
      replace h := obind_some h
      obtain ⟨M7, c3, h⟩ := h
      have F_M7 : Fr [810, 80007, 80008] M M7 := Fr.step F_M (frX7_toFirst c3) (by decide)
      replace h := bnd_some h
      obtain ⟨x8, e4, h⟩ := h
      exact Fr.trans F_M7 (ih _ _ _ h)
theorem frX9_toFirst_l7 {n : Nat} {y1 : Int32} {M : tM} {w : (tM)} (h : fX9_toFirst_l7 n y1 M = some w) : Fr [810, 80007, 80008] M w := frX9_toFirst_l7_n n y1 M w h
theorem frX9_toFirst_l38_n : ∀ (n : Nat) (y1 : Int32) (M : tM) (w : (tM)), fX9_toFirst_l38 n y1 M = some w → Fr [507, 50008, 50009, 50011] M w := by
  intro n
  induction n with
  | zero => intro y1 M w h; cases h
  | succ n ih =>
    intro y1 M w h
    have F_M : Fr [507, 50008, 50009, 50011] M M := Fr.refl
    rw [fX9_toFirst_l38] at h
    rcases ite_some h with ⟨_, h⟩ | ⟨_, h⟩
    · obtain rfl := Option.some.inj h
      exact F_M
    · replace h := chk_some h
      obtain ⟨_, h⟩ := h
      replace h := bnd_some h
      obtain ⟨r14, e1, h⟩ := h
      replace h := obind_some h
      obtain ⟨i15, c2, h⟩ := h
      replace h := obind_some h
      obtain ⟨M17, c3, h⟩ := h
      have F_M17 : Fr [507, 50008, 50009, 50011] M M17 := Fr.step F_M (frX4_toFirst c3) (by decide)
      replace h := bnd_some h
      obtain ⟨x18, e4, h⟩ := h
      exact Fr.trans F_M17 (ih _ _ _ h)
theorem frX9_toFirst_l38 {n : Nat} {y1 : Int32} {M : tM} {w : (tM)} (h : fX9_toFirst_l38 n y1 M = some w) : Fr [507, 50008, 50009, 50011] M w := frX9_toFirst_l38_n n y1 M w h
theorem frX9_toFirst {M : tM} {w : (tM)} (h : fX9_toFirst M = some w) : Fr [507, 810, 50008, 50009, 50011, 80007, 80008, 100001] M w := by
  have F_M : Fr [507, 810, 50008, 50009, 50011, 80007, 80008, 100001] M M := Fr.refl
  unfold fX9_toFirst at h
  replace h := bnd_some h
  obtain ⟨M1, e1, h⟩ := h
  have F_M1 : Fr [507, 810, 50008, 50009, 50011, 80007, 80008, 100001] M M1 := by rw [e1]; exact Fr.wIo F_M (by decide)
  replace h := obind_some h
  obtain ⟨M11, c2, h⟩ := h
  have F_M11 : Fr [507, 810, 50008, 50009, 50011, 80007, 80008, 100001] M M11 := Fr.step F_M1 (frX9_toFirst_l7 c2) (by decide)
  replace h := obind_some h
  obtain ⟨M21, c3, h⟩ := h
  have F_M21 : Fr [507, 810, 50008, 50009, 50011, 80007, 80008, 100001] M M21 := Fr.step F_M11 (frX9_toFirst_l38 c3) (by decide)
  obtain rfl := Option.some.inj h
  exact F_M21
theorem frX9_writeTrace {a1 : Int32} {M : tM} {w : (tM)} (h : fX9_writeTrace a1 M = some w) : Fr [1005, 100006] M w := by
  have F_M : Fr [1005, 100006] M M := Fr.refl
  unfold fX9_writeTrace at h
  rcases ite_some h with ⟨_, h⟩ | ⟨_, h⟩
  · obtain rfl := Option.some.inj h
    exact F_M
  · replace h := chk_some h
    obtain ⟨_, h⟩ := h
    replace h := bnd_some h
    obtain ⟨M3, e1, h⟩ := h
    have F_M3 : Fr [1005, 100006] M M3 := by rw [e1]; exact Fr.wI F_M (by decide)
    replace h := bnd_some h
    obtain ⟨M4, e2, h⟩ := h
    have F_M4 : Fr [1005, 100006] M M4 := by rw [e2]; exact Fr.wIo F_M3 (by decide)
    obtain rfl := Option.some.inj h
    exact F_M4
theorem frX9_fixedBody {a1 : Option Nat} {M : tM} {w : (Int64 × tM)} (h : fX9_fixedBody a1 M = some w) : Fr [1005, 100006] M w.2 := by
  have F_M : Fr [1005, 100006] M M := Fr.refl
  unfold fX9_fixedBody at h
  replace h := obind_some h
  obtain ⟨M2, c1, h⟩ := h
  have F_M2 : Fr [1005, 100006] M M2 := Fr.step F_M (frX9_writeTrace c1) (by decide)
  replace h := obind_some h
  obtain ⟨i3, c2, h⟩ := h
  obtain rfl := Option.some.inj h
  exact F_M2
theorem frX9_scaledBody {a1 : Option Nat} {M : tM} {w : (Int64 × tM)} (h : fX9_scaledBody a1 M = some w) : Fr [1005, 100006] M w.2 := by
  have F_M : Fr [1005, 100006] M M := Fr.refl
  unfold fX9_scaledBody at h
  replace h := obind_some h
  obtain ⟨M2, c1, h⟩ := h
  have F_M2 : Fr [1005, 100006] M M2 := Fr.step F_M (frX9_writeTrace c1) (by decide)
  replace h := obind_some h
  obtain ⟨i3, c2, h⟩ := h
  replace h := obind_some h
  obtain ⟨w4, c3, h⟩ := h
  obtain ⟨x4, M6⟩ := w4
  dsimp only at h
  have F_M6 : Fr [1005, 100006] M M6 := Fr.step F_M2 (frX9_fixedBody c3) (by decide)
  obtain rfl := Option.some.inj h
  exact F_M6
theorem frX9_keeperBody {a1 : Option Nat} {M : tM} {w : (Int64 × tM)} (h : fX9_keeperBody a1 M = some w) : Fr [1005, 80008, 100006] M w.2 := by
  have F_M : Fr [1005, 80008, 100006] M M := Fr.refl
  unfold fX9_keeperBody at h
  replace h := obind_some h
  obtain ⟨M2, c1, h⟩ := h
  have F_M2 : Fr [1005, 80008, 100006] M M2 := Fr.step F_M (frX9_writeTrace c1) (by decide)
  replace h := obind_some h
  obtain ⟨i3, c2, h⟩ := h
  replace h := obind_some h
  obtain ⟨w4, c3, h⟩ := h
  obtain ⟨x4, M6⟩ := w4
  dsimp only at h
  have F_M6 : Fr [1005, 80008, 100006] M M6 := Fr.step F_M2 (frX9_scaledBody c3) (by decide)
  replace h := bnd_some h
  obtain ⟨M7, e5, h⟩ := h
  have F_M7 : Fr [1005, 80008, 100006] M M7 := by rw [e5]; exact Fr.wLo F_M6 (by decide)
  obtain rfl := Option.some.inj h
  exact F_M7
theorem frX9_shareBody {a1 : Option Nat} {M : tM} {w : (Int64 × tM)} (h : fX9_shareBody a1 M = some w) : Fr [1005, 100003, 100006] M w.2 := by
  have F_M : Fr [1005, 100003, 100006] M M := Fr.refl
  unfold fX9_shareBody at h
  replace h := obind_some h
  obtain ⟨M2, c1, h⟩ := h
  have F_M2 : Fr [1005, 100003, 100006] M M2 := Fr.step F_M (frX9_writeTrace c1) (by decide)
  replace h := obind_some h
  obtain ⟨w3, c2, h⟩ := h
  obtain ⟨x3, M5⟩ := w3
  dsimp only at h
  have F_M5 : Fr [1005, 100003, 100006] M M5 := Fr.step F_M2 (frX9_scaledBody c2) (by decide)
  replace h := obind_some h
  obtain ⟨i6, c4, h⟩ := h
  replace h := bnd_some h
  obtain ⟨r7, e5, h⟩ := h
  replace h := obind_some h
  obtain ⟨w7, b6, h⟩ := h
  obtain ⟨x9, hq⟩ : ∃ q, q = w7 := ⟨_, rfl⟩
  rw [← hq] at h
  clear hq
  rcases ite_some h with ⟨_, h⟩ | ⟨_, h⟩
  · replace h := bnd_some h
    obtain ⟨M15, e8, h⟩ := h
    have F_M15 : Fr [1005, 100003, 100006] M M15 := by rw [e8]; exact Fr.wIo F_M5 (by decide)
    obtain rfl := Option.some.inj h
    exact F_M15
  · replace h := chk_some h
    obtain ⟨_, h⟩ := h
    obtain rfl := Option.some.inj h
    exact F_M5
theorem frX9_phasedBody {a1 : Option Nat} {M : tM} {w : (Int64 × tM)} (h : fX9_phasedBody a1 M = some w) : Fr [1005, 100006] M w.2 := by
  have F_M : Fr [1005, 100006] M M := Fr.refl
  unfold fX9_phasedBody at h
  replace h := obind_some h
  obtain ⟨M2, c1, h⟩ := h
  have F_M2 : Fr [1005, 100006] M M2 := Fr.step F_M (frX9_writeTrace c1) (by decide)
  replace h := obind_some h
  obtain ⟨w3, c2, h⟩ := h
  obtain ⟨x3, M5⟩ := w3
  dsimp only at h
  have F_M5 : Fr [1005, 100006] M M5 := Fr.step F_M2 (frX9_fixedBody c2) (by decide)
  replace h := obind_some h
  obtain ⟨i6, c4, h⟩ := h
  obtain rfl := Option.some.inj h
  exact F_M5
theorem frX9_delayBody {a1 : Option Nat} {M : tM} {w : (Int64 × tM)} (h : fX9_delayBody a1 M = some w) : Fr [810, 1005, 100003, 100006] M w.2 := by
  have F_M : Fr [810, 1005, 100003, 100006] M M := Fr.refl
  unfold fX9_delayBody at h
  replace h := obind_some h
  obtain ⟨M2, c1, h⟩ := h
  have F_M2 : Fr [810, 1005, 100003, 100006] M M2 := Fr.step F_M (frX9_writeTrace c1) (by decide)
  replace h := obind_some h
  obtain ⟨i3, c2, h⟩ := h
  replace h := bnd_some h
  obtain ⟨r4, e3, h⟩ := h
  rcases ite_some h with ⟨_, h⟩ | ⟨_, h⟩
  · replace h := bnd_some h
    obtain ⟨M30, e4, h⟩ := h
    have F_M30 : Fr [810, 1005, 100003, 100006] M M30 := by rw [e4]; exact Fr.wIo F_M2 (by decide)
    obtain rfl := Option.some.inj h
    exact F_M30
  · replace h := obind_some h
    obtain ⟨w6, c5, h⟩ := h
    obtain ⟨x6, M8⟩ := w6
    dsimp only at h
    have F_M8 : Fr [810, 1005, 100003, 100006] M M8 := Fr.step F_M2 (frX9_fixedBody c5) (by decide)
    replace h := bnd_some h
    obtain ⟨r9, e7, h⟩ := h
    replace h := obind_some h
    obtain ⟨i10, c8, h⟩ := h
    rcases ite_some h with ⟨_, h⟩ | ⟨_, h⟩
    · obtain rfl := Option.some.inj h
      exact F_M8
    · replace h := bnd_some h
      obtain ⟨r12, e9, h⟩ := h
      replace h := obind_some h
      obtain ⟨i13, c10, h⟩ := h
      replace h := bnd_some h
      obtain ⟨x14, e11, h⟩ := h
      replace h := bnd_some h
      obtain ⟨r15, e12, h⟩ := h
      replace h := obind_some h
      obtain ⟨i16, c13, h⟩ := h
      replace h := chk_some h
      obtain ⟨_, h⟩ := h
      replace h := bnd_some h
      obtain ⟨x18, e14, h⟩ := h
      replace h := bnd_some h
      obtain ⟨r19, e15, h⟩ := h
      replace h := bnd_some h
      obtain ⟨r20, e16, h⟩ := h
      replace h := obind_some h
      obtain ⟨i21, c17, h⟩ := h
      replace h := obind_some h
      obtain ⟨i22, c18, h⟩ := h
      replace h := chk_some h
      obtain ⟨_, h⟩ := h
      replace h := bnd_some h
      obtain ⟨M24, e19, h⟩ := h
      have F_M24 : Fr [810, 1005, 100003, 100006] M M24 := by rw [e19]; exact Fr.vL F_M8 (by decide)
      replace h := bnd_some h
      obtain ⟨r26, e20, h⟩ := h
      replace h := obind_some h
      obtain ⟨i27, c21, h⟩ := h
      replace h := chk_some h
      obtain ⟨_, h⟩ := h
      replace h := bnd_some h
      obtain ⟨M29, e22, h⟩ := h
      have F_M29 : Fr [810, 1005, 100003, 100006] M M29 := by rw [e22]; exact Fr.wL F_M24 (by decide)
      obtain rfl := Option.some.inj h
      exact F_M29
theorem frX9_workOf {a1 : Option Nat} {M : tM} {w : (Int64 × tM)} (h : fX9_workOf a1 M = some w) : Fr [810, 1005, 80008, 100003, 100006] M w.2 := by
  have F_M : Fr [810, 1005, 80008, 100003, 100006] M M := Fr.refl
  unfold fX9_workOf at h
  replace h := obind_some h
  obtain ⟨i1, c1, h⟩ := h
  replace h := bnd_some h
  obtain ⟨x2, e2, h⟩ := h
  rcases ite_some h with ⟨_, h⟩ | ⟨_, h⟩
  · replace h := obind_some h
    obtain ⟨w4, c3, h⟩ := h
    obtain ⟨x4, M6⟩ := w4
    dsimp only at h
    have F_M6 : Fr [810, 1005, 80008, 100003, 100006] M M6 := Fr.step F_M (frX9_fixedBody c3) (by decide)
    obtain rfl := Option.some.inj h
    exact F_M6
  · rcases ite_some h with ⟨_, h⟩ | ⟨_, h⟩
    · replace h := obind_some h
      obtain ⟨w6, c5, h⟩ := h
      obtain ⟨x7, M9⟩ := w6
      dsimp only at h
      have F_M9 : Fr [810, 1005, 80008, 100003, 100006] M M9 := Fr.step F_M (frX9_scaledBody c5) (by decide)
      obtain rfl := Option.some.inj h
      exact F_M9
    · rcases ite_some h with ⟨_, h⟩ | ⟨_, h⟩
      · replace h := obind_some h
        obtain ⟨w8, c7, h⟩ := h
        obtain ⟨x11, M13⟩ := w8
        dsimp only at h
        have F_M13 : Fr [810, 1005, 80008, 100003, 100006] M M13 := Fr.step F_M (frX9_keeperBody c7) (by decide)
        obtain rfl := Option.some.inj h
        exact F_M13
      · rcases ite_some h with ⟨_, h⟩ | ⟨_, h⟩
        · replace h := obind_some h
          obtain ⟨w10, c9, h⟩ := h
          obtain ⟨x15, M17⟩ := w10
          dsimp only at h
          have F_M17 : Fr [810, 1005, 80008, 100003, 100006] M M17 := Fr.step F_M (frX9_shareBody c9) (by decide)
          obtain rfl := Option.some.inj h
          exact F_M17
        · rcases ite_some h with ⟨_, h⟩ | ⟨_, h⟩
          · replace h := obind_some h
            obtain ⟨w12, c11, h⟩ := h
            obtain ⟨x19, M21⟩ := w12
            dsimp only at h
            have F_M21 : Fr [810, 1005, 80008, 100003, 100006] M M21 := Fr.step F_M (frX9_phasedBody c11) (by decide)
            obtain rfl := Option.some.inj h
            exact F_M21
          · rcases ite_some h with ⟨_, h⟩ | ⟨_, h⟩
            · replace h := obind_some h
              obtain ⟨w14, c13, h⟩ := h
              obtain ⟨x23, M25⟩ := w14
              dsimp only at h
              have F_M25 : Fr [810, 1005, 80008, 100003, 100006] M M25 := Fr.step F_M (frX9_delayBody c13) (by decide)
              obtain rfl := Option.some.inj h
              exact F_M25
            · cases h
theorem frX9_move_l6_n {z1 : Nat} {z2 : Int64} : ∀ (n : Nat) (y4 : (Option Nat)) (M : tM) (w : (tM)), fX9_move_l6 z1 z2 n y4 M = some w → Fr [50008, 50009] M w := by
  intro n
  induction n with
  | zero => intro y4 M w h; cases h
  | succ n ih =>
    intro y4 M w h
    have F_M : Fr [50008, 50009] M M := Fr.refl
    rw [fX9_move_l6] at h
    rcases ite_some h with ⟨_, h⟩ | ⟨_, h⟩
    · obtain rfl := Option.some.inj h
      exact F_M
    · replace h := obind_some h
      obtain ⟨i4, c1, h⟩ := h
      replace h := obind_some h
      obtain ⟨x5, c2, h⟩ := h
      replace h := obind_some h
      obtain ⟨M8, c3, h⟩ := h
      have F_M8 : Fr [50008, 50009] M M8 := Fr.step F_M (frX4_drop c3) (by decide)
      replace h := bnd_some h
      obtain ⟨r9, e4, h⟩ := h
      exact Fr.trans F_M8 (ih _ _ _ h)
theorem frX9_move_l6 {z1 : Nat} {z2 : Int64} {n : Nat} {y4 : (Option Nat)} {M : tM} {w : (tM)} (h : fX9_move_l6 z1 z2 n y4 M = some w) : Fr [50008, 50009] M w := frX9_move_l6_n n y4 M w h
theorem frX9_move_l60_n {z1 : Nat} {z2 : Int64} {z4 : Nat} {z5 : Int32} : ∀ (n : Nat) (y6 : Int32) (M : tM) (w : (tM)), fX9_move_l60 z1 z2 z4 z5 n y6 M = some w → Fr [507, 510, 50009, 50011] M w := by
  intro n
  induction n with
  | zero => intro y6 M w h; cases h
  | succ n ih =>
    intro y6 M w h
    have F_M : Fr [507, 510, 50009, 50011] M M := Fr.refl
    rw [fX9_move_l60] at h
    rcases ite_some h with ⟨_, h⟩ | ⟨_, h⟩
    · obtain rfl := Option.some.inj h
      exact F_M
    · replace h := obind_some h
      obtain ⟨M20, c1, h⟩ := h
      have F_M20 : Fr [507, 510, 50009, 50011] M M20 := Fr.step F_M (frX4_put c1) (by decide)
      replace h := bnd_some h
      obtain ⟨x21, e2, h⟩ := h
      exact Fr.trans F_M20 (ih _ _ _ h)
theorem frX9_move_l60 {z1 : Nat} {z2 : Int64} {z4 : Nat} {z5 : Int32} {n : Nat} {y6 : Int32} {M : tM} {w : (tM)} (h : fX9_move_l60 z1 z2 z4 z5 n y6 M = some w) : Fr [507, 510, 50009, 50011] M w := frX9_move_l60_n n y6 M w h
theorem frX9_move_l41_n {z1 : Nat} {z2 : Int64} : ∀ (n : Nat) (y4 : (Option Nat)) (M : tM) (w : (tM)), fX9_move_l41 z1 z2 n y4 M = some w → Fr [507, 510, 50009, 50011] M w := by
  intro n
  induction n with
  | zero => intro y4 M w h; cases h
  | succ n ih =>
    intro y4 M w h
    have F_M : Fr [507, 510, 50009, 50011] M M := Fr.refl
    rw [fX9_move_l41] at h
    rcases ite_some h with ⟨_, h⟩ | ⟨_, h⟩
    · obtain rfl := Option.some.inj h
      exact F_M
    · replace h := obind_some h
      obtain ⟨i15, c1, h⟩ := h
      replace h := obind_some h
      obtain ⟨x16, c2, h⟩ := h
      replace h := obind_some h
      obtain ⟨M24, c3, h⟩ := h
      have F_M24 : Fr [507, 510, 50009, 50011] M M24 := Fr.step F_M (frX9_move_l60 c3) (by decide)
      replace h := bnd_some h
      obtain ⟨r25, e4, h⟩ := h
      exact Fr.trans F_M24 (ih _ _ _ h)
theorem frX9_move_l41 {z1 : Nat} {z2 : Int64} {n : Nat} {y4 : (Option Nat)} {M : tM} {w : (tM)} (h : fX9_move_l41 z1 z2 n y4 M = some w) : Fr [507, 510, 50009, 50011] M w := frX9_move_l41_n n y4 M w h
theorem frX9_move {a1 : Option Nat} {a2 : Int64} {M : tM} {w : (tM)} (h : fX9_move a1 a2 M = some w) : Fr [507, 510, 50008, 50009, 50011, 80007] M w := by
  have F_M : Fr [507, 510, 50008, 50009, 50011, 80007] M M := Fr.refl
  unfold fX9_move at h
  replace h := obind_some h
  obtain ⟨i1, c1, h⟩ := h
  replace h := bnd_some h
  obtain ⟨r2, e2, h⟩ := h
  replace h := obind_some h
  obtain ⟨M12, c3, h⟩ := h
  have F_M12 : Fr [507, 510, 50008, 50009, 50011, 80007] M M12 := Fr.step F_M (frX9_move_l6 c3) (by decide)
  replace h := bnd_some h
  obtain ⟨r13, e4, h⟩ := h
  replace h := obind_some h
  obtain ⟨M28, c5, h⟩ := h
  have F_M28 : Fr [507, 510, 50008, 50009, 50011, 80007] M M28 := Fr.step F_M12 (frX9_move_l41 c5) (by decide)
  replace h := obind_some h
  obtain ⟨x29, c6, h⟩ := h
  replace h := bnd_some h
  obtain ⟨M31, e7, h⟩ := h
  have F_M31 : Fr [507, 510, 50008, 50009, 50011, 80007] M M31 := by rw [e7]; exact Fr.wIo F_M28 (by decide)
  obtain rfl := Option.some.inj h
  exact F_M31
theorem frX9_attempt {a1 : Option Nat} {M : tM} {w : (Int32 × tM)} (h : fX9_attempt a1 M = some w) : Fr [507, 510, 810, 1005, 50008, 50009, 50011, 80007, 80008, 100001, 100002, 100003, 100004, 100006] M w.2 := by
  have F_M : Fr [507, 510, 810, 1005, 50008, 50009, 50011, 80007, 80008, 100001, 100002, 100003, 100004, 100006] M M := Fr.refl
  unfold fX9_attempt at h
  rcases ite_some h with ⟨_, h⟩ | ⟨_, h⟩
  · replace h := obind_some h
    obtain ⟨x2, c1, h⟩ := h
    rcases ite_some h with ⟨_, h⟩ | ⟨_, h⟩
    · obtain rfl := Option.some.inj h
      exact F_M
    · replace h := obind_some h
      obtain ⟨x5, c2, h⟩ := h
      rcases ite_some h with ⟨_, h⟩ | ⟨_, h⟩
      · replace h := bnd_some h
        obtain ⟨M8, e3, h⟩ := h
        have F_M8 : Fr [507, 510, 810, 1005, 50008, 50009, 50011, 80007, 80008, 100001, 100002, 100003, 100004, 100006] M M8 := by rw [e3]; exact Fr.wIo F_M (by decide)
        replace h := bnd_some h
        obtain ⟨M9, e4, h⟩ := h
        have F_M9 : Fr [507, 510, 810, 1005, 50008, 50009, 50011, 80007, 80008, 100001, 100002, 100003, 100004, 100006] M M9 := by rw [e4]; exact Fr.wIo F_M8 (by decide)
        replace h := obind_some h
        obtain ⟨x10, c5, h⟩ := h
        replace h := bnd_some h
        obtain ⟨M12, e6, h⟩ := h
        have F_M12 : Fr [507, 510, 810, 1005, 50008, 50009, 50011, 80007, 80008, 100001, 100002, 100003, 100004, 100006] M M12 := by rw [e6]; exact Fr.wLo F_M9 (by decide)
        replace h := obind_some h
        obtain ⟨w8, c7, h⟩ := h
        obtain ⟨x13, M15⟩ := w8
        dsimp only at h
        have F_M15 : Fr [507, 510, 810, 1005, 50008, 50009, 50011, 80007, 80008, 100001, 100002, 100003, 100004, 100006] M M15 := Fr.step F_M12 (frX9_workOf c7) (by decide)
        rcases ite_some h with ⟨_, h⟩ | ⟨_, h⟩
        · replace h := obind_some h
          obtain ⟨M18, c9, h⟩ := h
          have F_M18 : Fr [507, 510, 810, 1005, 50008, 50009, 50011, 80007, 80008, 100001, 100002, 100003, 100004, 100006] M M18 := Fr.step F_M15 (frX9_move c9) (by decide)
          replace h := bnd_some h
          obtain ⟨M19, e10, h⟩ := h
          have F_M19 : Fr [507, 510, 810, 1005, 50008, 50009, 50011, 80007, 80008, 100001, 100002, 100003, 100004, 100006] M M19 := by rw [e10]; exact Fr.wIo F_M18 (by decide)
          replace h := bnd_some h
          obtain ⟨M20, e11, h⟩ := h
          have F_M20 : Fr [507, 510, 810, 1005, 50008, 50009, 50011, 80007, 80008, 100001, 100002, 100003, 100004, 100006] M M20 := by rw [e11]; exact Fr.wLo F_M19 (by decide)
          obtain rfl := Option.some.inj h
          exact F_M20
        · obtain rfl := Option.some.inj h
          exact F_M15
      · obtain rfl := Option.some.inj h
        exact F_M
  · obtain rfl := Option.some.inj h
    exact F_M
theorem frX10_meets {a1 : Int32} {M : tM} {w : (Int32 × tM)} (h : fX10_meets a1 M = some w) : Fr [1110, 110009] M w.2 := by
  have F_M : Fr [1110, 110009] M M := Fr.refl
  unfold fX10_meets at h
  replace h := bnd_some h
  obtain ⟨M1, e1, h⟩ := h
  have F_M1 : Fr [1110, 110009] M M1 := by rw [e1]; exact Fr.wIo F_M (by decide)
  replace h := chk_some h
  obtain ⟨_, h⟩ := h
  replace h := chk_some h
  obtain ⟨_, h⟩ := h
  replace h := bnd_some h
  obtain ⟨M4, e2, h⟩ := h
  have F_M4 : Fr [1110, 110009] M M4 := by rw [e2]; exact Fr.wI F_M1 (by decide)
  obtain rfl := Option.some.inj h
  exact F_M4
theorem frX10_toFirstMarking {M : tM} {w : (tM)} (h : fX10_toFirstMarking M = some w) : Fr [507, 810, 905, 50008, 50009, 50011, 80007, 80008, 100001] M w := by
  have F_M : Fr [507, 810, 905, 50008, 50009, 50011, 80007, 80008, 100001] M M := Fr.refl
  unfold fX10_toFirstMarking at h
  replace h := obind_some h
  obtain ⟨M2, c1, h⟩ := h
  have F_M2 : Fr [507, 810, 905, 50008, 50009, 50011, 80007, 80008, 100001] M M2 := Fr.step F_M (frX9_toFirst c1) (by decide)
  replace h := obind_some h
  obtain ⟨M4, c2, h⟩ := h
  have F_M4 : Fr [507, 810, 905, 50008, 50009, 50011, 80007, 80008, 100001] M M4 := Fr.step F_M2 (frX8_beginThreads c2) (by decide)
  obtain rfl := Option.some.inj h
  exact F_M4
theorem frX10_graphChanged {M : tM} {w : (tM)} (h : fX10_graphChanged M = some w) : Fr [507, 810, 905, 10003, 20006, 30003, 30005, 50008, 50009, 50011, 70007, 80007, 80008, 90003, 100001] M w := by
  have F_M : Fr [507, 810, 905, 10003, 20006, 30003, 30005, 50008, 50009, 50011, 70007, 80007, 80008, 90003, 100001] M M := Fr.refl
  unfold fX10_graphChanged at h
  replace h := obind_some h
  obtain ⟨M2, c1, h⟩ := h
  have F_M2 : Fr [507, 810, 905, 10003, 20006, 30003, 30005, 50008, 50009, 50011, 70007, 80007, 80008, 90003, 100001] M M2 := Fr.step F_M (frX1_forgetRound c1) (by decide)
  replace h := obind_some h
  obtain ⟨M4, c2, h⟩ := h
  have F_M4 : Fr [507, 810, 905, 10003, 20006, 30003, 30005, 50008, 50009, 50011, 70007, 80007, 80008, 90003, 100001] M M4 := Fr.step F_M2 (frX2_forget c2) (by decide)
  replace h := obind_some h
  obtain ⟨M6, c3, h⟩ := h
  have F_M6 : Fr [507, 810, 905, 10003, 20006, 30003, 30005, 50008, 50009, 50011, 70007, 80007, 80008, 90003, 100001] M M6 := Fr.step F_M4 (frX0_forget c3) (by decide)
  replace h := obind_some h
  obtain ⟨M8, c4, h⟩ := h
  have F_M8 : Fr [507, 810, 905, 10003, 20006, 30003, 30005, 50008, 50009, 50011, 70007, 80007, 80008, 90003, 100001] M M8 := Fr.step F_M6 (frX6_drop c4) (by decide)
  replace h := obind_some h
  obtain ⟨M10, c5, h⟩ := h
  have F_M10 : Fr [507, 810, 905, 10003, 20006, 30003, 30005, 50008, 50009, 50011, 70007, 80007, 80008, 90003, 100001] M M10 := Fr.step F_M8 (frX8_drop c5) (by decide)
  replace h := obind_some h
  obtain ⟨M12, c6, h⟩ := h
  have F_M12 : Fr [507, 810, 905, 10003, 20006, 30003, 30005, 50008, 50009, 50011, 70007, 80007, 80008, 90003, 100001] M M12 := Fr.step F_M10 (frX10_toFirstMarking c6) (by decide)
  obtain rfl := Option.some.inj h
  exact F_M12
theorem frX10_first {a1 : Int32} {a2 : Int32} {M : tM} {w : (Int32 × tM)} (h : fX10_first a1 a2 M = some w) : Fr [505, 507, 810, 905, 10003, 20006, 30003, 30005, 50006, 50008, 50009, 50011, 70007, 80007, 80008, 90003, 100001] M w.2 := by
  have F_M : Fr [505, 507, 810, 905, 10003, 20006, 30003, 30005, 50006, 50008, 50009, 50011, 70007, 80007, 80008, 90003, 100001] M M := Fr.refl
  unfold fX10_first at h
  replace h := obind_some h
  obtain ⟨r1, c1, h⟩ := h
  rcases ite_some h with ⟨_, h⟩ | ⟨_, h⟩
  · obtain rfl := Option.some.inj h
    exact F_M
  · rcases ite_some h with ⟨_, h⟩ | ⟨_, h⟩
    · obtain rfl := Option.some.inj h
      exact F_M
    · rcases ite_some h with ⟨_, h⟩ | ⟨_, h⟩
      · replace h := obind_some h
        obtain ⟨i6, c2, h⟩ := h
        replace h := obind_some h
        obtain ⟨M8, c3, h⟩ := h
        have F_M8 : Fr [505, 507, 810, 905, 10003, 20006, 30003, 30005, 50006, 50008, 50009, 50011, 70007, 80007, 80008, 90003, 100001] M M8 := Fr.step F_M (frJ7_fill_d0a16 c3) (by simp)
        replace h := bnd_some h
        obtain ⟨M9, e4, h⟩ := h
        have F_M9 : Fr [505, 507, 810, 905, 10003, 20006, 30003, 30005, 50006, 50008, 50009, 50011, 70007, 80007, 80008, 90003, 100001] M M9 := by rw [e4]; exact Fr.wIo F_M8 (by decide)
        replace h := obind_some h
        obtain ⟨M11, c5, h⟩ := h
        have F_M11 : Fr [505, 507, 810, 905, 10003, 20006, 30003, 30005, 50006, 50008, 50009, 50011, 70007, 80007, 80008, 90003, 100001] M M11 := Fr.step F_M9 (frX10_graphChanged c5) (by decide)
        obtain rfl := Option.some.inj h
        exact F_M11
      · obtain rfl := Option.some.inj h
        exact F_M
theorem frX10_thing {a1 : Int32} {a2 : Int32} {a3 : Int64} {M : tM} {w : (Int32 × tM)} (h : fX10_thing a1 a2 a3 M = some w) : Fr [505, 507, 810, 905, 1110, 50008, 50009, 50011, 80007, 80008, 100001, 110009] M w.2 := by
  have F_M : Fr [505, 507, 810, 905, 1110, 50008, 50009, 50011, 80007, 80008, 100001, 110009] M M := Fr.refl
  unfold fX10_thing at h
  replace h := obind_some h
  obtain ⟨r1, c1, h⟩ := h
  rcases ite_some h with ⟨_, h⟩ | ⟨_, h⟩
  · obtain rfl := Option.some.inj h
    exact F_M
  · rcases ite_some h with ⟨_, h⟩ | ⟨_, h⟩
    · replace h := obind_some h
      obtain ⟨w3, c2, h⟩ := h
      obtain ⟨x5, M7⟩ := w3
      dsimp only at h
      have F_M7 : Fr [505, 507, 810, 905, 1110, 50008, 50009, 50011, 80007, 80008, 100001, 110009] M M7 := Fr.step F_M (frX10_meets c2) (by decide)
      obtain rfl := Option.some.inj h
      exact F_M7
    · replace h := obind_some h
      obtain ⟨i8, c4, h⟩ := h
      rcases ite_some h with ⟨_, h⟩ | ⟨_, h⟩
      · replace h := obind_some h
        obtain ⟨w6, c5, h⟩ := h
        obtain ⟨x10, M12⟩ := w6
        dsimp only at h
        have F_M12 : Fr [505, 507, 810, 905, 1110, 50008, 50009, 50011, 80007, 80008, 100001, 110009] M M12 := Fr.step F_M (frX10_meets c5) (by decide)
        obtain rfl := Option.some.inj h
        exact F_M12
      · rcases ite_some h with ⟨_, h⟩ | ⟨_, h⟩
        · replace h := chk_some h
          obtain ⟨_, h⟩ := h
          replace h := bnd_some h
          obtain ⟨M15, e7, h⟩ := h
          have F_M15 : Fr [505, 507, 810, 905, 1110, 50008, 50009, 50011, 80007, 80008, 100001, 110009] M M15 := by rw [e7]; exact Fr.wL F_M (by decide)
          replace h := obind_some h
          obtain ⟨M17, c8, h⟩ := h
          have F_M17 : Fr [505, 507, 810, 905, 1110, 50008, 50009, 50011, 80007, 80008, 100001, 110009] M M17 := Fr.step F_M15 (frX10_toFirstMarking c8) (by decide)
          obtain rfl := Option.some.inj h
          exact F_M17
        · replace h := obind_some h
          obtain ⟨w10, c9, h⟩ := h
          obtain ⟨x18, M20⟩ := w10
          dsimp only at h
          have F_M20 : Fr [505, 507, 810, 905, 1110, 50008, 50009, 50011, 80007, 80008, 100001, 110009] M M20 := Fr.step F_M (frX10_meets c9) (by decide)
          obtain rfl := Option.some.inj h
          exact F_M20
theorem frX10_row {a1 : Int32} {a2 : Int32} {a3 : Int64} {M : tM} {w : (Int32 × tM)} (h : fX10_row a1 a2 a3 M = some w) : Fr [507, 809, 810, 905, 1110, 50008, 50009, 50011, 80007, 80008, 100001, 110009] M w.2 := by
  have F_M : Fr [507, 809, 810, 905, 1110, 50008, 50009, 50011, 80007, 80008, 100001, 110009] M M := Fr.refl
  unfold fX10_row at h
  replace h := obind_some h
  obtain ⟨r1, c1, h⟩ := h
  rcases ite_some h with ⟨_, h⟩ | ⟨_, h⟩
  · obtain rfl := Option.some.inj h
    exact F_M
  · replace h := obind_some h
    obtain ⟨i4, c2, h⟩ := h
    rcases ite_some h with ⟨_, h⟩ | ⟨_, h⟩
    · replace h := bnd_some h
      obtain ⟨r6, e3, h⟩ := h
      rcases ite_some h with ⟨_, h⟩ | ⟨_, h⟩
      · replace h := obind_some h
        obtain ⟨w5, c4, h⟩ := h
        obtain ⟨x24, M26⟩ := w5
        dsimp only at h
        have F_M26 : Fr [507, 809, 810, 905, 1110, 50008, 50009, 50011, 80007, 80008, 100001, 110009] M M26 := Fr.step F_M (frX10_meets c4) (by decide)
        obtain rfl := Option.some.inj h
        exact F_M26
      · rcases ite_some h with ⟨_, h⟩ | ⟨_, h⟩
        · replace h := obind_some h
          obtain ⟨w7, c6, h⟩ := h
          obtain ⟨x9, M11⟩ := w7
          dsimp only at h
          have F_M11 : Fr [507, 809, 810, 905, 1110, 50008, 50009, 50011, 80007, 80008, 100001, 110009] M M11 := Fr.step F_M (frX10_meets c6) (by decide)
          obtain rfl := Option.some.inj h
          exact F_M11
        · replace h := bnd_some h
          obtain ⟨r12, e8, h⟩ := h
          replace h := obind_some h
          obtain ⟨i13, c9, h⟩ := h
          rcases ite_some h with ⟨_, h⟩ | ⟨_, h⟩
          · replace h := bnd_some h
            obtain ⟨r15, e10, h⟩ := h
            replace h := obind_some h
            obtain ⟨i16, c11, h⟩ := h
            replace h := chk_some h
            obtain ⟨_, h⟩ := h
            replace h := bnd_some h
            obtain ⟨M18, e12, h⟩ := h
            have F_M18 : Fr [507, 809, 810, 905, 1110, 50008, 50009, 50011, 80007, 80008, 100001, 110009] M M18 := by rw [e12]; exact Fr.wL F_M (by decide)
            replace h := obind_some h
            obtain ⟨M20, c13, h⟩ := h
            have F_M20 : Fr [507, 809, 810, 905, 1110, 50008, 50009, 50011, 80007, 80008, 100001, 110009] M M20 := Fr.step F_M18 (frX10_toFirstMarking c13) (by decide)
            obtain rfl := Option.some.inj h
            exact F_M20
          · replace h := obind_some h
            obtain ⟨w15, c14, h⟩ := h
            obtain ⟨x21, M23⟩ := w15
            dsimp only at h
            have F_M23 : Fr [507, 809, 810, 905, 1110, 50008, 50009, 50011, 80007, 80008, 100001, 110009] M M23 := Fr.step F_M (frX10_meets c14) (by decide)
            obtain rfl := Option.some.inj h
            exact F_M23
    · replace h := obind_some h
      obtain ⟨w17, c16, h⟩ := h
      obtain ⟨x27, M29⟩ := w17
      dsimp only at h
      have F_M29 : Fr [507, 809, 810, 905, 1110, 50008, 50009, 50011, 80007, 80008, 100001, 110009] M M29 := Fr.step F_M (frX10_meets c16) (by decide)
      obtain rfl := Option.some.inj h
      exact F_M29
theorem frX10_copy {a1 : Int32} {a2 : Int32} {a3 : Int32} {a4 : Int32} {a5 : Int32} {M : tM} {w : (Int32 × tM)} (h : fX10_copy a1 a2 a3 a4 a5 M = some w) : Fr [507, 809, 810, 905, 1110, 50008, 50009, 50011, 80007, 80008, 100001, 110009] M w.2 := by
  have F_M : Fr [507, 809, 810, 905, 1110, 50008, 50009, 50011, 80007, 80008, 100001, 110009] M M := Fr.refl
  unfold fX10_copy at h
  replace h := obind_some h
  obtain ⟨r1, c1, h⟩ := h
  replace h := obind_some h
  obtain ⟨r3, c2, h⟩ := h
  rcases ite_some h with ⟨_, h⟩ | ⟨_, h⟩
  · obtain rfl := Option.some.inj h
    exact F_M
  · rcases ite_some h with ⟨_, h⟩ | ⟨_, h⟩
    · obtain rfl := Option.some.inj h
      exact F_M
    · replace h := obind_some h
      obtain ⟨i7, c3, h⟩ := h
      rcases ite_some h with ⟨_, h⟩ | ⟨_, h⟩
      · replace h := obind_some h
        obtain ⟨i12, c4, h⟩ := h
        rcases ite_some h with ⟨_, h⟩ | ⟨_, h⟩
        · replace h := bnd_some h
          obtain ⟨r14, e5, h⟩ := h
          rcases ite_some h with ⟨_, h⟩ | ⟨_, h⟩
          · replace h := obind_some h
            obtain ⟨w7, c6, h⟩ := h
            obtain ⟨x16, M18⟩ := w7
            dsimp only at h
            have F_M18 : Fr [507, 809, 810, 905, 1110, 50008, 50009, 50011, 80007, 80008, 100001, 110009] M M18 := Fr.step F_M (frX10_meets c6) (by decide)
            obtain rfl := Option.some.inj h
            exact F_M18
          · replace h := bnd_some h
            obtain ⟨r19, e8, h⟩ := h
            rcases ite_some h with ⟨_, h⟩ | ⟨_, h⟩
            · replace h := obind_some h
              obtain ⟨w10, c9, h⟩ := h
              obtain ⟨x46, M48⟩ := w10
              dsimp only at h
              have F_M48 : Fr [507, 809, 810, 905, 1110, 50008, 50009, 50011, 80007, 80008, 100001, 110009] M M48 := Fr.step F_M (frX10_meets c9) (by decide)
              obtain rfl := Option.some.inj h
              exact F_M48
            · replace h := bnd_some h
              obtain ⟨r21, e11, h⟩ := h
              replace h := obind_some h
              obtain ⟨i22, c12, h⟩ := h
              replace h := obind_some h
              obtain ⟨x23, c13, h⟩ := h
              rcases ite_some h with ⟨_, h⟩ | ⟨_, h⟩
              · replace h := obind_some h
                obtain ⟨w15, c14, h⟩ := h
                obtain ⟨x26, M28⟩ := w15
                dsimp only at h
                have F_M28 : Fr [507, 809, 810, 905, 1110, 50008, 50009, 50011, 80007, 80008, 100001, 110009] M M28 := Fr.step F_M (frX10_meets c14) (by decide)
                obtain rfl := Option.some.inj h
                exact F_M28
              · replace h := bnd_some h
                obtain ⟨r29, e16, h⟩ := h
                replace h := obind_some h
                obtain ⟨i30, c17, h⟩ := h
                replace h := obind_some h
                obtain ⟨x31, c18, h⟩ := h
                rcases ite_some h with ⟨_, h⟩ | ⟨_, h⟩
                · replace h := obind_some h
                  obtain ⟨w20, c19, h⟩ := h
                  obtain ⟨x43, M45⟩ := w20
                  dsimp only at h
                  have F_M45 : Fr [507, 809, 810, 905, 1110, 50008, 50009, 50011, 80007, 80008, 100001, 110009] M M45 := Fr.step F_M (frX10_meets c19) (by decide)
                  obtain rfl := Option.some.inj h
                  exact F_M45
                · replace h := bnd_some h
                  obtain ⟨r34, e21, h⟩ := h
                  replace h := bnd_some h
                  obtain ⟨r35, e22, h⟩ := h
                  replace h := obind_some h
                  obtain ⟨i36, c23, h⟩ := h
                  replace h := obind_some h
                  obtain ⟨i37, c24, h⟩ := h
                  replace h := chk_some h
                  obtain ⟨_, h⟩ := h
                  replace h := bnd_some h
                  obtain ⟨M39, e25, h⟩ := h
                  have F_M39 : Fr [507, 809, 810, 905, 1110, 50008, 50009, 50011, 80007, 80008, 100001, 110009] M M39 := by rw [e25]; exact Fr.vL F_M (by decide)
                  replace h := obind_some h
                  obtain ⟨M42, c26, h⟩ := h
                  have F_M42 : Fr [507, 809, 810, 905, 1110, 50008, 50009, 50011, 80007, 80008, 100001, 110009] M M42 := Fr.step F_M39 (frX10_toFirstMarking c26) (by decide)
                  obtain rfl := Option.some.inj h
                  exact F_M42
        · replace h := obind_some h
          obtain ⟨w28, c27, h⟩ := h
          obtain ⟨x49, M51⟩ := w28
          dsimp only at h
          have F_M51 : Fr [507, 809, 810, 905, 1110, 50008, 50009, 50011, 80007, 80008, 100001, 110009] M M51 := Fr.step F_M (frX10_meets c27) (by decide)
          obtain rfl := Option.some.inj h
          exact F_M51
      · replace h := obind_some h
        obtain ⟨w30, c29, h⟩ := h
        obtain ⟨x9, M11⟩ := w30
        dsimp only at h
        have F_M11 : Fr [507, 809, 810, 905, 1110, 50008, 50009, 50011, 80007, 80008, 100001, 110009] M M11 := Fr.step F_M (frX10_meets c29) (by decide)
        obtain rfl := Option.some.inj h
        exact F_M11
theorem frX10_tear {a1 : Int32} {M : tM} {w : (Int32 × tM)} (h : fX10_tear a1 M = some w) : Fr [507, 810, 905, 1110, 50008, 50009, 50011, 80007, 80008, 80009, 80010, 100001, 110009] M w.2 := by
  have F_M : Fr [507, 810, 905, 1110, 50008, 50009, 50011, 80007, 80008, 80009, 80010, 100001, 110009] M M := Fr.refl
  unfold fX10_tear at h
  replace h := obind_some h
  obtain ⟨r1, c1, h⟩ := h
  rcases ite_some h with ⟨_, h⟩ | ⟨_, h⟩
  · obtain rfl := Option.some.inj h
    exact F_M
  · replace h := obind_some h
    obtain ⟨i4, c2, h⟩ := h
    rcases ite_some h with ⟨_, h⟩ | ⟨_, h⟩
    · replace h := bnd_some h
      obtain ⟨r6, e3, h⟩ := h
      rcases ite_some h with ⟨_, h⟩ | ⟨_, h⟩
      · replace h := obind_some h
        obtain ⟨w5, c4, h⟩ := h
        obtain ⟨x12, M14⟩ := w5
        dsimp only at h
        have F_M14 : Fr [507, 810, 905, 1110, 50008, 50009, 50011, 80007, 80008, 80009, 80010, 100001, 110009] M M14 := Fr.step F_M (frX10_meets c4) (by decide)
        obtain rfl := Option.some.inj h
        exact F_M14
      · replace h := bnd_some h
        obtain ⟨M8, e6, h⟩ := h
        have F_M8 : Fr [507, 810, 905, 1110, 50008, 50009, 50011, 80007, 80008, 80009, 80010, 100001, 110009] M M8 := by rw [e6]; exact Fr.wRo F_M (by decide)
        replace h := bnd_some h
        obtain ⟨M9, e7, h⟩ := h
        have F_M9 : Fr [507, 810, 905, 1110, 50008, 50009, 50011, 80007, 80008, 80009, 80010, 100001, 110009] M M9 := by rw [e7]; exact Fr.wRo F_M8 (by decide)
        replace h := obind_some h
        obtain ⟨M11, c8, h⟩ := h
        have F_M11 : Fr [507, 810, 905, 1110, 50008, 50009, 50011, 80007, 80008, 80009, 80010, 100001, 110009] M M11 := Fr.step F_M9 (frX10_toFirstMarking c8) (by decide)
        obtain rfl := Option.some.inj h
        exact F_M11
    · replace h := obind_some h
      obtain ⟨w10, c9, h⟩ := h
      obtain ⟨x15, M17⟩ := w10
      dsimp only at h
      have F_M17 : Fr [507, 810, 905, 1110, 50008, 50009, 50011, 80007, 80008, 80009, 80010, 100001, 110009] M M17 := Fr.step F_M (frX10_meets c9) (by decide)
      obtain rfl := Option.some.inj h
      exact F_M17
theorem frX10_round {M : tM} {w : (Int32 × tM)} (h : fX10_round M = some w) : Fr [208, 209, 20004, 20005, 20006, 20007, 80006] M w.2 := by
  have F_M : Fr [208, 209, 20004, 20005, 20006, 20007, 80006] M M := Fr.refl
  unfold fX10_round at h
  replace h := obind_some h
  obtain ⟨w2, c1, h⟩ := h
  obtain ⟨x1, M3⟩ := w2
  dsimp only at h
  have F_M3 : Fr [208, 209, 20004, 20005, 20006, 20007, 80006] M M3 := Fr.step F_M (frX1_roundState c1) (by decide)
  rcases ite_some h with ⟨_, h⟩ | ⟨_, h⟩
  · obtain rfl := Option.some.inj h
    exact F_M3
  · obtain rfl := Option.some.inj h
    exact F_M3
theorem frX10_firings {a1 : Int32} {M : tM} {w : (Int32 × tM)} (h : fX10_firings a1 M = some w) : Fr [208, 209, 20004, 20005, 20006, 20007, 80006] M w.2 := by
  have F_M : Fr [208, 209, 20004, 20005, 20006, 20007, 80006] M M := Fr.refl
  unfold fX10_firings at h
  replace h := obind_some h
  obtain ⟨r1, c1, h⟩ := h
  rcases ite_some h with ⟨_, h⟩ | ⟨_, h⟩
  · obtain rfl := Option.some.inj h
    exact F_M
  · replace h := obind_some h
    obtain ⟨w3, c2, h⟩ := h
    obtain ⟨x4, M6⟩ := w3
    dsimp only at h
    have F_M6 : Fr [208, 209, 20004, 20005, 20006, 20007, 80006] M M6 := Fr.step F_M (frX1_roundState c2) (by decide)
    rcases ite_some h with ⟨_, h⟩ | ⟨_, h⟩
    · replace h := obind_some h
      obtain ⟨i8, c4, h⟩ := h
      obtain rfl := Option.some.inj h
      exact F_M6
    · obtain rfl := Option.some.inj h
      exact F_M6
theorem frX10_uneven {M : tM} {w : (Int32 × tM)} (h : fX10_uneven M = some w) : Fr [208, 209, 20004, 20005, 20006, 20007, 80006] M w.2 := by
  have F_M : Fr [208, 209, 20004, 20005, 20006, 20007, 80006] M M := Fr.refl
  unfold fX10_uneven at h
  replace h := obind_some h
  obtain ⟨w2, c1, h⟩ := h
  obtain ⟨x1, M3⟩ := w2
  dsimp only at h
  have F_M3 : Fr [208, 209, 20004, 20005, 20006, 20007, 80006] M M3 := Fr.step F_M (frX1_roundState c1) (by decide)
  rcases ite_some h with ⟨_, h⟩ | ⟨_, h⟩
  · obtain rfl := Option.some.inj h
    exact F_M3
  · obtain rfl := Option.some.inj h
    exact F_M3
theorem frX10_noRound {M : tM} {w : (Int32 × tM)} (h : fX10_noRound M = some w) : Fr [208, 209, 20004, 20005, 20006, 20007, 80006] M w.2 := by
  have F_M : Fr [208, 209, 20004, 20005, 20006, 20007, 80006] M M := Fr.refl
  unfold fX10_noRound at h
  replace h := obind_some h
  obtain ⟨w2, c1, h⟩ := h
  obtain ⟨x1, M3⟩ := w2
  dsimp only at h
  have F_M3 : Fr [208, 209, 20004, 20005, 20006, 20007, 80006] M M3 := Fr.step F_M (frX1_roundState c1) (by decide)
  rcases ite_some h with ⟨_, h⟩ | ⟨_, h⟩
  · obtain rfl := Option.some.inj h
    exact F_M3
  · obtain rfl := Option.some.inj h
    exact F_M3
theorem frX10_stuck {M : tM} {w : (Int32 × tM)} (h : fX10_stuck M = some w) : Fr [208, 209, 302, 601, 602, 603, 604, 605, 20004, 20005, 20006, 20007, 30003, 30004, 60006, 60007, 60008, 80006] M w.2 := by
  have F_M : Fr [208, 209, 302, 601, 602, 603, 604, 605, 20004, 20005, 20006, 20007, 30003, 30004, 60006, 60007, 60008, 80006] M M := Fr.refl
  unfold fX10_stuck at h
  replace h := obind_some h
  obtain ⟨w2, c1, h⟩ := h
  obtain ⟨x1, M3⟩ := w2
  dsimp only at h
  have F_M3 : Fr [208, 209, 302, 601, 602, 603, 604, 605, 20004, 20005, 20006, 20007, 30003, 30004, 60006, 60007, 60008, 80006] M M3 := Fr.step F_M (frX10_noRound c1) (by decide)
  rcases ite_some h with ⟨_, h⟩ | ⟨_, h⟩
  · replace h := obind_some h
    obtain ⟨w4, c3, h⟩ := h
    obtain ⟨x5, M7⟩ := w4
    dsimp only at h
    have F_M7 : Fr [208, 209, 302, 601, 602, 603, 604, 605, 20004, 20005, 20006, 20007, 30003, 30004, 60006, 60007, 60008, 80006] M M7 := Fr.step F_M3 (frX2_isStuck c3) (by decide)
    rcases ite_some h with ⟨_, h⟩ | ⟨_, h⟩
    · obtain rfl := Option.some.inj h
      exact F_M7
    · obtain rfl := Option.some.inj h
      exact F_M7
  · obtain rfl := Option.some.inj h
    exact F_M3
theorem frX10_lacks {a1 : Int32} {M : tM} {w : (Int32 × tM)} (h : fX10_lacks a1 M = some w) : Fr [208, 209, 302, 601, 602, 603, 604, 605, 20004, 20005, 20006, 20007, 30003, 30004, 30005, 60006, 60007, 60008, 80006] M w.2 := by
  have F_M : Fr [208, 209, 302, 601, 602, 603, 604, 605, 20004, 20005, 20006, 20007, 30003, 30004, 30005, 60006, 60007, 60008, 80006] M M := Fr.refl
  unfold fX10_lacks at h
  replace h := obind_some h
  obtain ⟨r1, c1, h⟩ := h
  rcases ite_some h with ⟨_, h⟩ | ⟨_, h⟩
  · obtain rfl := Option.some.inj h
    exact F_M
  · replace h := obind_some h
    obtain ⟨w3, c2, h⟩ := h
    obtain ⟨x4, M6⟩ := w3
    dsimp only at h
    have F_M6 : Fr [208, 209, 302, 601, 602, 603, 604, 605, 20004, 20005, 20006, 20007, 30003, 30004, 30005, 60006, 60007, 60008, 80006] M M6 := Fr.step F_M (frX10_noRound c2) (by decide)
    rcases ite_some h with ⟨_, h⟩ | ⟨_, h⟩
    · replace h := obind_some h
      obtain ⟨w5, c4, h⟩ := h
      obtain ⟨x8, M10⟩ := w5
      dsimp only at h
      have F_M10 : Fr [208, 209, 302, 601, 602, 603, 604, 605, 20004, 20005, 20006, 20007, 30003, 30004, 30005, 60006, 60007, 60008, 80006] M M10 := Fr.step F_M6 (frX2_moreOn c4) (by decide)
      obtain rfl := Option.some.inj h
      exact F_M10
    · obtain rfl := Option.some.inj h
      exact F_M6
theorem frX10_noSchedule {M : tM} {w : (Int32 × tM)} (h : fX10_noSchedule M = some w) : Fr [208, 209, 302, 601, 602, 603, 604, 605, 20004, 20005, 20006, 20007, 30003, 30004, 60006, 60007, 60008, 80006] M w.2 := by
  have F_M : Fr [208, 209, 302, 601, 602, 603, 604, 605, 20004, 20005, 20006, 20007, 30003, 30004, 60006, 60007, 60008, 80006] M M := Fr.refl
  unfold fX10_noSchedule at h
  replace h := obind_some h
  obtain ⟨w2, c1, h⟩ := h
  obtain ⟨x1, M3⟩ := w2
  dsimp only at h
  have F_M3 : Fr [208, 209, 302, 601, 602, 603, 604, 605, 20004, 20005, 20006, 20007, 30003, 30004, 60006, 60007, 60008, 80006] M M3 := Fr.step F_M (frX1_roundState c1) (by decide)
  rcases ite_some h with ⟨_, h⟩ | ⟨_, h⟩
  · replace h := obind_some h
    obtain ⟨w4, c3, h⟩ := h
    obtain ⟨x6, M8⟩ := w4
    dsimp only at h
    have F_M8 : Fr [208, 209, 302, 601, 602, 603, 604, 605, 20004, 20005, 20006, 20007, 30003, 30004, 60006, 60007, 60008, 80006] M M8 := Fr.step F_M3 (frX2_isStuck c3) (by decide)
    rcases ite_some h with ⟨_, h⟩ | ⟨_, h⟩
    · obtain rfl := Option.some.inj h
      exact F_M8
    · obtain rfl := Option.some.inj h
      exact F_M8
  · rcases ite_some h with ⟨_, h⟩ | ⟨_, h⟩
    · obtain rfl := Option.some.inj h
      exact F_M3
    · obtain rfl := Option.some.inj h
      exact F_M3
theorem frX10_schedule {a1 : Int32} {M : tM} {w : (Int32 × tM)} (h : fX10_schedule a1 M = some w) : Fr [208, 209, 302, 601, 602, 603, 604, 605, 902, 904, 905, 20004, 20005, 20006, 20007, 30003, 30004, 60006, 60007, 60008, 80006, 90003] M w.2 := by
  have F_M : Fr [208, 209, 302, 601, 602, 603, 604, 605, 902, 904, 905, 20004, 20005, 20006, 20007, 30003, 30004, 60006, 60007, 60008, 80006, 90003] M M := Fr.refl
  unfold fX10_schedule at h
  rcases ite_some h with ⟨_, h⟩ | ⟨_, h⟩
  · obtain rfl := Option.some.inj h
    exact F_M
  · rcases ite_some h with ⟨_, h⟩ | ⟨_, h⟩
    · replace h := obind_some h
      obtain ⟨w2, c1, h⟩ := h
      obtain ⟨x3, M5⟩ := w2
      dsimp only at h
      have F_M5 : Fr [208, 209, 302, 601, 602, 603, 604, 605, 902, 904, 905, 20004, 20005, 20006, 20007, 30003, 30004, 60006, 60007, 60008, 80006, 90003] M M5 := Fr.step F_M (frX10_noSchedule c1) (by decide)
      rcases ite_some h with ⟨_, h⟩ | ⟨_, h⟩
      · replace h := obind_some h
        obtain ⟨w4, c3, h⟩ := h
        obtain ⟨x7, M9⟩ := w4
        dsimp only at h
        have F_M9 : Fr [208, 209, 302, 601, 602, 603, 604, 605, 902, 904, 905, 20004, 20005, 20006, 20007, 30003, 30004, 60006, 60007, 60008, 80006, 90003] M M9 := Fr.step F_M5 (frX8_goByRule c3) (by decide)
        obtain rfl := Option.some.inj h
        exact F_M9
      · obtain rfl := Option.some.inj h
        exact F_M5
    · obtain rfl := Option.some.inj h
      exact F_M
theorem frX10_draft {a1 : Int32} {M : tM} {w : (Int32 × tM)} (h : fX10_draft a1 M = some w) : Fr [1107, 110008] M w.2 := by
  have F_M : Fr [1107, 110008] M M := Fr.refl
  unfold fX10_draft at h
  replace h := obind_some h
  obtain ⟨r1, c1, h⟩ := h
  rcases ite_some h with ⟨_, h⟩ | ⟨_, h⟩
  · obtain rfl := Option.some.inj h
    exact F_M
  · rcases ite_some h with ⟨_, h⟩ | ⟨_, h⟩
    · replace h := chk_some h
      obtain ⟨_, h⟩ := h
      replace h := bnd_some h
      obtain ⟨M6, e2, h⟩ := h
      have F_M6 : Fr [1107, 110008] M M6 := by rw [e2]; exact Fr.wI F_M (by decide)
      replace h := bnd_some h
      obtain ⟨M7, e3, h⟩ := h
      have F_M7 : Fr [1107, 110008] M M7 := by rw [e3]; exact Fr.wIo F_M6 (by decide)
      obtain rfl := Option.some.inj h
      exact F_M7
    · obtain rfl := Option.some.inj h
      exact F_M
theorem frX10_check {M : tM} {w : (Int32 × tM)} (h : fX10_check M = some w) : Fr [208, 209, 601, 602, 603, 604, 605, 902, 904, 905, 20004, 20005, 20006, 20007, 60006, 60007, 60008, 80006, 90003, 110008] M w.2 := by
  have F_M : Fr [208, 209, 601, 602, 603, 604, 605, 902, 904, 905, 20004, 20005, 20006, 20007, 60006, 60007, 60008, 80006, 90003, 110008] M M := Fr.refl
  unfold fX10_check at h
  replace h := bnd_some h
  obtain ⟨x1, e1, h⟩ := h
  replace h := bnd_some h
  obtain ⟨M2, e2, h⟩ := h
  have F_M2 : Fr [208, 209, 601, 602, 603, 604, 605, 902, 904, 905, 20004, 20005, 20006, 20007, 60006, 60007, 60008, 80006, 90003, 110008] M M2 := by rw [e2]; exact Fr.wIo F_M (by decide)
  replace h := obind_some h
  obtain ⟨w4, c3, h⟩ := h
  obtain ⟨x3, M5⟩ := w4
  dsimp only at h
  have F_M5 : Fr [208, 209, 601, 602, 603, 604, 605, 902, 904, 905, 20004, 20005, 20006, 20007, 60006, 60007, 60008, 80006, 90003, 110008] M M5 := Fr.step F_M2 (frX10_noRound c3) (by decide)
  rcases ite_some h with ⟨_, h⟩ | ⟨_, h⟩
  · replace h := obind_some h
    obtain ⟨w6, c5, h⟩ := h
    obtain ⟨x7, M9⟩ := w6
    dsimp only at h
    have F_M9 : Fr [208, 209, 601, 602, 603, 604, 605, 902, 904, 905, 20004, 20005, 20006, 20007, 60006, 60007, 60008, 80006, 90003, 110008] M M9 := Fr.step F_M5 (frX8_faultOf c5) (by decide)
    rcases ite_some h with ⟨_, h⟩ | ⟨_, h⟩
    · replace h := obind_some h
      obtain ⟨w8, c7, h⟩ := h
      obtain ⟨x11, M13⟩ := w8
      dsimp only at h
      have F_M13 : Fr [208, 209, 601, 602, 603, 604, 605, 902, 904, 905, 20004, 20005, 20006, 20007, 60006, 60007, 60008, 80006, 90003, 110008] M M13 := Fr.step F_M9 (frX8_adopt c7) (by decide)
      obtain rfl := Option.some.inj h
      exact F_M13
    · obtain rfl := Option.some.inj h
      exact F_M9
  · obtain rfl := Option.some.inj h
    exact F_M5
theorem frX10_time {a1 : Int32} {a2 : Int32} {M : tM} {w : (Int32 × tM)} (h : fX10_time a1 a2 M = some w) : Fr [10003, 80004] M w.2 := by
  have F_M : Fr [10003, 80004] M M := Fr.refl
  unfold fX10_time at h
  replace h := obind_some h
  obtain ⟨r1, c1, h⟩ := h
  rcases ite_some h with ⟨_, h⟩ | ⟨_, h⟩
  · obtain rfl := Option.some.inj h
    exact F_M
  · rcases ite_some h with ⟨_, h⟩ | ⟨_, h⟩
    · obtain rfl := Option.some.inj h
      exact F_M
    · rcases ite_some h with ⟨_, h⟩ | ⟨_, h⟩
      · replace h := obind_some h
        obtain ⟨i6, c2, h⟩ := h
        replace h := bnd_some h
        obtain ⟨x7, e3, h⟩ := h
        replace h := bnd_some h
        obtain ⟨M8, e4, h⟩ := h
        have F_M8 : Fr [10003, 80004] M M8 := by rw [e4]; exact Fr.wIo F_M (by decide)
        replace h := obind_some h
        obtain ⟨M10, c5, h⟩ := h
        have F_M10 : Fr [10003, 80004] M M10 := Fr.step F_M8 (frX0_forget c5) (by decide)
        obtain rfl := Option.some.inj h
        exact F_M10
      · obtain rfl := Option.some.inj h
        exact F_M
theorem frX10_beat {a1 : Int32} {M : tM} {w : (Int32 × tM)} (h : fX10_beat a1 M = some w) : Fr [104, 105, 107, 108, 109, 111, 112, 208, 209, 302, 601, 602, 603, 604, 605, 10001, 10002, 10003, 10006, 10010, 20004, 20005, 20006, 20007, 30003, 30004, 60006, 60007, 60008, 80006] M w.2 := by
  have F_M : Fr [104, 105, 107, 108, 109, 111, 112, 208, 209, 302, 601, 602, 603, 604, 605, 10001, 10002, 10003, 10006, 10010, 20004, 20005, 20006, 20007, 30003, 30004, 60006, 60007, 60008, 80006] M M := Fr.refl
  unfold fX10_beat at h
  replace h := obind_some h
  obtain ⟨w2, c1, h⟩ := h
  obtain ⟨x1, M3⟩ := w2
  dsimp only at h
  have F_M3 : Fr [104, 105, 107, 108, 109, 111, 112, 208, 209, 302, 601, 602, 603, 604, 605, 10001, 10002, 10003, 10006, 10010, 20004, 20005, 20006, 20007, 30003, 30004, 60006, 60007, 60008, 80006] M M3 := Fr.step F_M (frX10_noSchedule c1) (by decide)
  rcases ite_some h with ⟨_, h⟩ | ⟨_, h⟩
  · rcases ite_some h with ⟨_, h⟩ | ⟨_, h⟩
    · replace h := obind_some h
      obtain ⟨M7, c3, h⟩ := h
      have F_M7 : Fr [104, 105, 107, 108, 109, 111, 112, 208, 209, 302, 601, 602, 603, 604, 605, 10001, 10002, 10003, 10006, 10010, 20004, 20005, 20006, 20007, 30003, 30004, 60006, 60007, 60008, 80006] M M7 := Fr.step F_M3 (frX0_know c3) (by decide)
      rcases ite_some h with ⟨_, h⟩ | ⟨_, h⟩
      · obtain rfl := Option.some.inj h
        exact F_M7
      · obtain rfl := Option.some.inj h
        exact F_M7
    · obtain rfl := Option.some.inj h
      exact F_M3
  · obtain rfl := Option.some.inj h
    exact F_M3
theorem frX10_withFinding {a1 : Int32} {M : tM} {w : (Int32 × tM)} (h : fX10_withFinding a1 M = some w) : Fr [1110, 110009] M w.2 := by
  have F_M : Fr [1110, 110009] M M := Fr.refl
  unfold fX10_withFinding at h
  rcases ite_some h with ⟨_, h⟩ | ⟨_, h⟩
  · replace h := obind_some h
    obtain ⟨w2, c1, h⟩ := h
    obtain ⟨x2, M4⟩ := w2
    dsimp only at h
    have F_M4 : Fr [1110, 110009] M M4 := Fr.step F_M (frX10_meets c1) (by decide)
    obtain rfl := Option.some.inj h
    exact F_M4
  · obtain rfl := Option.some.inj h
    exact F_M
theorem frX10_fire {a1 : Int32} {M : tM} {w : (Int32 × tM)} (h : fX10_fire a1 M = some w) : Fr [507, 510, 810, 1005, 1110, 50008, 50009, 50011, 80007, 80008, 100001, 100002, 100003, 100004, 100006, 110009] M w.2 := by
  have F_M : Fr [507, 510, 810, 1005, 1110, 50008, 50009, 50011, 80007, 80008, 100001, 100002, 100003, 100004, 100006, 110009] M M := Fr.refl
  unfold fX10_fire at h
  replace h := obind_some h
  obtain ⟨r1, c1, h⟩ := h
  rcases ite_some h with ⟨_, h⟩ | ⟨_, h⟩
  · obtain rfl := Option.some.inj h
    exact F_M
  · replace h := obind_some h
    obtain ⟨w3, c2, h⟩ := h
    obtain ⟨x4, M6⟩ := w3
    dsimp only at h
    have F_M6 : Fr [507, 510, 810, 1005, 1110, 50008, 50009, 50011, 80007, 80008, 100001, 100002, 100003, 100004, 100006, 110009] M M6 := Fr.step F_M (frX9_attempt c2) (by decide)
    replace h := obind_some h
    obtain ⟨w5, c4, h⟩ := h
    obtain ⟨x7, M9⟩ := w5
    dsimp only at h
    have F_M9 : Fr [507, 510, 810, 1005, 1110, 50008, 50009, 50011, 80007, 80008, 100001, 100002, 100003, 100004, 100006, 110009] M M9 := Fr.step F_M6 (frX10_withFinding c4) (by decide)
    obtain rfl := Option.some.inj h
    exact F_M9
theorem frX10_deal {a1 : Int32} {a2 : Int32} {M : tM} {w : (Int32 × tM)} (h : fX10_deal a1 a2 M = some w) : Fr [905, 80005] M w.2 := by
  have F_M : Fr [905, 80005] M M := Fr.refl
  unfold fX10_deal at h
  replace h := obind_some h
  obtain ⟨r1, c1, h⟩ := h
  rcases ite_some h with ⟨_, h⟩ | ⟨_, h⟩
  · obtain rfl := Option.some.inj h
    exact F_M
  · rcases ite_some h with ⟨_, h⟩ | ⟨_, h⟩
    · obtain rfl := Option.some.inj h
      exact F_M
    · rcases ite_some h with ⟨_, h⟩ | ⟨_, h⟩
      · replace h := obind_some h
        obtain ⟨i6, c2, h⟩ := h
        replace h := bnd_some h
        obtain ⟨x7, e3, h⟩ := h
        replace h := bnd_some h
        obtain ⟨M8, e4, h⟩ := h
        have F_M8 : Fr [905, 80005] M M8 := by rw [e4]; exact Fr.wIo F_M (by decide)
        replace h := obind_some h
        obtain ⟨M10, c5, h⟩ := h
        have F_M10 : Fr [905, 80005] M M10 := Fr.step F_M8 (frX8_beginThreads c5) (by decide)
        obtain rfl := Option.some.inj h
        exact F_M10
      · obtain rfl := Option.some.inj h
        exact F_M
theorem frX10_go {a1 : Int32} {M : tM} {w : (Int32 × tM)} (h : fX10_go a1 M = some w) : Fr [507, 510, 810, 905, 1005, 1110, 50008, 50009, 50011, 80007, 80008, 100001, 100002, 100003, 100004, 100006, 110009] M w.2 := by
  have F_M : Fr [507, 510, 810, 905, 1005, 1110, 50008, 50009, 50011, 80007, 80008, 100001, 100002, 100003, 100004, 100006, 110009] M M := Fr.refl
  unfold fX10_go at h
  rcases ite_some h with ⟨_, h⟩ | ⟨_, h⟩
  · obtain rfl := Option.some.inj h
    exact F_M
  · rcases ite_some h with ⟨_, h⟩ | ⟨_, h⟩
    · replace h := obind_some h
      obtain ⟨x3, c1, h⟩ := h
      replace h := obind_some h
      obtain ⟨x5, c2, h⟩ := h
      rcases ite_some h with ⟨_, h⟩ | ⟨_, h⟩
      · obtain rfl := Option.some.inj h
        exact F_M
      · replace h := chk_some h
        obtain ⟨_, h⟩ := h
        replace h := obind_some h
        obtain ⟨r9, c3, h⟩ := h
        rcases ite_some h with ⟨_, h⟩ | ⟨_, h⟩
        · obtain rfl := Option.some.inj h
          exact F_M
        · replace h := obind_some h
          obtain ⟨w5, c4, h⟩ := h
          obtain ⟨x12, M14⟩ := w5
          dsimp only at h
          have F_M14 : Fr [507, 510, 810, 905, 1005, 1110, 50008, 50009, 50011, 80007, 80008, 100001, 100002, 100003, 100004, 100006, 110009] M M14 := Fr.step F_M (frX9_attempt c4) (by decide)
          replace h := obind_some h
          obtain ⟨w7, c6, h⟩ := h
          obtain ⟨x15, M17⟩ := w7
          dsimp only at h
          have F_M17 : Fr [507, 510, 810, 905, 1005, 1110, 50008, 50009, 50011, 80007, 80008, 100001, 100002, 100003, 100004, 100006, 110009] M M17 := Fr.step F_M14 (frX10_withFinding c6) (by decide)
          rcases ite_some h with ⟨_, h⟩ | ⟨_, h⟩
          · replace h := chk_some h
            obtain ⟨_, h⟩ := h
            replace h := bnd_some h
            obtain ⟨M21, e8, h⟩ := h
            have F_M21 : Fr [507, 510, 810, 905, 1005, 1110, 50008, 50009, 50011, 80007, 80008, 100001, 100002, 100003, 100004, 100006, 110009] M M21 := by rw [e8]; exact Fr.wI F_M17 (by decide)
            replace h := obind_some h
            obtain ⟨i22, c9, h⟩ := h
            obtain rfl := Option.some.inj h
            exact F_M21
          · rcases ite_some h with ⟨_, h⟩ | ⟨_, h⟩
            · obtain rfl := Option.some.inj h
              exact F_M17
            · obtain rfl := Option.some.inj h
              exact F_M17
    · obtain rfl := Option.some.inj h
      exact F_M
theorem frX10_reset {M : tM} {w : (Int32 × tM)} (h : fX10_reset M = some w) : Fr [507, 810, 905, 50008, 50009, 50011, 80007, 80008, 100001] M w.2 := by
  have F_M : Fr [507, 810, 905, 50008, 50009, 50011, 80007, 80008, 100001] M M := Fr.refl
  unfold fX10_reset at h
  replace h := bnd_some h
  obtain ⟨x1, e1, h⟩ := h
  replace h := obind_some h
  obtain ⟨M3, c2, h⟩ := h
  have F_M3 : Fr [507, 810, 905, 50008, 50009, 50011, 80007, 80008, 100001] M M3 := Fr.step F_M (frX10_toFirstMarking c2) (by decide)
  obtain rfl := Option.some.inj h
  exact F_M3
theorem frX10_look {a1 : Int32} {a2 : Int32} {M : tM} {w : (Int32 × tM)} (h : fX10_look a1 a2 M = some w) : Fr [1110, 110009, 110011] M w.2 := by
  have F_M : Fr [1110, 110009, 110011] M M := Fr.refl
  unfold fX10_look at h
  replace h := obind_some h
  obtain ⟨r1, c1, h⟩ := h
  rcases ite_some h with ⟨_, h⟩ | ⟨_, h⟩
  · obtain rfl := Option.some.inj h
    exact F_M
  · rcases ite_some h with ⟨_, h⟩ | ⟨_, h⟩
    · replace h := obind_some h
      obtain ⟨w3, c2, h⟩ := h
      obtain ⟨x5, M7⟩ := w3
      dsimp only at h
      have F_M7 : Fr [1110, 110009, 110011] M M7 := Fr.step F_M (frX10_meets c2) (by decide)
      obtain rfl := Option.some.inj h
      exact F_M7
    · replace h := obind_some h
      obtain ⟨i8, c4, h⟩ := h
      rcases ite_some h with ⟨_, h⟩ | ⟨_, h⟩
      · replace h := obind_some h
        obtain ⟨x10, c5, h⟩ := h
        replace h := bnd_some h
        obtain ⟨M12, e6, h⟩ := h
        have F_M12 : Fr [1110, 110009, 110011] M M12 := by rw [e6]; exact Fr.wLo F_M (by decide)
        obtain rfl := Option.some.inj h
        exact F_M12
      · replace h := obind_some h
        obtain ⟨w8, c7, h⟩ := h
        obtain ⟨x13, M15⟩ := w8
        dsimp only at h
        have F_M15 : Fr [1110, 110009, 110011] M M15 := Fr.step F_M (frX10_meets c7) (by decide)
        obtain rfl := Option.some.inj h
        exact F_M15
theorem frX10_given {a1 : Int32} {a2 : Int32} {M : tM} {w : (Int32 × tM)} (h : fX10_given a1 a2 M = some w) : Fr [110011] M w.2 := by
  have F_M : Fr [110011] M M := Fr.refl
  unfold fX10_given at h
  replace h := obind_some h
  obtain ⟨r1, c1, h⟩ := h
  rcases ite_some h with ⟨_, h⟩ | ⟨_, h⟩
  · obtain rfl := Option.some.inj h
    exact F_M
  · rcases ite_some h with ⟨_, h⟩ | ⟨_, h⟩
    · obtain rfl := Option.some.inj h
      exact F_M
    · rcases ite_some h with ⟨_, h⟩ | ⟨_, h⟩
      · replace h := obind_some h
        obtain ⟨i6, c2, h⟩ := h
        rcases ite_some h with ⟨_, h⟩ | ⟨_, h⟩
        · replace h := chk_some h
          obtain ⟨_, h⟩ := h
          replace h := bnd_some h
          obtain ⟨M9, e3, h⟩ := h
          have F_M9 : Fr [110011] M M9 := by rw [e3]; exact Fr.wLo F_M (by decide)
          obtain rfl := Option.some.inj h
          exact F_M9
        · obtain rfl := Option.some.inj h
          exact F_M
      · obtain rfl := Option.some.inj h
        exact F_M
theorem frX3_tryOne_b {rc : Int32 → tM → Option (tM)} {a1 : Option Nat} {a2 : Int32} {M : tM} (hr : ∀ {v0} {Ma Mb : tM}, rc v0 Ma = some Mb → Fr [402, 404, 405, 601, 602, 603, 604, 605, 40003, 40006, 40008, 60006, 60007, 60008] Ma Mb) {w : (tM)} (h : fX3_tryOne_b rc a1 a2 M = some w) : Fr [402, 404, 405, 601, 602, 603, 604, 605, 40003, 40006, 40008, 60006, 60007, 60008] M w := by
  have F_M : Fr [402, 404, 405, 601, 602, 603, 604, 605, 40003, 40006, 40008, 60006, 60007, 60008] M M := Fr.refl
  unfold fX3_tryOne_b at h
  rcases ite_some h with ⟨_, h⟩ | ⟨_, h⟩
  · replace h := bnd_some h
    obtain ⟨M2, e1, h⟩ := h
    have F_M2 : Fr [402, 404, 405, 601, 602, 603, 604, 605, 40003, 40006, 40008, 60006, 60007, 60008] M M2 := by rw [e1]; exact Fr.wIo F_M (by decide)
    replace h := obind_some h
    obtain ⟨i3, c2, h⟩ := h
    replace h := chk_some h
    obtain ⟨_, h⟩ := h
    replace h := bnd_some h
    obtain ⟨M5, e3, h⟩ := h
    have F_M5 : Fr [402, 404, 405, 601, 602, 603, 604, 605, 40003, 40006, 40008, 60006, 60007, 60008] M M5 := by rw [e3]; exact Fr.wI F_M2 (by decide)
    replace h := bnd_some h
    obtain ⟨x6, e4, h⟩ := h
    replace h := obind_some h
    obtain ⟨M8, c5, h⟩ := h
    have F_M8 : Fr [402, 404, 405, 601, 602, 603, 604, 605, 40003, 40006, 40008, 60006, 60007, 60008] M M8 := Fr.step F_M5 (frX3_keepStores c5) (by decide)
    replace h := obind_some h
    obtain ⟨M10, c6, h⟩ := h
    have F_M10 : Fr [402, 404, 405, 601, 602, 603, 604, 605, 40003, 40006, 40008, 60006, 60007, 60008] M M10 := Fr.step F_M8 (frX5_step c6) (by decide)
    replace h := obind_some h
    obtain ⟨w8, b7, h⟩ := h
    have G_w8 : Fr [402, 404, 405, 601, 602, 603, 604, 605, 40003, 40006, 40008, 60006, 60007, 60008] M w8 := by
      clear h
      replace h := b7
      clear b7
      rcases ite_some h with ⟨_, h⟩ | ⟨_, h⟩
      · obtain rfl := Option.some.inj h
        exact F_M10
      · rcases ite_some h with ⟨_, h⟩ | ⟨_, h⟩
        · replace h := bnd_some h
          obtain ⟨M15, e9, h⟩ := h
          have F_M15 : Fr [402, 404, 405, 601, 602, 603, 604, 605, 40003, 40006, 40008, 60006, 60007, 60008] M M15 := by rw [e9]; exact Fr.wIo F_M10 (by decide)
          replace h := chk_some h
          obtain ⟨_, h⟩ := h
          replace h := bnd_some h
          obtain ⟨M17, e10, h⟩ := h
          have F_M17 : Fr [402, 404, 405, 601, 602, 603, 604, 605, 40003, 40006, 40008, 60006, 60007, 60008] M M17 := by rw [e10]; exact Fr.vI F_M15 (by decide)
          obtain rfl := Option.some.inj h
          exact F_M17
        · replace h := obind_some h
          obtain ⟨M14, c11, h⟩ := h
          have F_M14 : Fr [402, 404, 405, 601, 602, 603, 604, 605, 40003, 40006, 40008, 60006, 60007, 60008] M M14 := Fr.step F_M10 (hr c11) (by simp)
          obtain rfl := Option.some.inj h
          exact F_M14
    have F_w8 := G_w8
    obtain ⟨M12, hq⟩ : ∃ q, q = w8 := ⟨_, rfl⟩
    rw [← hq] at h
    have F_M12 : Fr [402, 404, 405, 601, 602, 603, 604, 605, 40003, 40006, 40008, 60006, 60007, 60008] M M12 := by rw [hq]; exact F_w8
    clear hq
    replace h := obind_some h
    obtain ⟨M20, c12, h⟩ := h
    have F_M20 : Fr [402, 404, 405, 601, 602, 603, 604, 605, 40003, 40006, 40008, 60006, 60007, 60008] M M20 := Fr.step F_M12 (frX5_stepBack c12) (by decide)
    replace h := obind_some h
    obtain ⟨M22, c13, h⟩ := h
    have F_M22 : Fr [402, 404, 405, 601, 602, 603, 604, 605, 40003, 40006, 40008, 60006, 60007, 60008] M M22 := Fr.step F_M20 (frX3_giveStoresBack c13) (by decide)
    replace h := bnd_some h
    obtain ⟨M23, e14, h⟩ := h
    have F_M23 : Fr [402, 404, 405, 601, 602, 603, 604, 605, 40003, 40006, 40008, 60006, 60007, 60008] M M23 := by rw [e14]; exact Fr.wIo F_M22 (by decide)
    obtain rfl := Option.some.inj h
    exact F_M23
  · replace h := bnd_some h
    obtain ⟨M24, e15, h⟩ := h
    have F_M24 : Fr [402, 404, 405, 601, 602, 603, 604, 605, 40003, 40006, 40008, 60006, 60007, 60008] M M24 := by rw [e15]; exact Fr.wIo F_M (by decide)
    obtain rfl := Option.some.inj h
    exact F_M24
theorem frX3_tryAll_l9_n {rc : Int32 → tM → Option (tM)} {z1 : Int32} (hr : ∀ {v0} {Ma Mb : tM}, rc v0 Ma = some Mb → Fr [402, 404, 405, 601, 602, 603, 604, 605, 40003, 40006, 40008, 60006, 60007, 60008] Ma Mb) : ∀ (n : Nat) (y2 : Int32) (M : tM) (w : (tM)), fX3_tryAll_l9 rc z1 n y2 M = some w → Fr [402, 404, 405, 601, 602, 603, 604, 605, 40003, 40006, 40008, 60006, 60007, 60008] M w := by
  intro n
  induction n with
  | zero => intro y2 M w h; cases h
  | succ n ih =>
    intro y2 M w h
    have F_M : Fr [402, 404, 405, 601, 602, 603, 604, 605, 40003, 40006, 40008, 60006, 60007, 60008] M M := Fr.refl
    rw [fX3_tryAll_l9] at h
    rcases ite_some h with ⟨_, h⟩ | ⟨_, h⟩
    · obtain rfl := Option.some.inj h
      exact F_M
    · rcases ite_some h with ⟨_, h⟩ | ⟨_, h⟩
      · replace h := chk_some h
        obtain ⟨_, h⟩ := h
        replace h := bnd_some h
        obtain ⟨r5, e1, h⟩ := h
        replace h := obind_some h
        obtain ⟨x6, c2, h⟩ := h
        replace h := obind_some h
        obtain ⟨w4, b3, h⟩ := h
        have G_w4 : Fr [402, 404, 405, 601, 602, 603, 604, 605, 40003, 40006, 40008, 60006, 60007, 60008] M w4 := by
          clear h
          replace h := b3
          clear b3
          rcases ite_some h with ⟨_, h⟩ | ⟨_, h⟩
          · obtain rfl := Option.some.inj h
            exact F_M
          · replace h := obind_some h
            obtain ⟨M10, c5, h⟩ := h
            have F_M10 : Fr [402, 404, 405, 601, 602, 603, 604, 605, 40003, 40006, 40008, 60006, 60007, 60008] M M10 := Fr.step F_M (frX3_tryOne_b (fun h => hr h) c5) (by decide)
            obtain rfl := Option.some.inj h
            exact F_M10
        have F_w4 := G_w4
        obtain ⟨M9, hq⟩ : ∃ q, q = w4 := ⟨_, rfl⟩
        rw [← hq] at h
        have F_M9 : Fr [402, 404, 405, 601, 602, 603, 604, 605, 40003, 40006, 40008, 60006, 60007, 60008] M M9 := by rw [hq]; exact F_w4
        clear hq
        replace h := bnd_some h
        obtain ⟨x12, e6, h⟩ := h
        exact Fr.trans F_M9 (ih _ _ _ h)
      · obtain rfl := Option.some.inj h
        exact F_M
theorem frX3_tryAll_l9 {rc : Int32 → tM → Option (tM)} {z1 : Int32} {n : Nat} {y2 : Int32} {M : tM} (hr : ∀ {v0} {Ma Mb : tM}, rc v0 Ma = some Mb → Fr [402, 404, 405, 601, 602, 603, 604, 605, 40003, 40006, 40008, 60006, 60007, 60008] Ma Mb) {w : (tM)} (h : fX3_tryAll_l9 rc z1 n y2 M = some w) : Fr [402, 404, 405, 601, 602, 603, 604, 605, 40003, 40006, 40008, 60006, 60007, 60008] M w := frX3_tryAll_l9_n hr n y2 M w h
theorem frX3_tryAll_b {rc : Int32 → tM → Option (tM)} {a1 : Int32} {M : tM} (hr : ∀ {v0} {Ma Mb : tM}, rc v0 Ma = some Mb → Fr [402, 404, 405, 601, 602, 603, 604, 605, 40003, 40006, 40008, 60006, 60007, 60008] Ma Mb) {w : (tM)} (h : fX3_tryAll_b rc a1 M = some w) : Fr [402, 404, 405, 601, 602, 603, 604, 605, 40003, 40006, 40008, 60006, 60007, 60008] M w := by
  have F_M : Fr [402, 404, 405, 601, 602, 603, 604, 605, 40003, 40006, 40008, 60006, 60007, 60008] M M := Fr.refl
  unfold fX3_tryAll_b at h
  rcases ite_some h with ⟨_, h⟩ | ⟨_, h⟩
  · replace h := obind_some h
    obtain ⟨M15, c1, h⟩ := h
    have F_M15 : Fr [402, 404, 405, 601, 602, 603, 604, 605, 40003, 40006, 40008, 60006, 60007, 60008] M M15 := Fr.step F_M (frX3_tryAll_l9 (fun h => hr h) c1) (by decide)
    obtain rfl := Option.some.inj h
    exact F_M15
  · obtain rfl := Option.some.inj h
    exact F_M
theorem frX3_tryAll : ∀ {n : Nat} {a1 : Int32} {M w : tM}, fX3_tryAll n a1 M = some w → Fr [402, 404, 405, 601, 602, 603, 604, 605, 40003, 40006, 40008, 60006, 60007, 60008] M w := by
  intro n
  induction n with
  | zero => intro a1 M w h; cases h
  | succ n ih => intro a1 M w h; rw [fX3_tryAll] at h; exact frX3_tryAll_b (fun h => ih h) h

theorem frX3_finds {a1 : Int32} {M : tM} {w : (Int32 × tM)} (h : fX3_finds a1 M = some w) : Fr [402, 404, 405, 601, 602, 603, 604, 605, 40003, 40006, 40007, 40008, 60006, 60007, 60008] M w.2 := by
  have F_M : Fr [402, 404, 405, 601, 602, 603, 604, 605, 40003, 40006, 40007, 40008, 60006, 60007, 60008] M M := Fr.refl
  unfold fX3_finds at h
  replace h := bnd_some h
  obtain ⟨M1, e1, h⟩ := h
  have F_M1 : Fr [402, 404, 405, 601, 602, 603, 604, 605, 40003, 40006, 40007, 40008, 60006, 60007, 60008] M M1 := by rw [e1]; exact Fr.wIo F_M (by decide)
  replace h := bnd_some h
  obtain ⟨M2, e2, h⟩ := h
  have F_M2 : Fr [402, 404, 405, 601, 602, 603, 604, 605, 40003, 40006, 40007, 40008, 60006, 60007, 60008] M M2 := by rw [e2]; exact Fr.wIo F_M1 (by decide)
  replace h := bnd_some h
  obtain ⟨M3, e3, h⟩ := h
  have F_M3 : Fr [402, 404, 405, 601, 602, 603, 604, 605, 40003, 40006, 40007, 40008, 60006, 60007, 60008] M M3 := by rw [e3]; exact Fr.wIo F_M2 (by decide)
  replace h := bnd_some h
  obtain ⟨M4, e4, h⟩ := h
  have F_M4 : Fr [402, 404, 405, 601, 602, 603, 604, 605, 40003, 40006, 40007, 40008, 60006, 60007, 60008] M M4 := by rw [e4]; exact Fr.wIo F_M3 (by decide)
  replace h := obind_some h
  obtain ⟨M6, c5, h⟩ := h
  have F_M6 : Fr [402, 404, 405, 601, 602, 603, 604, 605, 40003, 40006, 40007, 40008, 60006, 60007, 60008] M M6 := Fr.step F_M4 (frX5_begin c5) (by decide)
  replace h := obind_some h
  obtain ⟨M8, c6, h⟩ := h
  have F_M8 : Fr [402, 404, 405, 601, 602, 603, 604, 605, 40003, 40006, 40007, 40008, 60006, 60007, 60008] M M8 := Fr.step F_M6 (frX3_tryAll c6) (by decide)
  rcases ite_some h with ⟨_, h⟩ | ⟨_, h⟩
  · obtain rfl := Option.some.inj h
    exact F_M8
  · obtain rfl := Option.some.inj h
    exact F_M8
theorem frX10_least {a1 : Int32} {M : tM} {w : (Int32 × tM)} (h : fX10_least a1 M = some w) : Fr [208, 209, 302, 402, 404, 405, 601, 602, 603, 604, 605, 902, 904, 905, 20004, 20005, 20006, 20007, 30003, 30004, 40003, 40006, 40007, 40008, 60006, 60007, 60008, 80006, 90003] M w.2 := by
  have F_M : Fr [208, 209, 302, 402, 404, 405, 601, 602, 603, 604, 605, 902, 904, 905, 20004, 20005, 20006, 20007, 30003, 30004, 40003, 40006, 40007, 40008, 60006, 60007, 60008, 80006, 90003] M M := Fr.refl
  unfold fX10_least at h
  rcases ite_some h with ⟨_, h⟩ | ⟨_, h⟩
  · obtain rfl := Option.some.inj h
    exact F_M
  · rcases ite_some h with ⟨_, h⟩ | ⟨_, h⟩
    · rcases ite_some h with ⟨_, h⟩ | ⟨_, h⟩
      · replace h := obind_some h
        obtain ⟨w2, c1, h⟩ := h
        obtain ⟨x4, M6⟩ := w2
        dsimp only at h
        have F_M6 : Fr [208, 209, 302, 402, 404, 405, 601, 602, 603, 604, 605, 902, 904, 905, 20004, 20005, 20006, 20007, 30003, 30004, 40003, 40006, 40007, 40008, 60006, 60007, 60008, 80006, 90003] M M6 := Fr.step F_M (frX10_noSchedule c1) (by decide)
        rcases ite_some h with ⟨_, h⟩ | ⟨_, h⟩
        · rcases ite_some h with ⟨_, h⟩ | ⟨_, h⟩
          · replace h := obind_some h
            obtain ⟨w4, c3, h⟩ := h
            obtain ⟨x9, M11⟩ := w4
            dsimp only at h
            have F_M11 : Fr [208, 209, 302, 402, 404, 405, 601, 602, 603, 604, 605, 902, 904, 905, 20004, 20005, 20006, 20007, 30003, 30004, 40003, 40006, 40007, 40008, 60006, 60007, 60008, 80006, 90003] M M11 := Fr.step F_M6 (frX3_finds c3) (by decide)
            rcases ite_some h with ⟨_, h⟩ | ⟨_, h⟩
            · obtain rfl := Option.some.inj h
              exact F_M11
            · replace h := obind_some h
              obtain ⟨w6, c5, h⟩ := h
              obtain ⟨x13, M15⟩ := w6
              dsimp only at h
              have F_M15 : Fr [208, 209, 302, 402, 404, 405, 601, 602, 603, 604, 605, 902, 904, 905, 20004, 20005, 20006, 20007, 30003, 30004, 40003, 40006, 40007, 40008, 60006, 60007, 60008, 80006, 90003] M M15 := Fr.step F_M11 (frX8_adopt c5) (by decide)
              obtain rfl := Option.some.inj h
              exact F_M15
          · obtain rfl := Option.some.inj h
            exact F_M6
        · obtain rfl := Option.some.inj h
          exact F_M6
      · obtain rfl := Option.some.inj h
        exact F_M
    · obtain rfl := Option.some.inj h
      exact F_M
theorem frX6_writeRow_b {rc : Int32 → Int32 → Int32 → Int32 → tM → Option (tM)} {a1 : Int32} {a2 : Int32} {a3 : Int32} {a4 : Int32} {M : tM} (hr : ∀ {v0} {v1} {v2} {v3} {Ma Mb : tM}, rc v0 v1 v2 v3 Ma = some Mb → Fr [706, 70007] Ma Mb) {w : (tM)} (h : fX6_writeRow_b rc a1 a2 a3 a4 M = some w) : Fr [706, 70007] M w := by
  have F_M : Fr [706, 70007] M M := Fr.refl
  unfold fX6_writeRow_b at h
  rcases ite_some h with ⟨_, h⟩ | ⟨_, h⟩
  · replace h := obind_some h
    obtain ⟨x2, c1, h⟩ := h
    replace h := obind_some h
    obtain ⟨w3, b2, h⟩ := h
    have G_w3 : Fr [706, 70007] M w3 := by
      clear h
      replace h := b2
      clear b2
      rcases ite_some h with ⟨_, h⟩ | ⟨_, h⟩
      · obtain rfl := Option.some.inj h
        exact F_M
      · replace h := obind_some h
        obtain ⟨M6, c4, h⟩ := h
        have F_M6 : Fr [706, 70007] M M6 := Fr.step F_M (frX6_writeItem c4) (by decide)
        obtain rfl := Option.some.inj h
        exact F_M6
    have F_w3 := G_w3
    obtain ⟨M5, hq⟩ : ∃ q, q = w3 := ⟨_, rfl⟩
    rw [← hq] at h
    have F_M5 : Fr [706, 70007] M M5 := by rw [hq]; exact F_w3
    clear hq
    replace h := obind_some h
    obtain ⟨w6, b5, h⟩ := h
    have G_w6 : Fr [706, 70007] M w6 := by
      clear h
      replace h := b5
      clear b5
      rcases ite_some h with ⟨_, h⟩ | ⟨_, h⟩
      · replace h := chk_some h
        obtain ⟨_, h⟩ := h
        replace h := obind_some h
        obtain ⟨M17, c7, h⟩ := h
        have F_M17 : Fr [706, 70007] M M17 := Fr.step F_M5 (frX6_writeItem c7) (by decide)
        obtain rfl := Option.some.inj h
        exact F_M17
      · replace h := chk_some h
        obtain ⟨_, h⟩ := h
        replace h := bnd_some h
        obtain ⟨x10, e8, h⟩ := h
        replace h := obind_some h
        obtain ⟨M12, c9, h⟩ := h
        have F_M12 : Fr [706, 70007] M M12 := Fr.step F_M5 (hr c9) (by simp)
        replace h := obind_some h
        obtain ⟨M14, c10, h⟩ := h
        have F_M14 : Fr [706, 70007] M M14 := Fr.step F_M12 (hr c10) (by simp)
        obtain rfl := Option.some.inj h
        exact F_M14
    have F_w6 := G_w6
    obtain ⟨M9, hq⟩ : ∃ q, q = w6 := ⟨_, rfl⟩
    rw [← hq] at h
    have F_M9 : Fr [706, 70007] M M9 := by rw [hq]; exact F_w6
    clear hq
    rcases ite_some h with ⟨_, h⟩ | ⟨_, h⟩
    · obtain rfl := Option.some.inj h
      exact F_M9
    · replace h := obind_some h
      obtain ⟨M20, c11, h⟩ := h
      have F_M20 : Fr [706, 70007] M M20 := Fr.step F_M9 (frX6_writeItem c11) (by decide)
      obtain rfl := Option.some.inj h
      exact F_M20
  · obtain rfl := Option.some.inj h
    exact F_M
theorem frX6_writeRow : ∀ {n : Nat} {a1 a2 a3 a4 : Int32} {M w : tM}, fX6_writeRow n a1 a2 a3 a4 M = some w → Fr [706, 70007] M w := by
  intro n
  induction n with
  | zero => intro a1 a2 a3 a4 M w h; cases h
  | succ n ih => intro a1 a2 a3 a4 M w h; rw [fX6_writeRow] at h; exact frX6_writeRow_b (fun h => ih h) h

theorem frX6_arrange_l32_n {z1 : Int32} {z2 : Int32} : ∀ (n : Nat) (y3 : Int32) (M : tM) (w : (tM)), fX6_arrange_l32 z1 z2 n y3 M = some w → Fr [704, 705] M w := by
  intro n
  induction n with
  | zero => intro y3 M w h; cases h
  | succ n ih =>
    intro y3 M w h
    have F_M : Fr [704, 705] M M := Fr.refl
    rw [fX6_arrange_l32] at h
    rcases ite_some h with ⟨_, h⟩ | ⟨_, h⟩
    · obtain rfl := Option.some.inj h
      exact F_M
    · replace h := obind_some h
      obtain ⟨M11, c1, h⟩ := h
      have F_M11 : Fr [704, 705] M M11 := Fr.step F_M (frX6_partInTwo c1) (by decide)
      replace h := bnd_some h
      obtain ⟨x12, e2, h⟩ := h
      exact Fr.trans F_M11 (ih _ _ _ h)
theorem frX6_arrange_l32 {z1 : Int32} {z2 : Int32} {n : Nat} {y3 : Int32} {M : tM} {w : (tM)} (h : fX6_arrange_l32 z1 z2 n y3 M = some w) : Fr [704, 705] M w := frX6_arrange_l32_n n y3 M w h
theorem frX6_arrange_l25_n {z1 : Int32} : ∀ (n : Nat) (y2 : Int32) (M : tM) (w : (tM)), fX6_arrange_l25 z1 n y2 M = some w → Fr [704, 705] M w := by
  intro n
  induction n with
  | zero => intro y2 M w h; cases h
  | succ n ih =>
    intro y2 M w h
    have F_M : Fr [704, 705] M M := Fr.refl
    rw [fX6_arrange_l25] at h
    rcases ite_some h with ⟨_, h⟩ | ⟨_, h⟩
    · obtain rfl := Option.some.inj h
      exact F_M
    · replace h := obind_some h
      obtain ⟨M15, c1, h⟩ := h
      have F_M15 : Fr [704, 705] M M15 := Fr.step F_M (frX6_arrange_l32 c1) (by decide)
      replace h := bnd_some h
      obtain ⟨x16, e2, h⟩ := h
      exact Fr.trans F_M15 (ih _ _ _ h)
theorem frX6_arrange_l25 {z1 : Int32} {n : Nat} {y2 : Int32} {M : tM} {w : (tM)} (h : fX6_arrange_l25 z1 n y2 M = some w) : Fr [704, 705] M w := frX6_arrange_l25_n n y2 M w h
theorem frX6_arrange {M : tM} {w : (Int32 × tM)} (h : fX6_arrange M = some w) : Fr [701, 702, 703, 704, 705, 706, 70007] M w.2 := by
  have F_M : Fr [701, 702, 703, 704, 705, 706, 70007] M M := Fr.refl
  unfold fX6_arrange at h
  replace h := obind_some h
  obtain ⟨w2, c1, h⟩ := h
  obtain ⟨x1, M3⟩ := w2
  dsimp only at h
  have F_M3 : Fr [701, 702, 703, 704, 705, 706, 70007] M M3 := Fr.step F_M (frX6_putInOrder c1) (by decide)
  rcases ite_some h with ⟨_, h⟩ | ⟨_, h⟩
  · obtain rfl := Option.some.inj h
    exact F_M3
  · replace h := bnd_some h
    obtain ⟨x5, e3, h⟩ := h
    replace h := obind_some h
    obtain ⟨M7, c4, h⟩ := h
    have F_M7 : Fr [701, 702, 703, 704, 705, 706, 70007] M M7 := Fr.step F_M3 (frX6_findDivisors c4) (by decide)
    replace h := obind_some h
    obtain ⟨M19, c5, h⟩ := h
    have F_M19 : Fr [701, 702, 703, 704, 705, 706, 70007] M M19 := Fr.step F_M7 (frX6_arrange_l25 c5) (by decide)
    replace h := bnd_some h
    obtain ⟨M20, e6, h⟩ := h
    have F_M20 : Fr [701, 702, 703, 704, 705, 706, 70007] M M20 := by rw [e6]; exact Fr.wIo F_M19 (by decide)
    replace h := obind_some h
    obtain ⟨M22, c7, h⟩ := h
    have F_M22 : Fr [701, 702, 703, 704, 705, 706, 70007] M M22 := Fr.step F_M20 (frX6_writeRow c7) (by decide)
    obtain rfl := Option.some.inj h
    exact F_M22
theorem frX6_unrollRow_l34_n {rc : Nat → Nat → Int32 → Int32 → Int32 → Int32 → tM → Option (tM)} {kz1 : Nat} {z1 : Nat} {z2 : Int32} {z3 : Int32} {z4 : Int32} {z5 : Int32} {z6 : Int32} {z7 : Int32} (hr : ∀ {v1} {v2} {v3} {v4} {v5} {Ma Mb : tM}, rc kz1 v1 v2 v3 v4 v5 Ma = some Mb → Fr [70008, kz1] Ma Mb) : ∀ (n : Nat) (y8 : Int32) (M : tM) (w : (tM)), fX6_unrollRow_l34 rc kz1 z1 z2 z3 z4 z5 z6 z7 n y8 M = some w → Fr [70008, kz1] M w := by
  intro n
  induction n with
  | zero => intro y8 M w h; cases h
  | succ n ih =>
    intro y8 M w h
    have F_M : Fr [70008, kz1] M M := Fr.refl
    rw [fX6_unrollRow_l34] at h
    rcases ite_some h with ⟨_, h⟩ | ⟨_, h⟩
    · obtain rfl := Option.some.inj h
      exact F_M
    · replace h := obind_some h
      obtain ⟨w2, b1, h⟩ := h
      have G_w2 : Fr [70008, kz1] M w2 := by
        clear h
        replace h := b1
        clear b1
        rcases ite_some h with ⟨_, h⟩ | ⟨_, h⟩
        · replace h := chk_some h
          obtain ⟨_, h⟩ := h
          replace h := chk_some h
          obtain ⟨_, h⟩ := h
          rcases ite_some h with ⟨_, h⟩ | ⟨_, h⟩
          · obtain rfl := Option.some.inj h
            exact F_M
          · replace h := chk_some h
            obtain ⟨_, h⟩ := h
            replace h := chk_some h
            obtain ⟨_, h⟩ := h
            replace h := chk_some h
            obtain ⟨_, h⟩ := h
            replace h := bnd_some h
            obtain ⟨M14, e3, h⟩ := h
            have F_M14 : Fr [70008, kz1] M M14 := by rw [e3]; exact Fr.wI F_M (by simp)
            replace h := bnd_some h
            obtain ⟨M15, e4, h⟩ := h
            have F_M15 : Fr [70008, kz1] M M15 := by rw [e4]; exact Fr.wIo F_M14 (by simp)
            obtain rfl := Option.some.inj h
            exact F_M15
        · replace h := obind_some h
          obtain ⟨M17, c5, h⟩ := h
          have F_M17 : Fr [70008, kz1] M M17 := Fr.step F_M (hr c5) (by simp)
          replace h := obind_some h
          obtain ⟨M19, c6, h⟩ := h
          have F_M19 : Fr [70008, kz1] M M19 := Fr.step F_M17 (hr c6) (by simp)
          obtain rfl := Option.some.inj h
          exact F_M19
      have F_w2 := G_w2
      obtain ⟨M8, hq⟩ : ∃ q, q = w2 := ⟨_, rfl⟩
      rw [← hq] at h
      have F_M8 : Fr [70008, kz1] M M8 := by rw [hq]; exact F_w2
      clear hq
      replace h := bnd_some h
      obtain ⟨x20, e7, h⟩ := h
      exact Fr.trans F_M8 (ih _ _ _ h)
theorem frX6_unrollRow_l34 {rc : Nat → Nat → Int32 → Int32 → Int32 → Int32 → tM → Option (tM)} {kz1 : Nat} {z1 : Nat} {z2 : Int32} {z3 : Int32} {z4 : Int32} {z5 : Int32} {z6 : Int32} {z7 : Int32} {n : Nat} {y8 : Int32} {M : tM} (hr : ∀ {v1} {v2} {v3} {v4} {v5} {Ma Mb : tM}, rc kz1 v1 v2 v3 v4 v5 Ma = some Mb → Fr [70008, kz1] Ma Mb) {w : (tM)} (h : fX6_unrollRow_l34 rc kz1 z1 z2 z3 z4 z5 z6 z7 n y8 M = some w) : Fr [70008, kz1] M w := frX6_unrollRow_l34_n hr n y8 M w h
theorem frX6_unrollRow_b {rc : Nat → Nat → Int32 → Int32 → Int32 → Int32 → tM → Option (tM)} {k1 : Nat} {a1 : Nat} {a2 : Int32} {a3 : Int32} {a4 : Int32} {a5 : Int32} {M : tM} (hr : ∀ {v1} {v2} {v3} {v4} {v5} {Ma Mb : tM}, rc k1 v1 v2 v3 v4 v5 Ma = some Mb → Fr [70008, k1] Ma Mb) {w : (tM)} (h : fX6_unrollRow_b rc k1 a1 a2 a3 a4 a5 M = some w) : Fr [70008, k1] M w := by
  have F_M : Fr [70008, k1] M M := Fr.refl
  unfold fX6_unrollRow_b at h
  rcases ite_some h with ⟨_, h⟩ | ⟨_, h⟩
  · replace h := obind_some h
    obtain ⟨x2, c1, h⟩ := h
    replace h := chk_some h
    obtain ⟨_, h⟩ := h
    replace h := bnd_some h
    obtain ⟨x5, e2, h⟩ := h
    replace h := obind_some h
    obtain ⟨M23, c3, h⟩ := h
    have F_M23 : Fr [70008, k1] M M23 := Fr.step F_M (frX6_unrollRow_l34 (fun h => hr h) c3) (by simp)
    obtain rfl := Option.some.inj h
    exact F_M23
  · obtain rfl := Option.some.inj h
    exact F_M
theorem frX6_unrollRow : ∀ {n : Nat} {k1 a1 : Nat} {a2 a3 a4 a5 : Int32} {M w : tM}, fX6_unrollRow n k1 a1 a2 a3 a4 a5 M = some w → Fr [70008, k1] M w := by
  intro n
  induction n with
  | zero => intro k1 a1 a2 a3 a4 a5 M w h; cases h
  | succ n ih => intro k1 a1 a2 a3 a4 a5 M w h; rw [fX6_unrollRow] at h; exact frX6_unrollRow_b (fun h => ih h) h

theorem frX6_unrollInto {k1 : Nat} {a1 : Nat} {M : tM} {w : (tM)} (h : fX6_unrollInto k1 a1 M = some w) : Fr [70008, k1] M w := by
  have F_M : Fr [70008, k1] M M := Fr.refl
  unfold fX6_unrollInto at h
  replace h := bnd_some h
  obtain ⟨M1, e1, h⟩ := h
  have F_M1 : Fr [70008, k1] M M1 := by rw [e1]; exact Fr.wIo F_M (by simp)
  replace h := obind_some h
  obtain ⟨M3, c2, h⟩ := h
  have F_M3 : Fr [70008, k1] M M3 := Fr.step F_M1 (frX6_unrollRow c2) (by simp)
  obtain rfl := Option.some.inj h
  exact F_M3
theorem frX10_once {M : tM} {w : (Int32 × tM)} (h : fX10_once M = some w) : Fr [208, 209, 601, 602, 603, 604, 605, 701, 702, 703, 704, 705, 706, 902, 904, 905, 1110, 20004, 20005, 20006, 20007, 60006, 60007, 60008, 70007, 70008, 80006, 90003, 110009] M w.2 := by
  have F_M : Fr [208, 209, 601, 602, 603, 604, 605, 701, 702, 703, 704, 705, 706, 902, 904, 905, 1110, 20004, 20005, 20006, 20007, 60006, 60007, 60008, 70007, 70008, 80006, 90003, 110009] M M := Fr.refl
  unfold fX10_once at h
  replace h := obind_some h
  obtain ⟨w2, c1, h⟩ := h
  obtain ⟨x1, M3⟩ := w2
  dsimp only at h
  have F_M3 : Fr [208, 209, 601, 602, 603, 604, 605, 701, 702, 703, 704, 705, 706, 902, 904, 905, 1110, 20004, 20005, 20006, 20007, 60006, 60007, 60008, 70007, 70008, 80006, 90003, 110009] M M3 := Fr.step F_M (frX10_noRound c1) (by decide)
  rcases ite_some h with ⟨_, h⟩ | ⟨_, h⟩
  · replace h := obind_some h
    obtain ⟨x5, c3, h⟩ := h
    rcases ite_some h with ⟨_, h⟩ | ⟨_, h⟩
    · replace h := obind_some h
      obtain ⟨w5, c4, h⟩ := h
      obtain ⟨x8, M10⟩ := w5
      dsimp only at h
      have F_M10 : Fr [208, 209, 601, 602, 603, 604, 605, 701, 702, 703, 704, 705, 706, 902, 904, 905, 1110, 20004, 20005, 20006, 20007, 60006, 60007, 60008, 70007, 70008, 80006, 90003, 110009] M M10 := Fr.step F_M3 (frX6_arrange c4) (by decide)
      rcases ite_some h with ⟨_, h⟩ | ⟨_, h⟩
      · obtain rfl := Option.some.inj h
        exact F_M10
      · replace h := obind_some h
        obtain ⟨M13, c6, h⟩ := h
        have F_M13 : Fr [208, 209, 601, 602, 603, 604, 605, 701, 702, 703, 704, 705, 706, 902, 904, 905, 1110, 20004, 20005, 20006, 20007, 60006, 60007, 60008, 70007, 70008, 80006, 90003, 110009] M M13 := Fr.step F_M10 (frX6_unrollInto c6) (by simp)
        replace h := obind_some h
        obtain ⟨w8, c7, h⟩ := h
        obtain ⟨x14, M16⟩ := w8
        dsimp only at h
        have F_M16 : Fr [208, 209, 601, 602, 603, 604, 605, 701, 702, 703, 704, 705, 706, 902, 904, 905, 1110, 20004, 20005, 20006, 20007, 60006, 60007, 60008, 70007, 70008, 80006, 90003, 110009] M M16 := Fr.step F_M13 (frX8_adopt c7) (by decide)
        obtain rfl := Option.some.inj h
        exact F_M16
    · replace h := obind_some h
      obtain ⟨w10, c9, h⟩ := h
      obtain ⟨x17, M19⟩ := w10
      dsimp only at h
      have F_M19 : Fr [208, 209, 601, 602, 603, 604, 605, 701, 702, 703, 704, 705, 706, 902, 904, 905, 1110, 20004, 20005, 20006, 20007, 60006, 60007, 60008, 70007, 70008, 80006, 90003, 110009] M M19 := Fr.step F_M3 (frX10_meets c9) (by decide)
      obtain rfl := Option.some.inj h
      exact F_M19
  · obtain rfl := Option.some.inj h
    exact F_M3
