theorem frX0_reachFurther_l5_n : ∀ (n : Nat) (y1 : Int32) (y2 : Int32) (M : tM) (w : (Int32 × tM)), fX0_reachFurther_l5 n y1 y2 M = some w → Fr [111, 112] M w.2 := by
  intro n
  induction n with
  | zero => intro y1 y2 M w h; cases h
  | succ n ih =>
    intro y1 y2 M w h
    have F_M : Fr [111, 112] M M := Fr.refl
    rw [fX0_reachFurther_l5] at h
    rcases ite_some h with ⟨_, h⟩ | ⟨_, h⟩
    · obtain rfl := Option.some.inj h
      exact F_M
    · replace h := chk_some h
      obtain ⟨_, h⟩ := h
      replace h := bnd_some h
      obtain ⟨x3, e1, h⟩ := h
      replace h := chk_some h
      obtain ⟨_, h⟩ := h
      replace h := chk_some h
      obtain ⟨_, h⟩ := h
      replace h := chk_some h
      obtain ⟨_, h⟩ := h
      replace h := bnd_some h
      obtain ⟨x7, e2, h⟩ := h
      replace h := chk_some h
      obtain ⟨_, h⟩ := h
      replace h := chk_some h
      obtain ⟨_, h⟩ := h
      replace h := obind_some h
      obtain ⟨w4, b3, h⟩ := h
      have G_w4 : Fr [111, 112] M w4.2 := by
        clear h
        replace h := b3
        clear b3
        rcases ite_some h with ⟨_, h⟩ | ⟨_, h⟩
        · obtain rfl := Option.some.inj h
          exact F_M
        · replace h := chk_some h
          obtain ⟨_, h⟩ := h
          replace h := chk_some h
          obtain ⟨_, h⟩ := h
          replace h := bnd_some h
          obtain ⟨M13, e5, h⟩ := h
          have F_M13 : Fr [111, 112] M M13 := by rw [e5]; exact Fr.wL F_M (by decide)
          replace h := chk_some h
          obtain ⟨_, h⟩ := h
          replace h := chk_some h
          obtain ⟨_, h⟩ := h
          replace h := bnd_some h
          obtain ⟨M16, e6, h⟩ := h
          have F_M16 : Fr [111, 112] M M16 := by rw [e6]; exact Fr.wI F_M13 (by decide)
          replace h := chk_some h
          obtain ⟨_, h⟩ := h
          replace h := bnd_some h
          obtain ⟨x18, e7, h⟩ := h
          obtain rfl := Option.some.inj h
          exact F_M16
      obtain ⟨x11, M12⟩ := w4
      dsimp only at h
      have F_M12 : Fr [111, 112] M M12 := G_w4
      replace h := bnd_some h
      obtain ⟨x19, e8, h⟩ := h
      exact Fr.trans F_M12 (ih _ _ _ _ h)
theorem frX0_reachFurther_l5 {n : Nat} {y1 : Int32} {y2 : Int32} {M : tM} {w : (Int32 × tM)} (h : fX0_reachFurther_l5 n y1 y2 M = some w) : Fr [111, 112] M w.2 := frX0_reachFurther_l5_n n y1 y2 M w h
theorem frX0_reachFurther {M : tM} {w : (Int32 × tM)} (h : fX0_reachFurther M = some w) : Fr [111, 112] M w.2 := by
  have F_M : Fr [111, 112] M M := Fr.refl
  unfold fX0_reachFurther at h
  replace h := obind_some h
  obtain ⟨w2, c1, h⟩ := h
  obtain ⟨x22, M23⟩ := w2
  dsimp only at h
  have F_M23 : Fr [111, 112] M M23 := Fr.step F_M (frX0_reachFurther_l5 c1) (by decide)
  obtain rfl := Option.some.inj h
  exact F_M23
theorem frX0_takeRing_l11_n {z1 : Int32} {M : tM} : ∀ (n : Nat) (y2 : Int64) (y4 : Int64) (y6 : Int32) (y7 : Int32) (w : ((Int32 × tM) ⊕ (Int64 × Int64))), fX0_takeRing_l11 z1 M n y2 y4 y6 y7 = some w → Fr [] M (Sum.elim (fun q => q.2) (fun q => M) w) := by
  intro n
  induction n with
  | zero => intro y2 y4 y6 y7 w h; cases h
  | succ n ih =>
    intro y2 y4 y6 y7 w h
    have F_M : Fr [] M M := Fr.refl
    rw [fX0_takeRing_l11] at h
    rcases ite_some h with ⟨_, h⟩ | ⟨_, h⟩
    · obtain rfl := Option.some.inj h
      exact F_M
    · replace h := chk_some h
      obtain ⟨_, h⟩ := h
      replace h := bnd_some h
      obtain ⟨x3, e1, h⟩ := h
      rcases ite_some h with ⟨_, h⟩ | ⟨_, h⟩
      · replace h := chk_some h
        obtain ⟨_, h⟩ := h
        replace h := bnd_some h
        obtain ⟨x6, e2, h⟩ := h
        replace h := chk_some h
        obtain ⟨_, h⟩ := h
        replace h := bnd_some h
        obtain ⟨x8, e3, h⟩ := h
        replace h := chk_some h
        obtain ⟨_, h⟩ := h
        replace h := bnd_some h
        obtain ⟨x10, e4, h⟩ := h
        rcases ite_some h with ⟨_, h⟩ | ⟨_, h⟩
        · obtain rfl := Option.some.inj h
          exact F_M
        · replace h := bnd_some h
          obtain ⟨x12, e5, h⟩ := h
          exact Fr.trans F_M (ih _ _ _ _ _ h)
      · obtain rfl := Option.some.inj h
        exact F_M
theorem frX0_takeRing_l11 {z1 : Int32} {M : tM} {n : Nat} {y2 : Int64} {y4 : Int64} {y6 : Int32} {y7 : Int32} {w : ((Int32 × tM) ⊕ (Int64 × Int64))} (h : fX0_takeRing_l11 z1 M n y2 y4 y6 y7 = some w) : Fr [] M (Sum.elim (fun q => q.2) (fun q => M) w) := frX0_takeRing_l11_n n y2 y4 y6 y7 w h
theorem frX0_takeRing {a1 : Int32} {M : tM} {w : (Int32 × tM)} (h : fX0_takeRing a1 M = some w) : Fr [10001, 10002] M w.2 := by
  have F_M : Fr [10001, 10002] M M := Fr.refl
  unfold fX0_takeRing at h
  replace h := obind_some h
  obtain ⟨w2, c1, h⟩ := h
  have F_w := Fr.step F_M (frX0_takeRing_l11 c1) (ks2 := [10001, 10002]) (by decide)
  rcases w2 with q24 | v0
  · dsimp only at h
    obtain rfl := Option.some.inj h
    exact F_w
  · dsimp only at h
    obtain ⟨x15, x16⟩ := v0
    dsimp only at h
    rcases ite_some h with ⟨_, h⟩ | ⟨_, h⟩
    · replace h := obind_some h
      obtain ⟨x18, c3, h⟩ := h
      replace h := chk_some h
      obtain ⟨_, h⟩ := h
      replace h := bnd_some h
      obtain ⟨M21, e4, h⟩ := h
      have F_M21 : Fr [10001, 10002] M M21 := by rw [e4]; exact Fr.wLo F_M (by decide)
      replace h := chk_some h
      obtain ⟨_, h⟩ := h
      replace h := bnd_some h
      obtain ⟨M23, e5, h⟩ := h
      have F_M23 : Fr [10001, 10002] M M23 := by rw [e5]; exact Fr.wLo F_M21 (by decide)
      obtain rfl := Option.some.inj h
      exact F_M23
    · obtain rfl := Option.some.inj h
      exact F_M
theorem frX0_findSlowerRing_l22_n : ∀ (n : Nat) (y1 : Int32) (y2 : Int32) (M : tM) (w : ((Int32 × tM) ⊕ (Int32 × tM))), fX0_findSlowerRing_l22 n y1 y2 M = some w → Fr [111, 112] M (Sum.elim (fun q => q.2) (fun q => q.2) w) := by
  intro n
  induction n with
  | zero => intro y1 y2 M w h; cases h
  | succ n ih =>
    intro y1 y2 M w h
    have F_M : Fr [111, 112] M M := Fr.refl
    rw [fX0_findSlowerRing_l22] at h
    rcases ite_some h with ⟨_, h⟩ | ⟨_, h⟩
    · obtain rfl := Option.some.inj h
      exact F_M
    · replace h := obind_some h
      obtain ⟨w2, c1, h⟩ := h
      obtain ⟨x6, M8⟩ := w2
      dsimp only at h
      have F_M8 : Fr [111, 112] M M8 := Fr.step F_M (frX0_reachFurther c1) (by decide)
      rcases ite_some h with ⟨_, h⟩ | ⟨_, h⟩
      · replace h := bnd_some h
        obtain ⟨x10, e3, h⟩ := h
        exact Fr.trans F_M8 (ih _ _ _ _ h)
      · obtain rfl := Option.some.inj h
        exact F_M8
theorem frX0_findSlowerRing_l22 {n : Nat} {y1 : Int32} {y2 : Int32} {M : tM} {w : ((Int32 × tM) ⊕ (Int32 × tM))} (h : fX0_findSlowerRing_l22 n y1 y2 M = some w) : Fr [111, 112] M (Sum.elim (fun q => q.2) (fun q => q.2) w) := frX0_findSlowerRing_l22_n n y1 y2 M w h
theorem frX0_findSlowerRing_l51_n {M : tM} : ∀ (n : Nat) (y2 : Int32) (y3 : Int32) (w : ((Int32 × tM) ⊕ (Int32))), fX0_findSlowerRing_l51 M n y2 y3 = some w → Fr [] M (Sum.elim (fun q => q.2) (fun q => M) w) := by
  intro n
  induction n with
  | zero => intro y2 y3 w h; cases h
  | succ n ih =>
    intro y2 y3 w h
    have F_M : Fr [] M M := Fr.refl
    rw [fX0_findSlowerRing_l51] at h
    rcases ite_some h with ⟨_, h⟩ | ⟨_, h⟩
    · obtain rfl := Option.some.inj h
      exact F_M
    · rcases ite_some h with ⟨_, h⟩ | ⟨_, h⟩
      · obtain rfl := Option.some.inj h
        exact F_M
      · replace h := chk_some h
        obtain ⟨_, h⟩ := h
        rcases ite_some h with ⟨_, h⟩ | ⟨_, h⟩
        · replace h := chk_some h
          obtain ⟨_, h⟩ := h
          replace h := chk_some h
          obtain ⟨_, h⟩ := h
          replace h := bnd_some h
          obtain ⟨x21, e1, h⟩ := h
          replace h := bnd_some h
          obtain ⟨x22, e2, h⟩ := h
          exact Fr.trans F_M (ih _ _ _ h)
        · obtain rfl := Option.some.inj h
          exact F_M
theorem frX0_findSlowerRing_l51 {M : tM} {n : Nat} {y2 : Int32} {y3 : Int32} {w : ((Int32 × tM) ⊕ (Int32))} (h : fX0_findSlowerRing_l51 M n y2 y3 = some w) : Fr [] M (Sum.elim (fun q => q.2) (fun q => M) w) := frX0_findSlowerRing_l51_n n y2 y3 w h
theorem frX0_findSlowerRing {M : tM} {w : (Int32 × tM)} (h : fX0_findSlowerRing M = some w) : Fr [111, 112, 10001, 10002] M w.2 := by
  have F_M : Fr [111, 112, 10001, 10002] M M := Fr.refl
  unfold fX0_findSlowerRing at h
  replace h := obind_some h
  obtain ⟨M2, c1, h⟩ := h
  have F_M2 : Fr [111, 112, 10001, 10002] M M2 := Fr.step F_M (frJ7_fill_d0a16 c1) (by simp)
  replace h := obind_some h
  obtain ⟨M4, c2, h⟩ := h
  have F_M4 : Fr [111, 112, 10001, 10002] M M4 := Fr.step F_M2 (frJ7_fill_53178 c2) (by simp)
  replace h := obind_some h
  obtain ⟨w4, c3, h⟩ := h
  have F_w := Fr.step F_M4 (frX0_findSlowerRing_l22 c3) (ks2 := [111, 112, 10001, 10002]) (by decide)
  rcases w4 with q33 | v0
  · dsimp only at h
    obtain rfl := Option.some.inj h
    exact F_w
  · dsimp only at h
    obtain ⟨x13, M14⟩ := v0
    dsimp only at h
    have F_M14 : Fr [111, 112, 10001, 10002] M M14 := F_w
    replace h := obind_some h
    obtain ⟨w6, c5, h⟩ := h
    have F_w := Fr.step F_M14 (frX0_findSlowerRing_l51 c5) (ks2 := [111, 112, 10001, 10002]) (by decide)
    rcases w6 with q30 | v0
    · dsimp only at h
      obtain rfl := Option.some.inj h
      exact F_w
    · dsimp only at h
      obtain ⟨x25, hq⟩ : ∃ q, q = v0 := ⟨_, rfl⟩
      rw [← hq] at h
      replace h := obind_some h
      obtain ⟨w8, c7, h⟩ := h
      obtain ⟨x26, M28⟩ := w8
      dsimp only at h
      have F_M28 : Fr [111, 112, 10001, 10002] M M28 := Fr.step F_M14 (frX0_takeRing c7) (by decide)
      replace h := chk_some h
      obtain ⟨_, h⟩ := h
      obtain rfl := Option.some.inj h
      exact F_M28
theorem frX0_know_l14_n : ∀ (n : Nat) (y1 : Int32) (M : tM) (w : (tM)), fX0_know_l14 n y1 M = some w → Fr [107, 108, 109, 10010] M w := by
  intro n
  induction n with
  | zero => intro y1 M w h; cases h
  | succ n ih =>
    intro y1 M w h
    have F_M : Fr [107, 108, 109, 10010] M M := Fr.refl
    rw [fX0_know_l14] at h
    rcases ite_some h with ⟨_, h⟩ | ⟨_, h⟩
    · obtain rfl := Option.some.inj h
      exact F_M
    · replace h := chk_some h
      obtain ⟨_, h⟩ := h
      replace h := bnd_some h
      obtain ⟨r6, e1, h⟩ := h
      replace h := obind_some h
      obtain ⟨M8, c2, h⟩ := h
      have F_M8 : Fr [107, 108, 109, 10010] M M8 := Fr.step F_M (frX0_addWaitsOn c2) (by decide)
      replace h := bnd_some h
      obtain ⟨x9, e3, h⟩ := h
      exact Fr.trans F_M8 (ih _ _ _ h)
theorem frX0_know_l14 {n : Nat} {y1 : Int32} {M : tM} {w : (tM)} (h : fX0_know_l14 n y1 M = some w) : Fr [107, 108, 109, 10010] M w := frX0_know_l14_n n y1 M w h
theorem frX0_know_l52_n : ∀ (n : Nat) (y1 : Int32) (y2 : Int32) (M : tM) (w : (tM)), fX0_know_l52 n y1 y2 M = some w → Fr [111, 112, 10001, 10002] M w := by
  intro n
  induction n with
  | zero => intro y1 y2 M w h; cases h
  | succ n ih =>
    intro y1 y2 M w h
    have F_M : Fr [111, 112, 10001, 10002] M M := Fr.refl
    rw [fX0_know_l52] at h
    rcases ite_some h with ⟨_, h⟩ | ⟨_, h⟩
    · obtain rfl := Option.some.inj h
      exact F_M
    · rcases ite_some h with ⟨_, h⟩ | ⟨_, h⟩
      · obtain rfl := Option.some.inj h
        exact F_M
      · replace h := obind_some h
        obtain ⟨w2, c1, h⟩ := h
        obtain ⟨x17, M19⟩ := w2
        dsimp only at h
        have F_M19 : Fr [111, 112, 10001, 10002] M M19 := Fr.step F_M (frX0_findSlowerRing c1) (by decide)
        replace h := bnd_some h
        obtain ⟨x20, e3, h⟩ := h
        exact Fr.trans F_M19 (ih _ _ _ _ h)
theorem frX0_know_l52 {n : Nat} {y1 : Int32} {y2 : Int32} {M : tM} {w : (tM)} (h : fX0_know_l52 n y1 y2 M = some w) : Fr [111, 112, 10001, 10002] M w := frX0_know_l52_n n y1 y2 M w h
theorem frX0_know {M : tM} {w : (tM)} (h : fX0_know M = some w) : Fr [104, 105, 107, 108, 109, 111, 112, 10001, 10002, 10003, 10006, 10010] M w := by
  have F_M : Fr [104, 105, 107, 108, 109, 111, 112, 10001, 10002, 10003, 10006, 10010] M M := Fr.refl
  unfold fX0_know at h
  rcases ite_some h with ⟨_, h⟩ | ⟨_, h⟩
  · replace h := obind_some h
    obtain ⟨M3, c1, h⟩ := h
    have F_M3 : Fr [104, 105, 107, 108, 109, 111, 112, 10001, 10002, 10003, 10006, 10010] M M3 := Fr.step F_M (frX0_numberFirings c1) (by decide)
    replace h := obind_some h
    obtain ⟨M12, c2, h⟩ := h
    have F_M12 : Fr [104, 105, 107, 108, 109, 111, 112, 10001, 10002, 10003, 10006, 10010] M M12 := Fr.step F_M3 (frX0_know_l14 c2) (by decide)
    replace h := obind_some h
    obtain ⟨M14, c3, h⟩ := h
    have F_M14 : Fr [104, 105, 107, 108, 109, 111, 112, 10001, 10002, 10003, 10006, 10010] M M14 := Fr.step F_M12 (frX0_beginWithOwnRings c3) (by decide)
    replace h := obind_some h
    obtain ⟨M23, c4, h⟩ := h
    have F_M23 : Fr [104, 105, 107, 108, 109, 111, 112, 10001, 10002, 10003, 10006, 10010] M M23 := Fr.step F_M14 (frX0_know_l52 c4) (by decide)
    replace h := bnd_some h
    obtain ⟨M24, e5, h⟩ := h
    have F_M24 : Fr [104, 105, 107, 108, 109, 111, 112, 10001, 10002, 10003, 10006, 10010] M M24 := by rw [e5]; exact Fr.wIo F_M23 (by decide)
    obtain rfl := Option.some.inj h
    exact F_M24
  · obtain rfl := Option.some.inj h
    exact F_M
theorem frX1_forgetRound {M : tM} {w : (tM)} (h : fX1_forgetRound M = some w) : Fr [20006] M w := by
  have F_M : Fr [20006] M M := Fr.refl
  unfold fX1_forgetRound at h
  replace h := bnd_some h
  obtain ⟨M1, e1, h⟩ := h
  have F_M1 : Fr [20006] M M1 := by rw [e1]; exact Fr.wIo F_M (by decide)
  obtain rfl := Option.some.inj h
  exact F_M1
theorem frX1_setProportion {a1 : Int32} {a2 : Int32} {a3 : Int64} {M : tM} {w : (tM)} (h : fX1_setProportion a1 a2 a3 M = some w) : Fr [209] M w := by
  have F_M : Fr [209] M M := Fr.refl
  unfold fX1_setProportion at h
  replace h := chk_some h
  obtain ⟨_, h⟩ := h
  replace h := bnd_some h
  obtain ⟨M2, e1, h⟩ := h
  have F_M2 : Fr [209] M M2 := by rw [e1]; exact Fr.wL F_M (by decide)
  obtain rfl := Option.some.inj h
  exact F_M2
theorem frX1_join_l23_n {z1 : Int32} {z2 : Int32} {z3 : Int32} {z4 : Int32} {z5 : Int32} {z6 : Int32} : ∀ (n : Nat) (y7 : Int32) (M : tM) (w : ((Int32 × tM) ⊕ (tM))), fX1_join_l23 z1 z2 z3 z4 z5 z6 n y7 M = some w → Fr [209] M (Sum.elim (fun q => q.2) (fun q => q) w) := by
  intro n
  induction n with
  | zero => intro y7 M w h; cases h
  | succ n ih =>
    intro y7 M w h
    have F_M : Fr [209] M M := Fr.refl
    rw [fX1_join_l23] at h
    rcases ite_some h with ⟨_, h⟩ | ⟨_, h⟩
    · obtain rfl := Option.some.inj h
      exact F_M
    · replace h := chk_some h
      obtain ⟨_, h⟩ := h
      replace h := chk_some h
      obtain ⟨_, h⟩ := h
      rcases ite_some h with ⟨_, h⟩ | ⟨_, h⟩
      · replace h := chk_some h
        obtain ⟨_, h⟩ := h
        rcases ite_some h with ⟨_, h⟩ | ⟨_, h⟩
        · replace h := obind_some h
          obtain ⟨x12, c1, h⟩ := h
          replace h := obind_some h
          obtain ⟨x14, c2, h⟩ := h
          replace h := bnd_some h
          obtain ⟨x16, e3, h⟩ := h
          replace h := obind_some h
          obtain ⟨x17, c4, h⟩ := h
          replace h := obind_some h
          obtain ⟨x19, c5, h⟩ := h
          replace h := bnd_some h
          obtain ⟨x21, e6, h⟩ := h
          replace h := obind_some h
          obtain ⟨x22, c7, h⟩ := h
          replace h := chk_some h
          obtain ⟨_, h⟩ := h
          rcases ite_some h with ⟨_, h⟩ | ⟨_, h⟩
          · obtain rfl := Option.some.inj h
            exact F_M
          · replace h := chk_some h
            obtain ⟨_, h⟩ := h
            rcases ite_some h with ⟨_, h⟩ | ⟨_, h⟩
            · replace h := chk_some h
              obtain ⟨_, h⟩ := h
              replace h := obind_some h
              obtain ⟨M30, c8, h⟩ := h
              have F_M30 : Fr [209] M M30 := Fr.step F_M (frX1_setProportion c8) (by decide)
              replace h := chk_some h
              obtain ⟨_, h⟩ := h
              replace h := obind_some h
              obtain ⟨M33, c9, h⟩ := h
              have F_M33 : Fr [209] M M33 := Fr.step F_M30 (frX1_setProportion c9) (by decide)
              replace h := bnd_some h
              obtain ⟨x34, e10, h⟩ := h
              exact Fr.trans F_M33 (ih _ _ _ h)
            · obtain rfl := Option.some.inj h
              exact F_M
        · replace h := bnd_some h
          obtain ⟨x11, e11, h⟩ := h
          exact Fr.trans F_M (ih _ _ _ h)
      · replace h := bnd_some h
        obtain ⟨x8, e12, h⟩ := h
        exact Fr.trans F_M (ih _ _ _ h)
theorem frX1_join_l23 {z1 : Int32} {z2 : Int32} {z3 : Int32} {z4 : Int32} {z5 : Int32} {z6 : Int32} {n : Nat} {y7 : Int32} {M : tM} {w : ((Int32 × tM) ⊕ (tM))} (h : fX1_join_l23 z1 z2 z3 z4 z5 z6 n y7 M = some w) : Fr [209] M (Sum.elim (fun q => q.2) (fun q => q) w) := frX1_join_l23_n n y7 M w h
theorem frX1_join_l11_n {z1 : Int32} {z2 : Int32} {z3 : Int32} {z4 : Int32} {z5 : Int32} : ∀ (n : Nat) (y6 : Int32) (M : tM) (w : ((Int32 × tM) ⊕ (tM))), fX1_join_l11 z1 z2 z3 z4 z5 n y6 M = some w → Fr [209] M (Sum.elim (fun q => q.2) (fun q => q) w) := by
  intro n
  induction n with
  | zero => intro y6 M w h; cases h
  | succ n ih =>
    intro y6 M w h
    have F_M : Fr [209] M M := Fr.refl
    rw [fX1_join_l11] at h
    rcases ite_some h with ⟨_, h⟩ | ⟨_, h⟩
    · obtain rfl := Option.some.inj h
      exact F_M
    · replace h := obind_some h
      obtain ⟨w2, c1, h⟩ := h
      have F_w := Fr.step F_M (frX1_join_l23 c1) (ks2 := [209]) (by decide)
      rcases w2 with q39 | v0
      · dsimp only at h
        obtain rfl := Option.some.inj h
        exact F_w
      · dsimp only at h
        obtain ⟨M37, hq⟩ : ∃ q, q = v0 := ⟨_, rfl⟩
        rw [← hq] at h
        have F_M37 : Fr [209] M M37 := by rw [hq]; exact F_w
        replace h := bnd_some h
        obtain ⟨x38, e3, h⟩ := h
        exact Fr.trans F_M37 (ih _ _ _ h)
theorem frX1_join_l11 {z1 : Int32} {z2 : Int32} {z3 : Int32} {z4 : Int32} {z5 : Int32} {n : Nat} {y6 : Int32} {M : tM} {w : ((Int32 × tM) ⊕ (tM))} (h : fX1_join_l11 z1 z2 z3 z4 z5 n y6 M = some w) : Fr [209] M (Sum.elim (fun q => q.2) (fun q => q) w) := frX1_join_l11_n n y6 M w h
theorem frX1_join_l178_n {z1 : Int32} {z5 : Int32} : ∀ (n : Nat) (y6 : Int32) (M : tM) (w : (tM)), fX1_join_l178 z1 z5 n y6 M = some w → Fr [208] M w := by
  intro n
  induction n with
  | zero => intro y6 M w h; cases h
  | succ n ih =>
    intro y6 M w h
    have F_M : Fr [208] M M := Fr.refl
    rw [fX1_join_l178] at h
    rcases ite_some h with ⟨_, h⟩ | ⟨_, h⟩
    · obtain rfl := Option.some.inj h
      exact F_M
    · replace h := chk_some h
      obtain ⟨_, h⟩ := h
      replace h := obind_some h
      obtain ⟨w2, b1, h⟩ := h
      have G_w2 : Fr [208] M w2 := by
        clear h
        replace h := b1
        clear b1
        rcases ite_some h with ⟨_, h⟩ | ⟨_, h⟩
        · replace h := chk_some h
          obtain ⟨_, h⟩ := h
          replace h := chk_some h
          obtain ⟨_, h⟩ := h
          replace h := bnd_some h
          obtain ⟨M50, e3, h⟩ := h
          have F_M50 : Fr [208] M M50 := by rw [e3]; exact Fr.wI F_M (by decide)
          obtain rfl := Option.some.inj h
          exact F_M50
        · obtain rfl := Option.some.inj h
          exact F_M
      have F_w2 := G_w2
      obtain ⟨M48, hq⟩ : ∃ q, q = w2 := ⟨_, rfl⟩
      rw [← hq] at h
      have F_M48 : Fr [208] M M48 := by rw [hq]; exact F_w2
      clear hq
      replace h := bnd_some h
      obtain ⟨x51, e4, h⟩ := h
      exact Fr.trans F_M48 (ih _ _ _ h)
theorem frX1_join_l178 {z1 : Int32} {z5 : Int32} {n : Nat} {y6 : Int32} {M : tM} {w : (tM)} (h : fX1_join_l178 z1 z5 n y6 M = some w) : Fr [208] M w := frX1_join_l178_n n y6 M w h
theorem frX1_join {a1 : Int32} {a2 : Int32} {a3 : Int32} {a4 : Int32} {M : tM} {w : (Int32 × tM)} (h : fX1_join a1 a2 a3 a4 M = some w) : Fr [208, 209] M w.2 := by
  have F_M : Fr [208, 209] M M := Fr.refl
  unfold fX1_join at h
  replace h := chk_some h
  obtain ⟨_, h⟩ := h
  replace h := bnd_some h
  obtain ⟨x2, e1, h⟩ := h
  replace h := obind_some h
  obtain ⟨w3, c2, h⟩ := h
  have F_w := Fr.step F_M (frX1_join_l11 c2) (ks2 := [208, 209]) (by decide)
  rcases w3 with q55 | v0
  · dsimp only at h
    obtain rfl := Option.some.inj h
    exact F_w
  · dsimp only at h
    obtain ⟨M44, hq⟩ : ∃ q, q = v0 := ⟨_, rfl⟩
    rw [← hq] at h
    have F_M44 : Fr [208, 209] M M44 := by rw [hq]; exact F_w
    replace h := obind_some h
    obtain ⟨M54, c4, h⟩ := h
    have F_M54 : Fr [208, 209] M M54 := Fr.step F_M44 (frX1_join_l178 c4) (by decide)
    obtain rfl := Option.some.inj h
    exact F_M54
theorem frX1_tie {a1 : Option Nat} {M : tM} {w : (Int32 × tM)} (h : fX1_tie a1 M = some w) : Fr [208, 209] M w.2 := by
  have F_M : Fr [208, 209] M M := Fr.refl
  unfold fX1_tie at h
  replace h := obind_some h
  obtain ⟨i1, c1, h⟩ := h
  replace h := obind_some h
  obtain ⟨x2, c2, h⟩ := h
  replace h := obind_some h
  obtain ⟨x4, c3, h⟩ := h
  rcases ite_some h with ⟨_, h⟩ | ⟨_, h⟩
  · rcases ite_some h with ⟨_, h⟩ | ⟨_, h⟩
    · obtain rfl := Option.some.inj h
      exact F_M
    · rcases ite_some h with ⟨_, h⟩ | ⟨_, h⟩
      · obtain rfl := Option.some.inj h
        exact F_M
      · rcases ite_some h with ⟨_, h⟩ | ⟨_, h⟩
        · obtain rfl := Option.some.inj h
          exact F_M
        · replace h := bnd_some h
          obtain ⟨r29, e4, h⟩ := h
          replace h := obind_some h
          obtain ⟨i30, c5, h⟩ := h
          replace h := bnd_some h
          obtain ⟨x31, e6, h⟩ := h
          replace h := bnd_some h
          obtain ⟨r32, e7, h⟩ := h
          replace h := obind_some h
          obtain ⟨i33, c8, h⟩ := h
          replace h := bnd_some h
          obtain ⟨x34, e9, h⟩ := h
          replace h := chk_some h
          obtain ⟨_, h⟩ := h
          replace h := chk_some h
          obtain ⟨_, h⟩ := h
          rcases ite_some h with ⟨_, h⟩ | ⟨_, h⟩
          · replace h := obind_some h
            obtain ⟨x41, c10, h⟩ := h
            replace h := obind_some h
            obtain ⟨x43, c11, h⟩ := h
            rcases ite_some h with ⟨_, h⟩ | ⟨_, h⟩
            · obtain rfl := Option.some.inj h
              exact F_M
            · obtain rfl := Option.some.inj h
              exact F_M
          · replace h := obind_some h
            obtain ⟨w13, c12, h⟩ := h
            obtain ⟨x38, M40⟩ := w13
            dsimp only at h
            have F_M40 : Fr [208, 209] M M40 := Fr.step F_M (frX1_join c12) (by decide)
            obtain rfl := Option.some.inj h
            exact F_M40
  · rcases ite_some h with ⟨_, h⟩ | ⟨_, h⟩
    · obtain rfl := Option.some.inj h
      exact F_M
    · rcases ite_some h with ⟨_, h⟩ | ⟨_, h⟩
      · obtain rfl := Option.some.inj h
        exact F_M
      · replace h := bnd_some h
        obtain ⟨r9, e14, h⟩ := h
        replace h := obind_some h
        obtain ⟨i10, c15, h⟩ := h
        replace h := bnd_some h
        obtain ⟨x11, e16, h⟩ := h
        replace h := bnd_some h
        obtain ⟨r12, e17, h⟩ := h
        replace h := obind_some h
        obtain ⟨i13, c18, h⟩ := h
        replace h := bnd_some h
        obtain ⟨x14, e19, h⟩ := h
        replace h := chk_some h
        obtain ⟨_, h⟩ := h
        replace h := chk_some h
        obtain ⟨_, h⟩ := h
        rcases ite_some h with ⟨_, h⟩ | ⟨_, h⟩
        · replace h := obind_some h
          obtain ⟨x21, c20, h⟩ := h
          replace h := obind_some h
          obtain ⟨x23, c21, h⟩ := h
          rcases ite_some h with ⟨_, h⟩ | ⟨_, h⟩
          · obtain rfl := Option.some.inj h
            exact F_M
          · obtain rfl := Option.some.inj h
            exact F_M
        · replace h := obind_some h
          obtain ⟨w23, c22, h⟩ := h
          obtain ⟨x18, M20⟩ := w23
          dsimp only at h
          have F_M20 : Fr [208, 209] M M20 := Fr.step F_M (frX1_join c22) (by decide)
          obtain rfl := Option.some.inj h
          exact F_M20
theorem frX1_spreadRows_l3_n {z1 : Int32} {z2 : Int64} : ∀ (n : Nat) (y4 : Int32) (M : tM) (w : ((Int32 × tM) ⊕ (tM))), fX1_spreadRows_l3 z1 z2 n y4 M = some w → Fr [20004, 80006] M (Sum.elim (fun q => q.2) (fun q => q) w) := by
  intro n
  induction n with
  | zero => intro y4 M w h; cases h
  | succ n ih =>
    intro y4 M w h
    have F_M : Fr [20004, 80006] M M := Fr.refl
    rw [fX1_spreadRows_l3] at h
    rcases ite_some h with ⟨_, h⟩ | ⟨_, h⟩
    · obtain rfl := Option.some.inj h
      exact F_M
    · replace h := chk_some h
      obtain ⟨_, h⟩ := h
      rcases ite_some h with ⟨_, h⟩ | ⟨_, h⟩
      · replace h := obind_some h
        obtain ⟨x5, c1, h⟩ := h
        replace h := obind_some h
        obtain ⟨x7, c2, h⟩ := h
        replace h := obind_some h
        obtain ⟨x9, c3, h⟩ := h
        replace h := chk_some h
        obtain ⟨_, h⟩ := h
        replace h := chk_some h
        obtain ⟨_, h⟩ := h
        replace h := bnd_some h
        obtain ⟨r13, e4, h⟩ := h
        replace h := obind_some h
        obtain ⟨i14, c5, h⟩ := h
        replace h := bnd_some h
        obtain ⟨x15, e6, h⟩ := h
        rcases ite_some h with ⟨_, h⟩ | ⟨_, h⟩
        · replace h := chk_some h
          obtain ⟨_, h⟩ := h
          replace h := bnd_some h
          obtain ⟨r18, e7, h⟩ := h
          replace h := obind_some h
          obtain ⟨i19, c8, h⟩ := h
          replace h := bnd_some h
          obtain ⟨M20, e9, h⟩ := h
          have F_M20 : Fr [20004, 80006] M M20 := by rw [e9]; exact Fr.wIo F_M (by decide)
          replace h := bnd_some h
          obtain ⟨M21, e10, h⟩ := h
          have F_M21 : Fr [20004, 80006] M M21 := by rw [e10]; exact Fr.wIo F_M20 (by decide)
          replace h := bnd_some h
          obtain ⟨x22, e11, h⟩ := h
          exact Fr.trans F_M21 (ih _ _ _ h)
        · obtain rfl := Option.some.inj h
          exact F_M
      · replace h := bnd_some h
        obtain ⟨x4, e12, h⟩ := h
        exact Fr.trans F_M (ih _ _ _ h)
theorem frX1_spreadRows_l3 {z1 : Int32} {z2 : Int64} {n : Nat} {y4 : Int32} {M : tM} {w : ((Int32 × tM) ⊕ (tM))} (h : fX1_spreadRows_l3 z1 z2 n y4 M = some w) : Fr [20004, 80006] M (Sum.elim (fun q => q.2) (fun q => q) w) := frX1_spreadRows_l3_n n y4 M w h
theorem frX1_spreadRows {a1 : Int32} {a2 : Int64} {M : tM} {w : (Int32 × tM)} (h : fX1_spreadRows a1 a2 M = some w) : Fr [20004, 80006] M w.2 := by
  have F_M : Fr [20004, 80006] M M := Fr.refl
  unfold fX1_spreadRows at h
  replace h := obind_some h
  obtain ⟨w2, c1, h⟩ := h
  have F_w := Fr.step F_M (frX1_spreadRows_l3 c1) (ks2 := [20004, 80006]) (by decide)
  rcases w2 with q26 | v0
  · dsimp only at h
    obtain rfl := Option.some.inj h
    exact F_w
  · dsimp only at h
    obtain ⟨M25, hq⟩ : ∃ q, q = v0 := ⟨_, rfl⟩
    rw [← hq] at h
    have F_M25 : Fr [20004, 80006] M M25 := by rw [hq]; exact F_w
    obtain rfl := Option.some.inj h
    exact F_M25
theorem frX1_countFirings_l2_n : ∀ (n : Nat) (y1 : Int32) (M : tM) (w : ((Int32 × tM) ⊕ (tM))), fX1_countFirings_l2 n y1 M = some w → Fr [20004, 80006] M (Sum.elim (fun q => q.2) (fun q => q) w) := by
  intro n
  induction n with
  | zero => intro y1 M w h; cases h
  | succ n ih =>
    intro y1 M w h
    have F_M : Fr [20004, 80006] M M := Fr.refl
    rw [fX1_countFirings_l2] at h
    rcases ite_some h with ⟨_, h⟩ | ⟨_, h⟩
    · obtain rfl := Option.some.inj h
      exact F_M
    · replace h := chk_some h
      obtain ⟨_, h⟩ := h
      rcases ite_some h with ⟨_, h⟩ | ⟨_, h⟩
      · replace h := obind_some h
        obtain ⟨x5, c1, h⟩ := h
        rcases ite_some h with ⟨_, h⟩ | ⟨_, h⟩
        · obtain rfl := Option.some.inj h
          exact F_M
        · replace h := obind_some h
          obtain ⟨w3, c2, h⟩ := h
          obtain ⟨x8, M10⟩ := w3
          dsimp only at h
          have F_M10 : Fr [20004, 80006] M M10 := Fr.step F_M (frX1_spreadRows c2) (by decide)
          rcases ite_some h with ⟨_, h⟩ | ⟨_, h⟩
          · obtain rfl := Option.some.inj h
            exact F_M10
          · replace h := bnd_some h
            obtain ⟨x12, e4, h⟩ := h
            exact Fr.trans F_M10 (ih _ _ _ h)
      · replace h := bnd_some h
        obtain ⟨x4, e5, h⟩ := h
        exact Fr.trans F_M (ih _ _ _ h)
theorem frX1_countFirings_l2 {n : Nat} {y1 : Int32} {M : tM} {w : ((Int32 × tM) ⊕ (tM))} (h : fX1_countFirings_l2 n y1 M = some w) : Fr [20004, 80006] M (Sum.elim (fun q => q.2) (fun q => q) w) := frX1_countFirings_l2_n n y1 M w h
theorem frX1_countFirings {M : tM} {w : (Int32 × tM)} (h : fX1_countFirings M = some w) : Fr [20004, 80006] M w.2 := by
  have F_M : Fr [20004, 80006] M M := Fr.refl
  unfold fX1_countFirings at h
  replace h := obind_some h
  obtain ⟨w2, c1, h⟩ := h
  have F_w := Fr.step F_M (frX1_countFirings_l2 c1) (ks2 := [20004, 80006]) (by decide)
  rcases w2 with q17 | v0
  · dsimp only at h
    obtain rfl := Option.some.inj h
    exact F_w
  · dsimp only at h
    obtain ⟨M15, hq⟩ : ∃ q, q = v0 := ⟨_, rfl⟩
    rw [← hq] at h
    have F_M15 : Fr [20004, 80006] M M15 := by rw [hq]; exact F_w
    rcases ite_some h with ⟨_, h⟩ | ⟨_, h⟩
    · obtain rfl := Option.some.inj h
      exact F_M15
    · obtain rfl := Option.some.inj h
      exact F_M15
theorem frX1_findRound_l23_n : ∀ (n : Nat) (y1 : Int32) (M : tM) (w : (tM)), fX1_findRound_l23 n y1 M = some w → Fr [208, 209] M w := by
  intro n
  induction n with
  | zero => intro y1 M w h; cases h
  | succ n ih =>
    intro y1 M w h
    have F_M : Fr [208, 209] M M := Fr.refl
    rw [fX1_findRound_l23] at h
    rcases ite_some h with ⟨_, h⟩ | ⟨_, h⟩
    · obtain rfl := Option.some.inj h
      exact F_M
    · replace h := chk_some h
      obtain ⟨_, h⟩ := h
      replace h := bnd_some h
      obtain ⟨M6, e1, h⟩ := h
      have F_M6 : Fr [208, 209] M M6 := by rw [e1]; exact Fr.wI F_M (by decide)
      replace h := obind_some h
      obtain ⟨M8, c2, h⟩ := h
      have F_M8 : Fr [208, 209] M M8 := Fr.step F_M6 (frX1_setProportion c2) (by decide)
      replace h := bnd_some h
      obtain ⟨x9, e3, h⟩ := h
      exact Fr.trans F_M8 (ih _ _ _ h)
theorem frX1_findRound_l23 {n : Nat} {y1 : Int32} {M : tM} {w : (tM)} (h : fX1_findRound_l23 n y1 M = some w) : Fr [208, 209] M w := frX1_findRound_l23_n n y1 M w h
theorem frX1_findRound_l53_n : ∀ (n : Nat) (y1 : Int32) (M : tM) (w : ((Int32 × tM) ⊕ (tM))), fX1_findRound_l53 n y1 M = some w → Fr [208, 209, 20005] M (Sum.elim (fun q => q.2) (fun q => q) w) := by
  intro n
  induction n with
  | zero => intro y1 M w h; cases h
  | succ n ih =>
    intro y1 M w h
    have F_M : Fr [208, 209, 20005] M M := Fr.refl
    rw [fX1_findRound_l53] at h
    rcases ite_some h with ⟨_, h⟩ | ⟨_, h⟩
    · obtain rfl := Option.some.inj h
      exact F_M
    · replace h := chk_some h
      obtain ⟨_, h⟩ := h
      replace h := bnd_some h
      obtain ⟨r15, e1, h⟩ := h
      replace h := obind_some h
      obtain ⟨w3, c2, h⟩ := h
      obtain ⟨x16, M18⟩ := w3
      dsimp only at h
      have F_M18 : Fr [208, 209, 20005] M M18 := Fr.step F_M (frX1_tie c2) (by decide)
      replace h := obind_some h
      obtain ⟨w5, b4, h⟩ := h
      have G_w5 : Fr [208, 209, 20005] M w5 := by
        clear h
        replace h := b4
        clear b4
        rcases ite_some h with ⟨_, h⟩ | ⟨_, h⟩
        · replace h := bnd_some h
          obtain ⟨M20, e6, h⟩ := h
          have F_M20 : Fr [208, 209, 20005] M M20 := by rw [e6]; exact Fr.wIo F_M18 (by decide)
          obtain rfl := Option.some.inj h
          exact F_M20
        · obtain rfl := Option.some.inj h
          exact F_M18
      have F_w5 := G_w5
      obtain ⟨M20, hq⟩ : ∃ q, q = w5 := ⟨_, rfl⟩
      rw [← hq] at h
      have F_M20 : Fr [208, 209, 20005] M M20 := by rw [hq]; exact F_w5
      clear hq
      rcases ite_some h with ⟨_, h⟩ | ⟨_, h⟩
      · replace h := bnd_some h
        obtain ⟨x24, e7, h⟩ := h
        exact Fr.trans F_M20 (ih _ _ _ h)
      · obtain rfl := Option.some.inj h
        exact F_M20
theorem frX1_findRound_l53 {n : Nat} {y1 : Int32} {M : tM} {w : ((Int32 × tM) ⊕ (tM))} (h : fX1_findRound_l53 n y1 M = some w) : Fr [208, 209, 20005] M (Sum.elim (fun q => q.2) (fun q => q) w) := frX1_findRound_l53_n n y1 M w h
theorem frX1_findRound {M : tM} {w : (Int32 × tM)} (h : fX1_findRound M = some w) : Fr [208, 209, 20004, 20005, 80006] M w.2 := by
  have F_M : Fr [208, 209, 20004, 20005, 80006] M M := Fr.refl
  unfold fX1_findRound at h
  replace h := bnd_some h
  obtain ⟨M1, e1, h⟩ := h
  have F_M1 : Fr [208, 209, 20004, 20005, 80006] M M1 := by rw [e1]; exact Fr.wIo F_M (by decide)
  replace h := bnd_some h
  obtain ⟨M2, e2, h⟩ := h
  have F_M2 : Fr [208, 209, 20004, 20005, 80006] M M2 := by rw [e2]; exact Fr.wIo F_M1 (by decide)
  rcases ite_some h with ⟨_, h⟩ | ⟨_, h⟩
  · obtain rfl := Option.some.inj h
    exact F_M2
  · replace h := obind_some h
    obtain ⟨M12, c3, h⟩ := h
    have F_M12 : Fr [208, 209, 20004, 20005, 80006] M M12 := Fr.step F_M2 (frX1_findRound_l23 c3) (by decide)
    replace h := obind_some h
    obtain ⟨w5, c4, h⟩ := h
    have F_w := Fr.step F_M12 (frX1_findRound_l53 c4) (ks2 := [208, 209, 20004, 20005, 80006]) (by decide)
    rcases w5 with q31 | v0
    · dsimp only at h
      obtain rfl := Option.some.inj h
      exact F_w
    · dsimp only at h
      obtain ⟨M27, hq⟩ : ∃ q, q = v0 := ⟨_, rfl⟩
      rw [← hq] at h
      have F_M27 : Fr [208, 209, 20004, 20005, 80006] M M27 := by rw [hq]; exact F_w
      replace h := obind_some h
      obtain ⟨w7, c6, h⟩ := h
      obtain ⟨x28, M30⟩ := w7
      dsimp only at h
      have F_M30 : Fr [208, 209, 20004, 20005, 80006] M M30 := Fr.step F_M27 (frX1_countFirings c6) (by decide)
      obtain rfl := Option.some.inj h
      exact F_M30
theorem frX1_roundState {M : tM} {w : (Int32 × tM)} (h : fX1_roundState M = some w) : Fr [208, 209, 20004, 20005, 20006, 20007, 80006] M w.2 := by
  have F_M : Fr [208, 209, 20004, 20005, 20006, 20007, 80006] M M := Fr.refl
  unfold fX1_roundState at h
  rcases ite_some h with ⟨_, h⟩ | ⟨_, h⟩
  · replace h := obind_some h
    obtain ⟨w2, c1, h⟩ := h
    obtain ⟨x2, M4⟩ := w2
    dsimp only at h
    have F_M4 : Fr [208, 209, 20004, 20005, 20006, 20007, 80006] M M4 := Fr.step F_M (frX1_findRound c1) (by decide)
    replace h := bnd_some h
    obtain ⟨M5, e3, h⟩ := h
    have F_M5 : Fr [208, 209, 20004, 20005, 20006, 20007, 80006] M M5 := by rw [e3]; exact Fr.wIo F_M4 (by decide)
    replace h := bnd_some h
    obtain ⟨M6, e4, h⟩ := h
    have F_M6 : Fr [208, 209, 20004, 20005, 20006, 20007, 80006] M M6 := by rw [e4]; exact Fr.wIo F_M5 (by decide)
    obtain rfl := Option.some.inj h
    exact F_M6
  · obtain rfl := Option.some.inj h
    exact F_M
theorem frX2_forget {M : tM} {w : (tM)} (h : fX2_forget M = some w) : Fr [30003, 30005] M w := by
  have F_M : Fr [30003, 30005] M M := Fr.refl
  unfold fX2_forget at h
  replace h := bnd_some h
  obtain ⟨M1, e1, h⟩ := h
  have F_M1 : Fr [30003, 30005] M M1 := by rw [e1]; exact Fr.wIo F_M (by decide)
  replace h := bnd_some h
  obtain ⟨M2, e2, h⟩ := h
  have F_M2 : Fr [30003, 30005] M M2 := by rw [e2]; exact Fr.wIo F_M1 (by decide)
  obtain rfl := Option.some.inj h
  exact F_M2
theorem frX5_begin_l18_n : ∀ (n : Nat) (y1 : Int32) (M : tM) (w : (tM)), fX5_begin_l18 n y1 M = some w → Fr [603, 604, 605] M w := by
  intro n
  induction n with
  | zero => intro y1 M w h; cases h
  | succ n ih =>
    intro y1 M w h
    have F_M : Fr [603, 604, 605] M M := Fr.refl
    rw [fX5_begin_l18] at h
    rcases ite_some h with ⟨_, h⟩ | ⟨_, h⟩
    · obtain rfl := Option.some.inj h
      exact F_M
    · replace h := chk_some h
      obtain ⟨_, h⟩ := h
      replace h := bnd_some h
      obtain ⟨r5, e1, h⟩ := h
      replace h := obind_some h
      obtain ⟨i6, c2, h⟩ := h
      replace h := chk_some h
      obtain ⟨_, h⟩ := h
      replace h := bnd_some h
      obtain ⟨M8, e3, h⟩ := h
      have F_M8 : Fr [603, 604, 605] M M8 := by rw [e3]; exact Fr.wI F_M (by decide)
      replace h := chk_some h
      obtain ⟨_, h⟩ := h
      replace h := bnd_some h
      obtain ⟨M10, e4, h⟩ := h
      have F_M10 : Fr [603, 604, 605] M M10 := by rw [e4]; exact Fr.wI F_M8 (by decide)
      replace h := chk_some h
      obtain ⟨_, h⟩ := h
      replace h := bnd_some h
      obtain ⟨M12, e5, h⟩ := h
      have F_M12 : Fr [603, 604, 605] M M12 := by rw [e5]; exact Fr.wI F_M10 (by decide)
      replace h := bnd_some h
      obtain ⟨x13, e6, h⟩ := h
      exact Fr.trans F_M12 (ih _ _ _ h)
theorem frX5_begin_l18 {n : Nat} {y1 : Int32} {M : tM} {w : (tM)} (h : fX5_begin_l18 n y1 M = some w) : Fr [603, 604, 605] M w := frX5_begin_l18_n n y1 M w h
theorem frX5_begin_l74_n : ∀ (n : Nat) (y1 : Int32) (M : tM) (w : (tM)), fX5_begin_l74 n y1 M = some w → Fr [601, 602, 60007] M w := by
  intro n
  induction n with
  | zero => intro y1 M w h; cases h
  | succ n ih =>
    intro y1 M w h
    have F_M : Fr [601, 602, 60007] M M := Fr.refl
    rw [fX5_begin_l74] at h
    rcases ite_some h with ⟨_, h⟩ | ⟨_, h⟩
    · obtain rfl := Option.some.inj h
      exact F_M
    · replace h := chk_some h
      obtain ⟨_, h⟩ := h
      replace h := bnd_some h
      obtain ⟨r20, e1, h⟩ := h
      replace h := obind_some h
      obtain ⟨i21, c2, h⟩ := h
      replace h := chk_some h
      obtain ⟨_, h⟩ := h
      replace h := bnd_some h
      obtain ⟨M23, e3, h⟩ := h
      have F_M23 : Fr [601, 602, 60007] M M23 := by rw [e3]; exact Fr.wI F_M (by decide)
      replace h := chk_some h
      obtain ⟨_, h⟩ := h
      replace h := chk_some h
      obtain ⟨_, h⟩ := h
      replace h := bnd_some h
      obtain ⟨M26, e4, h⟩ := h
      have F_M26 : Fr [601, 602, 60007] M M26 := by rw [e4]; exact Fr.wI F_M23 (by decide)
      replace h := chk_some h
      obtain ⟨_, h⟩ := h
      replace h := bnd_some h
      obtain ⟨M28, e5, h⟩ := h
      have F_M28 : Fr [601, 602, 60007] M M28 := by rw [e5]; exact Fr.wIo F_M26 (by decide)
      replace h := bnd_some h
      obtain ⟨x29, e6, h⟩ := h
      exact Fr.trans F_M28 (ih _ _ _ h)
theorem frX5_begin_l74 {n : Nat} {y1 : Int32} {M : tM} {w : (tM)} (h : fX5_begin_l74 n y1 M = some w) : Fr [601, 602, 60007] M w := frX5_begin_l74_n n y1 M w h
theorem frX5_begin {M : tM} {w : (tM)} (h : fX5_begin M = some w) : Fr [601, 602, 603, 604, 605, 60006, 60007, 60008] M w := by
  have F_M : Fr [601, 602, 603, 604, 605, 60006, 60007, 60008] M M := Fr.refl
  unfold fX5_begin at h
  replace h := bnd_some h
  obtain ⟨M1, e1, h⟩ := h
  have F_M1 : Fr [601, 602, 603, 604, 605, 60006, 60007, 60008] M M1 := by rw [e1]; exact Fr.wIo F_M (by decide)
  replace h := bnd_some h
  obtain ⟨M2, e2, h⟩ := h
  have F_M2 : Fr [601, 602, 603, 604, 605, 60006, 60007, 60008] M M2 := by rw [e2]; exact Fr.wIo F_M1 (by decide)
  replace h := obind_some h
  obtain ⟨M16, c3, h⟩ := h
  have F_M16 : Fr [601, 602, 603, 604, 605, 60006, 60007, 60008] M M16 := Fr.step F_M2 (frX5_begin_l18 c3) (by decide)
  replace h := bnd_some h
  obtain ⟨M17, e4, h⟩ := h
  have F_M17 : Fr [601, 602, 603, 604, 605, 60006, 60007, 60008] M M17 := by rw [e4]; exact Fr.wIo F_M16 (by decide)
  replace h := obind_some h
  obtain ⟨M32, c5, h⟩ := h
  have F_M32 : Fr [601, 602, 603, 604, 605, 60006, 60007, 60008] M M32 := Fr.step F_M17 (frX5_begin_l74 c5) (by decide)
  obtain rfl := Option.some.inj h
  exact F_M32
theorem frX5_step_l15_n {z1 : Nat} {z2 : Int32} : ∀ (n : Nat) (y3 : (Option Nat)) (M : tM) (w : (tM)), fX5_step_l15 z1 z2 n y3 M = some w → Fr [601] M w := by
  intro n
  induction n with
  | zero => intro y3 M w h; cases h
  | succ n ih =>
    intro y3 M w h
    have F_M : Fr [601] M M := Fr.refl
    rw [fX5_step_l15] at h
    rcases ite_some h with ⟨_, h⟩ | ⟨_, h⟩
    · obtain rfl := Option.some.inj h
      exact F_M
    · replace h := obind_some h
      obtain ⟨i6, c1, h⟩ := h
      replace h := bnd_some h
      obtain ⟨x7, e2, h⟩ := h
      replace h := chk_some h
      obtain ⟨_, h⟩ := h
      replace h := obind_some h
      obtain ⟨x9, c3, h⟩ := h
      replace h := chk_some h
      obtain ⟨_, h⟩ := h
      replace h := bnd_some h
      obtain ⟨M12, e4, h⟩ := h
      have F_M12 : Fr [601] M M12 := by rw [e4]; exact Fr.wI F_M (by decide)
      replace h := bnd_some h
      obtain ⟨r13, e5, h⟩ := h
      exact Fr.trans F_M12 (ih _ _ _ h)
theorem frX5_step_l15 {z1 : Nat} {z2 : Int32} {n : Nat} {y3 : (Option Nat)} {M : tM} {w : (tM)} (h : fX5_step_l15 z1 z2 n y3 M = some w) : Fr [601] M w := frX5_step_l15_n n y3 M w h
theorem frX5_step_l49_n {z1 : Nat} {z2 : Int32} : ∀ (n : Nat) (y3 : (Option Nat)) (M : tM) (w : (tM)), fX5_step_l49 z1 z2 n y3 M = some w → Fr [601, 602, 60007] M w := by
  intro n
  induction n with
  | zero => intro y3 M w h; cases h
  | succ n ih =>
    intro y3 M w h
    have F_M : Fr [601, 602, 60007] M M := Fr.refl
    rw [fX5_step_l49] at h
    rcases ite_some h with ⟨_, h⟩ | ⟨_, h⟩
    · obtain rfl := Option.some.inj h
      exact F_M
    · replace h := obind_some h
      obtain ⟨i19, c1, h⟩ := h
      replace h := chk_some h
      obtain ⟨_, h⟩ := h
      replace h := obind_some h
      obtain ⟨x21, c2, h⟩ := h
      replace h := bnd_some h
      obtain ⟨x23, e3, h⟩ := h
      replace h := chk_some h
      obtain ⟨_, h⟩ := h
      replace h := bnd_some h
      obtain ⟨M25, e4, h⟩ := h
      have F_M25 : Fr [601, 602, 60007] M M25 := by rw [e4]; exact Fr.wI F_M (by decide)
      replace h := chk_some h
      obtain ⟨_, h⟩ := h
      replace h := obind_some h
      obtain ⟨w6, b5, h⟩ := h
      have G_w6 : Fr [601, 602, 60007] M w6 := by
        clear h
        replace h := b5
        clear b5
        rcases ite_some h with ⟨_, h⟩ | ⟨_, h⟩
        · obtain rfl := Option.some.inj h
          exact F_M25
        · replace h := chk_some h
          obtain ⟨_, h⟩ := h
          replace h := bnd_some h
          obtain ⟨M29, e7, h⟩ := h
          have F_M29 : Fr [601, 602, 60007] M M29 := by rw [e7]; exact Fr.wIo F_M25 (by decide)
          replace h := chk_some h
          obtain ⟨_, h⟩ := h
          replace h := bnd_some h
          obtain ⟨M31, e8, h⟩ := h
          have F_M31 : Fr [601, 602, 60007] M M31 := by rw [e8]; exact Fr.wI F_M29 (by decide)
          obtain rfl := Option.some.inj h
          exact F_M31
      have F_w6 := G_w6
      obtain ⟨M28, hq⟩ : ∃ q, q = w6 := ⟨_, rfl⟩
      rw [← hq] at h
      have F_M28 : Fr [601, 602, 60007] M M28 := by rw [hq]; exact F_w6
      clear hq
      replace h := bnd_some h
      obtain ⟨r32, e9, h⟩ := h
      exact Fr.trans F_M28 (ih _ _ _ h)
theorem frX5_step_l49 {z1 : Nat} {z2 : Int32} {n : Nat} {y3 : (Option Nat)} {M : tM} {w : (tM)} (h : fX5_step_l49 z1 z2 n y3 M = some w) : Fr [601, 602, 60007] M w := frX5_step_l49_n n y3 M w h
theorem frX5_step {a1 : Option Nat} {M : tM} {w : (tM)} (h : fX5_step a1 M = some w) : Fr [601, 602, 603, 604, 605, 60006, 60007, 60008] M w := by
  have F_M : Fr [601, 602, 603, 604, 605, 60006, 60007, 60008] M M := Fr.refl
  unfold fX5_step at h
  replace h := obind_some h
  obtain ⟨i1, c1, h⟩ := h
  replace h := chk_some h
  obtain ⟨_, h⟩ := h
  replace h := bnd_some h
  obtain ⟨x3, e2, h⟩ := h
  replace h := bnd_some h
  obtain ⟨r4, e3, h⟩ := h
  replace h := obind_some h
  obtain ⟨M16, c4, h⟩ := h
  have F_M16 : Fr [601, 602, 603, 604, 605, 60006, 60007, 60008] M M16 := Fr.step F_M (frX5_step_l15 c4) (by decide)
  replace h := bnd_some h
  obtain ⟨r17, e5, h⟩ := h
  replace h := obind_some h
  obtain ⟨M35, c6, h⟩ := h
  have F_M35 : Fr [601, 602, 603, 604, 605, 60006, 60007, 60008] M M35 := Fr.step F_M16 (frX5_step_l49 c6) (by decide)
  replace h := obind_some h
  obtain ⟨x36, c7, h⟩ := h
  replace h := chk_some h
  obtain ⟨_, h⟩ := h
  replace h := bnd_some h
  obtain ⟨M39, e8, h⟩ := h
  have F_M39 : Fr [601, 602, 603, 604, 605, 60006, 60007, 60008] M M39 := by rw [e8]; exact Fr.wI F_M35 (by decide)
  replace h := bnd_some h
  obtain ⟨x40, e9, h⟩ := h
  replace h := chk_some h
  obtain ⟨_, h⟩ := h
  replace h := chk_some h
  obtain ⟨_, h⟩ := h
  replace h := bnd_some h
  obtain ⟨M43, e10, h⟩ := h
  have F_M43 : Fr [601, 602, 603, 604, 605, 60006, 60007, 60008] M M43 := by rw [e10]; exact Fr.wI F_M39 (by decide)
  replace h := bnd_some h
  obtain ⟨M44, e11, h⟩ := h
  have F_M44 : Fr [601, 602, 603, 604, 605, 60006, 60007, 60008] M M44 := by rw [e11]; exact Fr.wIo F_M43 (by decide)
  replace h := bnd_some h
  obtain ⟨M45, e12, h⟩ := h
  have F_M45 : Fr [601, 602, 603, 604, 605, 60006, 60007, 60008] M M45 := by rw [e12]; exact Fr.wIo F_M44 (by decide)
  replace h := chk_some h
  obtain ⟨_, h⟩ := h
  replace h := bnd_some h
  obtain ⟨M47, e13, h⟩ := h
  have F_M47 : Fr [601, 602, 603, 604, 605, 60006, 60007, 60008] M M47 := by rw [e13]; exact Fr.wI F_M45 (by decide)
  obtain rfl := Option.some.inj h
  exact F_M47
theorem frX5_exhaust_l49_n {z2 : Int32} {z3 : Int32} {z4 : Option Nat} : ∀ (n : Nat) (y1 : Int32) (y5 : Int32) (M : tM) (w : (Int32 × tM)), fX5_exhaust_l49 z2 z3 z4 n y1 y5 M = some w → Fr [601, 602, 603, 604, 605, 60006, 60007, 60008] M w.2 := by
  intro n
  induction n with
  | zero => intro y1 y5 M w h; cases h
  | succ n ih =>
    intro y1 y5 M w h
    have F_M : Fr [601, 602, 603, 604, 605, 60006, 60007, 60008] M M := Fr.refl
    rw [fX5_exhaust_l49] at h
    rcases ite_some h with ⟨_, h⟩ | ⟨_, h⟩
    · obtain rfl := Option.some.inj h
      exact F_M
    · replace h := obind_some h
      obtain ⟨x9, c1, h⟩ := h
      rcases ite_some h with ⟨_, h⟩ | ⟨_, h⟩
      · obtain rfl := Option.some.inj h
        exact F_M
      · replace h := obind_some h
        obtain ⟨M13, c2, h⟩ := h
        have F_M13 : Fr [601, 602, 603, 604, 605, 60006, 60007, 60008] M M13 := Fr.step F_M (frX5_step c2) (by decide)
        replace h := bnd_some h
        obtain ⟨x14, e3, h⟩ := h
        exact Fr.trans F_M13 (ih _ _ _ _ h)
theorem frX5_exhaust_l49 {z2 : Int32} {z3 : Int32} {z4 : Option Nat} {n : Nat} {y1 : Int32} {y5 : Int32} {M : tM} {w : (Int32 × tM)} (h : fX5_exhaust_l49 z2 z3 z4 n y1 y5 M = some w) : Fr [601, 602, 603, 604, 605, 60006, 60007, 60008] M w.2 := frX5_exhaust_l49_n n y1 y5 M w h
theorem frX5_exhaust_l19_n {z2 : Int32} : ∀ (n : Nat) (y1 : Int32) (y3 : Int32) (M : tM) (w : (Int32 × tM)), fX5_exhaust_l19 z2 n y1 y3 M = some w → Fr [601, 602, 603, 604, 605, 60006, 60007, 60008] M w.2 := by
  intro n
  induction n with
  | zero => intro y1 y3 M w h; cases h
  | succ n ih =>
    intro y1 y3 M w h
    have F_M : Fr [601, 602, 603, 604, 605, 60006, 60007, 60008] M M := Fr.refl
    rw [fX5_exhaust_l19] at h
    rcases ite_some h with ⟨_, h⟩ | ⟨_, h⟩
    · obtain rfl := Option.some.inj h
      exact F_M
    · replace h := chk_some h
      obtain ⟨_, h⟩ := h
      replace h := bnd_some h
      obtain ⟨r5, e1, h⟩ := h
      replace h := chk_some h
      obtain ⟨_, h⟩ := h
      replace h := bnd_some h
      obtain ⟨x7, e2, h⟩ := h
      replace h := obind_some h
      obtain ⟨w4, c3, h⟩ := h
      obtain ⟨x17, M18⟩ := w4
      dsimp only at h
      have F_M18 : Fr [601, 602, 603, 604, 605, 60006, 60007, 60008] M M18 := Fr.step F_M (frX5_exhaust_l49 c3) (by decide)
      replace h := bnd_some h
      obtain ⟨x19, e5, h⟩ := h
      exact Fr.trans F_M18 (ih _ _ _ _ h)
theorem frX5_exhaust_l19 {z2 : Int32} {n : Nat} {y1 : Int32} {y3 : Int32} {M : tM} {w : (Int32 × tM)} (h : fX5_exhaust_l19 z2 n y1 y3 M = some w) : Fr [601, 602, 603, 604, 605, 60006, 60007, 60008] M w.2 := frX5_exhaust_l19_n n y1 y3 M w h
theorem frX5_exhaust_l4_n : ∀ (n : Nat) (y1 : Int32) (y2 : Int32) (M : tM) (w : (tM)), fX5_exhaust_l4 n y1 y2 M = some w → Fr [601, 602, 603, 604, 605, 60006, 60007, 60008] M w := by
  intro n
  induction n with
  | zero => intro y1 y2 M w h; cases h
  | succ n ih =>
    intro y1 y2 M w h
    have F_M : Fr [601, 602, 603, 604, 605, 60006, 60007, 60008] M M := Fr.refl
    rw [fX5_exhaust_l4] at h
    rcases ite_some h with ⟨_, h⟩ | ⟨_, h⟩
    · obtain rfl := Option.some.inj h
      exact F_M
    · rcases ite_some h with ⟨_, h⟩ | ⟨_, h⟩
      · obtain rfl := Option.some.inj h
        exact F_M
      · replace h := obind_some h
        obtain ⟨w2, c1, h⟩ := h
        obtain ⟨x22, M23⟩ := w2
        dsimp only at h
        have F_M23 : Fr [601, 602, 603, 604, 605, 60006, 60007, 60008] M M23 := Fr.step F_M (frX5_exhaust_l19 c1) (by decide)
        replace h := bnd_some h
        obtain ⟨x24, e3, h⟩ := h
        exact Fr.trans F_M23 (ih _ _ _ _ h)
theorem frX5_exhaust_l4 {n : Nat} {y1 : Int32} {y2 : Int32} {M : tM} {w : (tM)} (h : fX5_exhaust_l4 n y1 y2 M = some w) : Fr [601, 602, 603, 604, 605, 60006, 60007, 60008] M w := frX5_exhaust_l4_n n y1 y2 M w h
theorem frX5_exhaust {M : tM} {w : (tM)} (h : fX5_exhaust M = some w) : Fr [601, 602, 603, 604, 605, 60006, 60007, 60008] M w := by
  have F_M : Fr [601, 602, 603, 604, 605, 60006, 60007, 60008] M M := Fr.refl
  unfold fX5_exhaust at h
  replace h := obind_some h
  obtain ⟨M27, c1, h⟩ := h
  have F_M27 : Fr [601, 602, 603, 604, 605, 60006, 60007, 60008] M M27 := Fr.step F_M (frX5_exhaust_l4 c1) (by decide)
  obtain rfl := Option.some.inj h
  exact F_M27
theorem frX2_sticks_l9_n : ∀ (n : Nat) (y1 : Int32) (M : tM) (w : (tM)), fX2_sticks_l9 n y1 M = some w → Fr [601] M w := by
  intro n
  induction n with
  | zero => intro y1 M w h; cases h
  | succ n ih =>
    intro y1 M w h
    have F_M : Fr [601] M M := Fr.refl
    rw [fX2_sticks_l9] at h
    rcases ite_some h with ⟨_, h⟩ | ⟨_, h⟩
    · obtain rfl := Option.some.inj h
      exact F_M
    · replace h := chk_some h
      obtain ⟨_, h⟩ := h
      replace h := chk_some h
      obtain ⟨_, h⟩ := h
      replace h := chk_some h
      obtain ⟨_, h⟩ := h
      replace h := bnd_some h
      obtain ⟨M7, e1, h⟩ := h
      have F_M7 : Fr [601] M M7 := by rw [e1]; exact Fr.wI F_M (by decide)
      replace h := bnd_some h
      obtain ⟨x8, e2, h⟩ := h
      exact Fr.trans F_M7 (ih _ _ _ h)
theorem frX2_sticks_l9 {n : Nat} {y1 : Int32} {M : tM} {w : (tM)} (h : fX2_sticks_l9 n y1 M = some w) : Fr [601] M w := frX2_sticks_l9_n n y1 M w h
theorem frX2_sticks {M : tM} {w : (Int32 × tM)} (h : fX2_sticks M = some w) : Fr [601, 602, 603, 604, 605, 60006, 60007, 60008] M w.2 := by
  have F_M : Fr [601, 602, 603, 604, 605, 60006, 60007, 60008] M M := Fr.refl
  unfold fX2_sticks at h
  replace h := obind_some h
  obtain ⟨M2, c1, h⟩ := h
  have F_M2 : Fr [601, 602, 603, 604, 605, 60006, 60007, 60008] M M2 := Fr.step F_M (frX5_begin c1) (by decide)
  replace h := obind_some h
  obtain ⟨M11, c2, h⟩ := h
  have F_M11 : Fr [601, 602, 603, 604, 605, 60006, 60007, 60008] M M11 := Fr.step F_M2 (frX2_sticks_l9 c2) (by decide)
  replace h := obind_some h
  obtain ⟨M13, c3, h⟩ := h
  have F_M13 : Fr [601, 602, 603, 604, 605, 60006, 60007, 60008] M M13 := Fr.step F_M11 (frX5_exhaust c3) (by decide)
  rcases ite_some h with ⟨_, h⟩ | ⟨_, h⟩
  · obtain rfl := Option.some.inj h
    exact F_M13
  · obtain rfl := Option.some.inj h
    exact F_M13
theorem frX2_isStuck {M : tM} {w : (Int32 × tM)} (h : fX2_isStuck M = some w) : Fr [302, 601, 602, 603, 604, 605, 30003, 30004, 60006, 60007, 60008] M w.2 := by
  have F_M : Fr [302, 601, 602, 603, 604, 605, 30003, 30004, 60006, 60007, 60008] M M := Fr.refl
  unfold fX2_isStuck at h
  rcases ite_some h with ⟨_, h⟩ | ⟨_, h⟩
  · replace h := obind_some h
    obtain ⟨M5, c1, h⟩ := h
    have F_M5 : Fr [302, 601, 602, 603, 604, 605, 30003, 30004, 60006, 60007, 60008] M M5 := Fr.step F_M (frJ7_fill_53178 c1) (by simp)
    replace h := obind_some h
    obtain ⟨w3, c2, h⟩ := h
    obtain ⟨x6, M8⟩ := w3
    dsimp only at h
    have F_M8 : Fr [302, 601, 602, 603, 604, 605, 30003, 30004, 60006, 60007, 60008] M M8 := Fr.step F_M5 (frX2_sticks c2) (by decide)
    replace h := chk_some h
    obtain ⟨_, h⟩ := h
    replace h := bnd_some h
    obtain ⟨M10, e4, h⟩ := h
    have F_M10 : Fr [302, 601, 602, 603, 604, 605, 30003, 30004, 60006, 60007, 60008] M M10 := by rw [e4]; exact Fr.wIo F_M8 (by decide)
    replace h := bnd_some h
    obtain ⟨M11, e5, h⟩ := h
    have F_M11 : Fr [302, 601, 602, 603, 604, 605, 30003, 30004, 60006, 60007, 60008] M M11 := by rw [e5]; exact Fr.wIo F_M10 (by decide)
    replace h := bnd_some h
    obtain ⟨x12, e6, h⟩ := h
    replace h := chk_some h
    obtain ⟨_, h⟩ := h
    obtain rfl := Option.some.inj h
    exact F_M11
  · replace h := bnd_some h
    obtain ⟨x2, e7, h⟩ := h
    replace h := chk_some h
    obtain ⟨_, h⟩ := h
    obtain rfl := Option.some.inj h
    exact F_M
theorem frX2_fill_l62_n {z1 : Int32} {z3 : Int32} : ∀ (n : Nat) (y4 : (Option Nat)) (M : tM) (w : (tM)), fX2_fill_l62 z1 z3 n y4 M = some w → Fr [302, 601] M w := by
  intro n
  induction n with
  | zero => intro y4 M w h; cases h
  | succ n ih =>
    intro y4 M w h
    have F_M : Fr [302, 601] M M := Fr.refl
    rw [fX2_fill_l62] at h
    rcases ite_some h with ⟨_, h⟩ | ⟨_, h⟩
    · obtain rfl := Option.some.inj h
      exact F_M
    · replace h := obind_some h
      obtain ⟨i15, c1, h⟩ := h
      replace h := obind_some h
      obtain ⟨x16, c2, h⟩ := h
      replace h := chk_some h
      obtain ⟨_, h⟩ := h
      replace h := obind_some h
      obtain ⟨x19, c3, h⟩ := h
      replace h := bnd_some h
      obtain ⟨x21, e4, h⟩ := h
      replace h := chk_some h
      obtain ⟨_, h⟩ := h
      replace h := chk_some h
      obtain ⟨_, h⟩ := h
      replace h := bnd_some h
      obtain ⟨M24, e5, h⟩ := h
      have F_M24 : Fr [302, 601] M M24 := by rw [e5]; exact Fr.wI F_M (by decide)
      replace h := bnd_some h
      obtain ⟨x25, e6, h⟩ := h
      replace h := chk_some h
      obtain ⟨_, h⟩ := h
      replace h := chk_some h
      obtain ⟨_, h⟩ := h
      replace h := bnd_some h
      obtain ⟨M28, e7, h⟩ := h
      have F_M28 : Fr [302, 601] M M28 := by rw [e7]; exact Fr.wI F_M24 (by decide)
      replace h := bnd_some h
      obtain ⟨r29, e8, h⟩ := h
      exact Fr.trans F_M28 (ih _ _ _ h)
theorem frX2_fill_l62 {z1 : Int32} {z3 : Int32} {n : Nat} {y4 : (Option Nat)} {M : tM} {w : (tM)} (h : fX2_fill_l62 z1 z3 n y4 M = some w) : Fr [302, 601] M w := frX2_fill_l62_n n y4 M w h
theorem frX2_fill_l16_n : ∀ (n : Nat) (y1 : Int32) (M : tM) (w : ((tM) ⊕ (tM))), fX2_fill_l16 n y1 M = some w → Fr [302, 601, 602, 603, 604, 605, 60006, 60007, 60008] M (Sum.elim (fun q => q) (fun q => q) w) := by
  intro n
  induction n with
  | zero => intro y1 M w h; cases h
  | succ n ih =>
    intro y1 M w h
    have F_M : Fr [302, 601, 602, 603, 604, 605, 60006, 60007, 60008] M M := Fr.refl
    rw [fX2_fill_l16] at h
    rcases ite_some h with ⟨_, h⟩ | ⟨_, h⟩
    · obtain rfl := Option.some.inj h
      exact F_M
    · rcases ite_some h with ⟨_, h⟩ | ⟨_, h⟩
      · obtain rfl := Option.some.inj h
        exact F_M
      · replace h := obind_some h
        obtain ⟨r7, c1, h⟩ := h
        rcases ite_some h with ⟨_, h⟩ | ⟨_, h⟩
        · obtain rfl := Option.some.inj h
          exact F_M
        · replace h := obind_some h
          obtain ⟨i10, c2, h⟩ := h
          replace h := chk_some h
          obtain ⟨_, h⟩ := h
          replace h := bnd_some h
          obtain ⟨x12, e3, h⟩ := h
          replace h := bnd_some h
          obtain ⟨r13, e4, h⟩ := h
          replace h := obind_some h
          obtain ⟨M32, c5, h⟩ := h
          have F_M32 : Fr [302, 601, 602, 603, 604, 605, 60006, 60007, 60008] M M32 := Fr.step F_M (frX2_fill_l62 c5) (by decide)
          replace h := obind_some h
          obtain ⟨M34, c6, h⟩ := h
          have F_M34 : Fr [302, 601, 602, 603, 604, 605, 60006, 60007, 60008] M M34 := Fr.step F_M32 (frX5_exhaust c6) (by decide)
          replace h := bnd_some h
          obtain ⟨x35, e7, h⟩ := h
          exact Fr.trans F_M34 (ih _ _ _ h)
theorem frX2_fill_l16 {n : Nat} {y1 : Int32} {M : tM} {w : ((tM) ⊕ (tM))} (h : fX2_fill_l16 n y1 M = some w) : Fr [302, 601, 602, 603, 604, 605, 60006, 60007, 60008] M (Sum.elim (fun q => q) (fun q => q) w) := frX2_fill_l16_n n y1 M w h
theorem frX2_fill {M : tM} {w : (tM)} (h : fX2_fill M = some w) : Fr [302, 601, 602, 603, 604, 605, 60006, 60007, 60008] M w := by
  have F_M : Fr [302, 601, 602, 603, 604, 605, 60006, 60007, 60008] M M := Fr.refl
  unfold fX2_fill at h
  replace h := obind_some h
  obtain ⟨M2, c1, h⟩ := h
  have F_M2 : Fr [302, 601, 602, 603, 604, 605, 60006, 60007, 60008] M M2 := Fr.step F_M (frX5_begin c1) (by decide)
  replace h := obind_some h
  obtain ⟨M4, c2, h⟩ := h
  have F_M4 : Fr [302, 601, 602, 603, 604, 605, 60006, 60007, 60008] M M4 := Fr.step F_M2 (frX5_exhaust c2) (by decide)
  replace h := obind_some h
  obtain ⟨w4, c3, h⟩ := h
  have F_w := Fr.step F_M4 (frX2_fill_l16 c3) (ks2 := [302, 601, 602, 603, 604, 605, 60006, 60007, 60008]) (by decide)
  rcases w4 with q39 | v0
  · dsimp only at h
    obtain rfl := Option.some.inj h
    exact F_w
  · dsimp only at h
    obtain ⟨M38, hq⟩ : ∃ q, q = v0 := ⟨_, rfl⟩
    rw [← hq] at h
    have F_M38 : Fr [302, 601, 602, 603, 604, 605, 60006, 60007, 60008] M M38 := by rw [hq]; exact F_w
    obtain rfl := Option.some.inj h
    exact F_M38
theorem frX2_lessen_l12_n {z1 : Int32} : ∀ (n : Nat) (y2 : Int32) (y3 : Int32) (y4 : Int32) (M : tM) (w : (Int32 × tM)), fX2_lessen_l12 z1 n y2 y3 y4 M = some w → Fr [302, 601, 602, 603, 604, 605, 60006, 60007, 60008] M w.2 := by
  intro n
  induction n with
  | zero => intro y2 y3 y4 M w h; cases h
  | succ n ih =>
    intro y2 y3 y4 M w h
    have F_M : Fr [302, 601, 602, 603, 604, 605, 60006, 60007, 60008] M M := Fr.refl
    rw [fX2_lessen_l12] at h
    rcases ite_some h with ⟨_, h⟩ | ⟨_, h⟩
    · obtain rfl := Option.some.inj h
      exact F_M
    · rcases ite_some h with ⟨_, h⟩ | ⟨_, h⟩
      · obtain rfl := Option.some.inj h
        exact F_M
      · replace h := chk_some h
        obtain ⟨_, h⟩ := h
        replace h := chk_some h
        obtain ⟨_, h⟩ := h
        replace h := bnd_some h
        obtain ⟨M7, e1, h⟩ := h
        have F_M7 : Fr [302, 601, 602, 603, 604, 605, 60006, 60007, 60008] M M7 := by rw [e1]; exact Fr.wI F_M (by decide)
        replace h := obind_some h
        obtain ⟨w3, c2, h⟩ := h
        obtain ⟨x8, M10⟩ := w3
        dsimp only at h
        have F_M10 : Fr [302, 601, 602, 603, 604, 605, 60006, 60007, 60008] M M10 := Fr.step F_M7 (frX2_sticks c2) (by decide)
        replace h := obind_some h
        obtain ⟨w5, b4, h⟩ := h
        obtain ⟨x12, x13⟩ := w5
        dsimp only at h
        replace h := bnd_some h
        obtain ⟨x16, e6, h⟩ := h
        exact Fr.trans F_M10 (ih _ _ _ _ _ h)
theorem frX2_lessen_l12 {z1 : Int32} {n : Nat} {y2 : Int32} {y3 : Int32} {y4 : Int32} {M : tM} {w : (Int32 × tM)} (h : fX2_lessen_l12 z1 n y2 y3 y4 M = some w) : Fr [302, 601, 602, 603, 604, 605, 60006, 60007, 60008] M w.2 := frX2_lessen_l12_n n y2 y3 y4 M w h
theorem frX2_lessen {a1 : Int32} {M : tM} {w : (tM)} (h : fX2_lessen a1 M = some w) : Fr [302, 601, 602, 603, 604, 605, 60006, 60007, 60008] M w := by
  have F_M : Fr [302, 601, 602, 603, 604, 605, 60006, 60007, 60008] M M := Fr.refl
  unfold fX2_lessen at h
  replace h := chk_some h
  obtain ⟨_, h⟩ := h
  replace h := bnd_some h
  obtain ⟨x2, e1, h⟩ := h
  replace h := obind_some h
  obtain ⟨w3, c2, h⟩ := h
  obtain ⟨x19, M20⟩ := w3
  dsimp only at h
  have F_M20 : Fr [302, 601, 602, 603, 604, 605, 60006, 60007, 60008] M M20 := Fr.step F_M (frX2_lessen_l12 c2) (by decide)
  replace h := chk_some h
  obtain ⟨_, h⟩ := h
  replace h := bnd_some h
  obtain ⟨M22, e4, h⟩ := h
  have F_M22 : Fr [302, 601, 602, 603, 604, 605, 60006, 60007, 60008] M M22 := by rw [e4]; exact Fr.wI F_M20 (by decide)
  obtain rfl := Option.some.inj h
  exact F_M22
theorem frX2_moreOn_l20_n {z1 : Int32} : ∀ (n : Nat) (y2 : Int32) (M : tM) (w : (tM)), fX2_moreOn_l20 z1 n y2 M = some w → Fr [302, 601, 602, 603, 604, 605, 60006, 60007, 60008] M w := by
  intro n
  induction n with
  | zero => intro y2 M w h; cases h
  | succ n ih =>
    intro y2 M w h
    have F_M : Fr [302, 601, 602, 603, 604, 605, 60006, 60007, 60008] M M := Fr.refl
    rw [fX2_moreOn_l20] at h
    rcases ite_some h with ⟨_, h⟩ | ⟨_, h⟩
    · obtain rfl := Option.some.inj h
      exact F_M
    · replace h := obind_some h
      obtain ⟨M10, c1, h⟩ := h
      have F_M10 : Fr [302, 601, 602, 603, 604, 605, 60006, 60007, 60008] M M10 := Fr.step F_M (frX2_lessen c1) (by decide)
      replace h := bnd_some h
      obtain ⟨x11, e2, h⟩ := h
      exact Fr.trans F_M10 (ih _ _ _ h)
theorem frX2_moreOn_l20 {z1 : Int32} {n : Nat} {y2 : Int32} {M : tM} {w : (tM)} (h : fX2_moreOn_l20 z1 n y2 M = some w) : Fr [302, 601, 602, 603, 604, 605, 60006, 60007, 60008] M w := frX2_moreOn_l20_n n y2 M w h
theorem frX2_moreOn {a1 : Int32} {M : tM} {w : (Int32 × tM)} (h : fX2_moreOn a1 M = some w) : Fr [302, 601, 602, 603, 604, 605, 30003, 30004, 30005, 60006, 60007, 60008] M w.2 := by
  have F_M : Fr [302, 601, 602, 603, 604, 605, 30003, 30004, 30005, 60006, 60007, 60008] M M := Fr.refl
  unfold fX2_moreOn at h
  replace h := obind_some h
  obtain ⟨w2, c1, h⟩ := h
  obtain ⟨x1, M3⟩ := w2
  dsimp only at h
  have F_M3 : Fr [302, 601, 602, 603, 604, 605, 30003, 30004, 30005, 60006, 60007, 60008] M M3 := Fr.step F_M (frX2_isStuck c1) (by decide)
  replace h := obind_some h
  obtain ⟨w4, b3, h⟩ := h
  have G_w4 : Fr [302, 601, 602, 603, 604, 605, 30003, 30004, 30005, 60006, 60007, 60008] M w4 := by
    clear h
    replace h := b3
    clear b3
    rcases ite_some h with ⟨_, h⟩ | ⟨_, h⟩
    · obtain rfl := Option.some.inj h
      exact F_M3
    · rcases ite_some h with ⟨_, h⟩ | ⟨_, h⟩
      · replace h := obind_some h
        obtain ⟨M7, c5, h⟩ := h
        have F_M7 : Fr [302, 601, 602, 603, 604, 605, 30003, 30004, 30005, 60006, 60007, 60008] M M7 := Fr.step F_M3 (frX2_fill c5) (by decide)
        replace h := obind_some h
        obtain ⟨M14, c6, h⟩ := h
        have F_M14 : Fr [302, 601, 602, 603, 604, 605, 30003, 30004, 30005, 60006, 60007, 60008] M M14 := Fr.step F_M7 (frX2_moreOn_l20 c6) (by decide)
        replace h := bnd_some h
        obtain ⟨M15, e7, h⟩ := h
        have F_M15 : Fr [302, 601, 602, 603, 604, 605, 30003, 30004, 30005, 60006, 60007, 60008] M M15 := by rw [e7]; exact Fr.wIo F_M14 (by decide)
        obtain rfl := Option.some.inj h
        exact F_M15
      · obtain rfl := Option.some.inj h
        exact F_M3
  have F_w4 := G_w4
  obtain ⟨M5, hq⟩ : ∃ q, q = w4 := ⟨_, rfl⟩
  rw [← hq] at h
  have F_M5 : Fr [302, 601, 602, 603, 604, 605, 30003, 30004, 30005, 60006, 60007, 60008] M M5 := by rw [hq]; exact F_w4
  clear hq
  replace h := chk_some h
  obtain ⟨_, h⟩ := h
  obtain rfl := Option.some.inj h
  exact F_M5
theorem frX3_keepStores_l5_n {z2 : Int32} : ∀ (n : Nat) (y3 : (Option Nat)) (M : tM) (w : (tM)), fX3_keepStores_l5 z2 n y3 M = some w → Fr [405] M w := by
  intro n
  induction n with
  | zero => intro y3 M w h; cases h
  | succ n ih =>
    intro y3 M w h
    have F_M : Fr [405] M M := Fr.refl
    rw [fX3_keepStores_l5] at h
    rcases ite_some h with ⟨_, h⟩ | ⟨_, h⟩
    · obtain rfl := Option.some.inj h
      exact F_M
    · replace h := obind_some h
      obtain ⟨i4, c1, h⟩ := h
      replace h := chk_some h
      obtain ⟨_, h⟩ := h
      replace h := chk_some h
      obtain ⟨_, h⟩ := h
      replace h := bnd_some h
      obtain ⟨M7, e2, h⟩ := h
      have F_M7 : Fr [405] M M7 := by rw [e2]; exact Fr.wI F_M (by decide)
      replace h := bnd_some h
      obtain ⟨r8, e3, h⟩ := h
      exact Fr.trans F_M7 (ih _ _ _ h)
theorem frX3_keepStores_l5 {z2 : Int32} {n : Nat} {y3 : (Option Nat)} {M : tM} {w : (tM)} (h : fX3_keepStores_l5 z2 n y3 M = some w) : Fr [405] M w := frX3_keepStores_l5_n n y3 M w h
theorem frX3_keepStores {a1 : Option Nat} {a2 : Int32} {M : tM} {w : (tM)} (h : fX3_keepStores a1 a2 M = some w) : Fr [405] M w := by
  have F_M : Fr [405] M M := Fr.refl
  unfold fX3_keepStores at h
  replace h := obind_some h
  obtain ⟨i1, c1, h⟩ := h
  replace h := bnd_some h
  obtain ⟨r2, e2, h⟩ := h
  replace h := obind_some h
  obtain ⟨M11, c3, h⟩ := h
  have F_M11 : Fr [405] M M11 := Fr.step F_M (frX3_keepStores_l5 c3) (by decide)
  obtain rfl := Option.some.inj h
  exact F_M11
theorem frX5_stepBack_l19_n {z1 : Nat} {z2 : Int32} : ∀ (n : Nat) (y3 : (Option Nat)) (M : tM) (w : (tM)), fX5_stepBack_l19 z1 z2 n y3 M = some w → Fr [601] M w := by
  intro n
  induction n with
  | zero => intro y3 M w h; cases h
  | succ n ih =>
    intro y3 M w h
    have F_M : Fr [601] M M := Fr.refl
    rw [fX5_stepBack_l19] at h
    rcases ite_some h with ⟨_, h⟩ | ⟨_, h⟩
    · obtain rfl := Option.some.inj h
      exact F_M
    · replace h := obind_some h
      obtain ⟨i7, c1, h⟩ := h
      replace h := bnd_some h
      obtain ⟨x8, e2, h⟩ := h
      replace h := chk_some h
      obtain ⟨_, h⟩ := h
      replace h := obind_some h
      obtain ⟨x10, c3, h⟩ := h
      replace h := chk_some h
      obtain ⟨_, h⟩ := h
      replace h := bnd_some h
      obtain ⟨M13, e4, h⟩ := h
      have F_M13 : Fr [601] M M13 := by rw [e4]; exact Fr.wI F_M (by decide)
      replace h := bnd_some h
      obtain ⟨r14, e5, h⟩ := h
      exact Fr.trans F_M13 (ih _ _ _ h)
theorem frX5_stepBack_l19 {z1 : Nat} {z2 : Int32} {n : Nat} {y3 : (Option Nat)} {M : tM} {w : (tM)} (h : fX5_stepBack_l19 z1 z2 n y3 M = some w) : Fr [601] M w := frX5_stepBack_l19_n n y3 M w h
theorem frX5_stepBack_l53_n {z1 : Nat} {z2 : Int32} : ∀ (n : Nat) (y3 : (Option Nat)) (M : tM) (w : (tM)), fX5_stepBack_l53 z1 z2 n y3 M = some w → Fr [601] M w := by
  intro n
  induction n with
  | zero => intro y3 M w h; cases h
  | succ n ih =>
    intro y3 M w h
    have F_M : Fr [601] M M := Fr.refl
    rw [fX5_stepBack_l53] at h
    rcases ite_some h with ⟨_, h⟩ | ⟨_, h⟩
    · obtain rfl := Option.some.inj h
      exact F_M
    · replace h := obind_some h
      obtain ⟨i20, c1, h⟩ := h
      replace h := bnd_some h
      obtain ⟨x21, e2, h⟩ := h
      replace h := chk_some h
      obtain ⟨_, h⟩ := h
      replace h := obind_some h
      obtain ⟨x23, c3, h⟩ := h
      replace h := chk_some h
      obtain ⟨_, h⟩ := h
      replace h := bnd_some h
      obtain ⟨M26, e4, h⟩ := h
      have F_M26 : Fr [601] M M26 := by rw [e4]; exact Fr.wI F_M (by decide)
      replace h := bnd_some h
      obtain ⟨r27, e5, h⟩ := h
      exact Fr.trans F_M26 (ih _ _ _ h)
theorem frX5_stepBack_l53 {z1 : Nat} {z2 : Int32} {n : Nat} {y3 : (Option Nat)} {M : tM} {w : (tM)} (h : fX5_stepBack_l53 z1 z2 n y3 M = some w) : Fr [601] M w := frX5_stepBack_l53_n n y3 M w h
theorem frX5_stepBack {a1 : Option Nat} {M : tM} {w : (tM)} (h : fX5_stepBack a1 M = some w) : Fr [601, 603, 604, 60006, 60008] M w := by
  have F_M : Fr [601, 603, 604, 60006, 60008] M M := Fr.refl
  unfold fX5_stepBack at h
  replace h := obind_some h
  obtain ⟨i1, c1, h⟩ := h
  replace h := chk_some h
  obtain ⟨_, h⟩ := h
  replace h := obind_some h
  obtain ⟨x3, c2, h⟩ := h
  replace h := bnd_some h
  obtain ⟨r5, e3, h⟩ := h
  replace h := obind_some h
  obtain ⟨M17, c4, h⟩ := h
  have F_M17 : Fr [601, 603, 604, 60006, 60008] M M17 := Fr.step F_M (frX5_stepBack_l19 c4) (by decide)
  replace h := bnd_some h
  obtain ⟨r18, e5, h⟩ := h
  replace h := obind_some h
  obtain ⟨M30, c6, h⟩ := h
  have F_M30 : Fr [601, 603, 604, 60006, 60008] M M30 := Fr.step F_M17 (frX5_stepBack_l53 c6) (by decide)
  replace h := chk_some h
  obtain ⟨_, h⟩ := h
  replace h := bnd_some h
  obtain ⟨M32, e7, h⟩ := h
  have F_M32 : Fr [601, 603, 604, 60006, 60008] M M32 := by rw [e7]; exact Fr.wI F_M30 (by decide)
  replace h := bnd_some h
  obtain ⟨x33, e8, h⟩ := h
  replace h := chk_some h
  obtain ⟨_, h⟩ := h
  replace h := chk_some h
  obtain ⟨_, h⟩ := h
  replace h := bnd_some h
  obtain ⟨M36, e9, h⟩ := h
  have F_M36 : Fr [601, 603, 604, 60006, 60008] M M36 := by rw [e9]; exact Fr.wI F_M32 (by decide)
  replace h := bnd_some h
  obtain ⟨M37, e10, h⟩ := h
  have F_M37 : Fr [601, 603, 604, 60006, 60008] M M37 := by rw [e10]; exact Fr.wIo F_M36 (by decide)
  replace h := bnd_some h
  obtain ⟨M38, e11, h⟩ := h
  have F_M38 : Fr [601, 603, 604, 60006, 60008] M M38 := by rw [e11]; exact Fr.wIo F_M37 (by decide)
  obtain rfl := Option.some.inj h
  exact F_M38
theorem frX3_giveStoresBack_l5_n {z2 : Int32} : ∀ (n : Nat) (y3 : (Option Nat)) (M : tM) (w : (tM)), fX3_giveStoresBack_l5 z2 n y3 M = some w → Fr [602] M w := by
  intro n
  induction n with
  | zero => intro y3 M w h; cases h
  | succ n ih =>
    intro y3 M w h
    have F_M : Fr [602] M M := Fr.refl
    rw [fX3_giveStoresBack_l5] at h
    rcases ite_some h with ⟨_, h⟩ | ⟨_, h⟩
    · obtain rfl := Option.some.inj h
      exact F_M
    · replace h := obind_some h
      obtain ⟨i4, c1, h⟩ := h
      replace h := chk_some h
      obtain ⟨_, h⟩ := h
      replace h := chk_some h
      obtain ⟨_, h⟩ := h
      replace h := bnd_some h
      obtain ⟨M7, e2, h⟩ := h
      have F_M7 : Fr [602] M M7 := by rw [e2]; exact Fr.wI F_M (by decide)
      replace h := bnd_some h
      obtain ⟨r8, e3, h⟩ := h
      exact Fr.trans F_M7 (ih _ _ _ h)
theorem frX3_giveStoresBack_l5 {z2 : Int32} {n : Nat} {y3 : (Option Nat)} {M : tM} {w : (tM)} (h : fX3_giveStoresBack_l5 z2 n y3 M = some w) : Fr [602] M w := frX3_giveStoresBack_l5_n n y3 M w h
theorem frX3_giveStoresBack {a1 : Option Nat} {a2 : Int32} {M : tM} {w : (tM)} (h : fX3_giveStoresBack a1 a2 M = some w) : Fr [602] M w := by
  have F_M : Fr [602] M M := Fr.refl
  unfold fX3_giveStoresBack at h
  replace h := obind_some h
  obtain ⟨i1, c1, h⟩ := h
  replace h := bnd_some h
  obtain ⟨r2, e2, h⟩ := h
  replace h := obind_some h
  obtain ⟨M11, c3, h⟩ := h
  have F_M11 : Fr [602] M M11 := Fr.step F_M (frX3_giveStoresBack_l5 c3) (by decide)
  obtain rfl := Option.some.inj h
  exact F_M11
theorem frX4_toFirst {i : Nat} {M : tM} {w : (tM)} (h : fX4_toFirst i M = some w) : Fr [507, 50008, 50009, 50011] M w := by
  have F_M : Fr [507, 50008, 50009, 50011] M M := Fr.refl
  unfold fX4_toFirst at h
  replace h := bnd_some h
  obtain ⟨M1, e1, h⟩ := h
  have F_M1 : Fr [507, 50008, 50009, 50011] M M1 := by rw [e1]; exact Fr.wIo F_M (by decide)
  replace h := bnd_some h
  obtain ⟨M2, e2, h⟩ := h
  have F_M2 : Fr [507, 50008, 50009, 50011] M M2 := by rw [e2]; exact Fr.wIo F_M1 (by decide)
  replace h := bnd_some h
  obtain ⟨M3, e3, h⟩ := h
  have F_M3 : Fr [507, 50008, 50009, 50011] M M3 := by rw [e3]; exact Fr.wIo F_M2 (by decide)
  replace h := chk_some h
  obtain ⟨_, h⟩ := h
  replace h := bnd_some h
  obtain ⟨M5, e4, h⟩ := h
  have F_M5 : Fr [507, 50008, 50009, 50011] M M5 := by rw [e4]; exact Fr.vL F_M3 (by decide)
  obtain rfl := Option.some.inj h
  exact F_M5
theorem frX4_drop {i : Nat} {a1 : Int32} {M : tM} {w : (tM)} (h : fX4_drop i a1 M = some w) : Fr [50008, 50009] M w := by
  have F_M : Fr [50008, 50009] M M := Fr.refl
  unfold fX4_drop at h
  replace h := obind_some h
  obtain ⟨x1, c1, h⟩ := h
  replace h := obind_some h
  obtain ⟨x3, c2, h⟩ := h
  replace h := chk_some h
  obtain ⟨_, h⟩ := h
  replace h := bnd_some h
  obtain ⟨M6, e3, h⟩ := h
  have F_M6 : Fr [50008, 50009] M M6 := by rw [e3]; exact Fr.wIo F_M (by decide)
  replace h := bnd_some h
  obtain ⟨M7, e4, h⟩ := h
  have F_M7 : Fr [50008, 50009] M M7 := by rw [e4]; exact Fr.wIo F_M6 (by decide)
  obtain rfl := Option.some.inj h
  exact F_M7
theorem frX4_put {i : Nat} {a1 : Int64} {M : tM} {w : (tM)} (h : fX4_put i a1 M = some w) : Fr [507, 510, 50009, 50011] M w := by
  have F_M : Fr [507, 510, 50009, 50011] M M := Fr.refl
  unfold fX4_put at h
  rcases ite_some h with ⟨_, h⟩ | ⟨_, h⟩
  · replace h := chk_some h
    obtain ⟨_, h⟩ := h
    replace h := chk_some h
    obtain ⟨_, h⟩ := h
    replace h := bnd_some h
    obtain ⟨M4, e1, h⟩ := h
    have F_M4 : Fr [507, 510, 50009, 50011] M M4 := by rw [e1]; exact Fr.wL F_M (by decide)
    replace h := bnd_some h
    obtain ⟨M5, e2, h⟩ := h
    have F_M5 : Fr [507, 510, 50009, 50011] M M5 := by rw [e2]; exact Fr.wIo F_M4 (by decide)
    rcases ite_some h with ⟨_, h⟩ | ⟨_, h⟩
    · obtain rfl := Option.some.inj h
      exact F_M5
    · replace h := chk_some h
      obtain ⟨_, h⟩ := h
      replace h := bnd_some h
      obtain ⟨M8, e3, h⟩ := h
      have F_M8 : Fr [507, 510, 50009, 50011] M M8 := by rw [e3]; exact Fr.wL F_M5 (by decide)
      replace h := bnd_some h
      obtain ⟨M9, e4, h⟩ := h
      have F_M9 : Fr [507, 510, 50009, 50011] M M9 := by rw [e4]; exact Fr.wIo F_M8 (by decide)
      obtain rfl := Option.some.inj h
      exact F_M9
  · obtain rfl := Option.some.inj h
    exact F_M
theorem frX6_drop {M : tM} {w : (tM)} (h : fX6_drop M = some w) : Fr [70007] M w := by
  have F_M : Fr [70007] M M := Fr.refl
  unfold fX6_drop at h
  replace h := bnd_some h
  obtain ⟨M1, e1, h⟩ := h
  have F_M1 : Fr [70007] M M1 := by rw [e1]; exact Fr.wIo F_M (by decide)
  obtain rfl := Option.some.inj h
  exact F_M1
theorem frX6_putInOrder_l11_n : ∀ (n : Nat) (y1 : Int32) (M : tM) (w : ((Int32 × tM) ⊕ (tM))), fX6_putInOrder_l11 n y1 M = some w → Fr [701, 702] M (Sum.elim (fun q => q.2) (fun q => q) w) := by
  intro n
  induction n with
  | zero => intro y1 M w h; cases h
  | succ n ih =>
    intro y1 M w h
    have F_M : Fr [701, 702] M M := Fr.refl
    rw [fX6_putInOrder_l11] at h
    rcases ite_some h with ⟨_, h⟩ | ⟨_, h⟩
    · obtain rfl := Option.some.inj h
      exact F_M
    · replace h := obind_some h
      obtain ⟨x4, c1, h⟩ := h
      rcases ite_some h with ⟨_, h⟩ | ⟨_, h⟩
      · replace h := chk_some h
        obtain ⟨_, h⟩ := h
        replace h := bnd_some h
        obtain ⟨M8, e2, h⟩ := h
        have F_M8 : Fr [701, 702] M M8 := by rw [e2]; exact Fr.wI F_M (by decide)
        replace h := chk_some h
        obtain ⟨_, h⟩ := h
        replace h := bnd_some h
        obtain ⟨M10, e3, h⟩ := h
        have F_M10 : Fr [701, 702] M M10 := by rw [e3]; exact Fr.wI F_M8 (by decide)
        replace h := bnd_some h
        obtain ⟨x11, e4, h⟩ := h
        exact Fr.trans F_M10 (ih _ _ _ h)
      · obtain rfl := Option.some.inj h
        exact F_M
theorem frX6_putInOrder_l11 {n : Nat} {y1 : Int32} {M : tM} {w : ((Int32 × tM) ⊕ (tM))} (h : fX6_putInOrder_l11 n y1 M = some w) : Fr [701, 702] M (Sum.elim (fun q => q.2) (fun q => q) w) := frX6_putInOrder_l11_n n y1 M w h
theorem frX6_putInOrder {M : tM} {w : (Int32 × tM)} (h : fX6_putInOrder M = some w) : Fr [701, 702] M w.2 := by
  have F_M : Fr [701, 702] M M := Fr.refl
  unfold fX6_putInOrder at h
  replace h := obind_some h
  obtain ⟨M2, c1, h⟩ := h
  have F_M2 : Fr [701, 702] M M2 := Fr.step F_M (frJ7_fill_53178 c1) (by simp)
  replace h := obind_some h
  obtain ⟨w3, c2, h⟩ := h
  have F_w := Fr.step F_M2 (frX6_putInOrder_l11 c2) (ks2 := [701, 702]) (by decide)
  rcases w3 with q15 | v0
  · dsimp only at h
    obtain rfl := Option.some.inj h
    exact F_w
  · dsimp only at h
    obtain ⟨M14, hq⟩ : ∃ q, q = v0 := ⟨_, rfl⟩
    rw [← hq] at h
    have F_M14 : Fr [701, 702] M M14 := by rw [hq]; exact F_w
    obtain rfl := Option.some.inj h
    exact F_M14
theorem frX6_findDivisors_l33_n {z1 : Int32} : ∀ (n : Nat) (y2 : Int32) (y3 : Int32) (M : tM) (w : (tM)), fX6_findDivisors_l33 z1 n y2 y3 M = some w → Fr [703] M w := by
  intro n
  induction n with
  | zero => intro y2 y3 M w h; cases h
  | succ n ih =>
    intro y2 y3 M w h
    have F_M : Fr [703] M M := Fr.refl
    rw [fX6_findDivisors_l33] at h
    rcases ite_some h with ⟨_, h⟩ | ⟨_, h⟩
    · obtain rfl := Option.some.inj h
      exact F_M
    · replace h := chk_some h
      obtain ⟨_, h⟩ := h
      replace h := chk_some h
      obtain ⟨_, h⟩ := h
      replace h := bnd_some h
      obtain ⟨r10, e1, h⟩ := h
      replace h := obind_some h
      obtain ⟨i11, c2, h⟩ := h
      replace h := obind_some h
      obtain ⟨x12, c3, h⟩ := h
      replace h := bnd_some h
      obtain ⟨x14, e4, h⟩ := h
      replace h := chk_some h
      obtain ⟨_, h⟩ := h
      replace h := bnd_some h
      obtain ⟨M16, e5, h⟩ := h
      have F_M16 : Fr [703] M M16 := by rw [e5]; exact Fr.wI F_M (by decide)
      replace h := bnd_some h
      obtain ⟨x17, e6, h⟩ := h
      exact Fr.trans F_M16 (ih _ _ _ _ h)
theorem frX6_findDivisors_l33 {z1 : Int32} {n : Nat} {y2 : Int32} {y3 : Int32} {M : tM} {w : (tM)} (h : fX6_findDivisors_l33 z1 n y2 y3 M = some w) : Fr [703] M w := frX6_findDivisors_l33_n n y2 y3 M w h
theorem frX6_findDivisors_l2_n : ∀ (n : Nat) (y1 : Int32) (M : tM) (w : (tM)), fX6_findDivisors_l2 n y1 M = some w → Fr [703, 704] M w := by
  intro n
  induction n with
  | zero => intro y1 M w h; cases h
  | succ n ih =>
    intro y1 M w h
    have F_M : Fr [703, 704] M M := Fr.refl
    rw [fX6_findDivisors_l2] at h
    rcases ite_some h with ⟨_, h⟩ | ⟨_, h⟩
    · obtain rfl := Option.some.inj h
      exact F_M
    · replace h := chk_some h
      obtain ⟨_, h⟩ := h
      replace h := chk_some h
      obtain ⟨_, h⟩ := h
      replace h := bnd_some h
      obtain ⟨r4, e1, h⟩ := h
      replace h := obind_some h
      obtain ⟨i5, c2, h⟩ := h
      replace h := bnd_some h
      obtain ⟨x6, e3, h⟩ := h
      replace h := obind_some h
      obtain ⟨M20, c4, h⟩ := h
      have F_M20 : Fr [703, 704] M M20 := Fr.step F_M (frX6_findDivisors_l33 c4) (by decide)
      replace h := chk_some h
      obtain ⟨_, h⟩ := h
      replace h := bnd_some h
      obtain ⟨M22, e5, h⟩ := h
      have F_M22 : Fr [703, 704] M M22 := by rw [e5]; exact Fr.wI F_M20 (by decide)
      replace h := bnd_some h
      obtain ⟨x23, e6, h⟩ := h
      exact Fr.trans F_M22 (ih _ _ _ h)
theorem frX6_findDivisors_l2 {n : Nat} {y1 : Int32} {M : tM} {w : (tM)} (h : fX6_findDivisors_l2 n y1 M = some w) : Fr [703, 704] M w := frX6_findDivisors_l2_n n y1 M w h
theorem frX6_findDivisors {M : tM} {w : (tM)} (h : fX6_findDivisors M = some w) : Fr [703, 704] M w := by
  have F_M : Fr [703, 704] M M := Fr.refl
  unfold fX6_findDivisors at h
  replace h := obind_some h
  obtain ⟨M26, c1, h⟩ := h
  have F_M26 : Fr [703, 704] M M26 := Fr.step F_M (frX6_findDivisors_l2 c1) (by decide)
  obtain rfl := Option.some.inj h
  exact F_M26
theorem frX6_partInTwo_l18_n {z1 : Int32} {z2 : Int32} {z3 : Int32} : ∀ (n : Nat) (y4 : Int32) (M : tM) (w : (tM)), fX6_partInTwo_l18 z1 z2 z3 n y4 M = some w → Fr [704, 705] M w := by
  intro n
  induction n with
  | zero => intro y4 M w h; cases h
  | succ n ih =>
    intro y4 M w h
    have F_M : Fr [704, 705] M M := Fr.refl
    rw [fX6_partInTwo_l18] at h
    rcases ite_some h with ⟨_, h⟩ | ⟨_, h⟩
    · obtain rfl := Option.some.inj h
      exact F_M
    · replace h := chk_some h
      obtain ⟨_, h⟩ := h
      replace h := chk_some h
      obtain ⟨_, h⟩ := h
      replace h := obind_some h
      obtain ⟨x7, c1, h⟩ := h
      replace h := bnd_some h
      obtain ⟨x9, e2, h⟩ := h
      replace h := chk_some h
      obtain ⟨_, h⟩ := h
      replace h := obind_some h
      obtain ⟨w4, b3, h⟩ := h
      have G_w4 : Fr [704, 705] M w4 := by
        clear h
        replace h := b3
        clear b3
        rcases ite_some h with ⟨_, h⟩ | ⟨_, h⟩
        · obtain rfl := Option.some.inj h
          exact F_M
        · replace h := chk_some h
          obtain ⟨_, h⟩ := h
          replace h := bnd_some h
          obtain ⟨M13, e5, h⟩ := h
          have F_M13 : Fr [704, 705] M M13 := by rw [e5]; exact Fr.wI F_M (by decide)
          replace h := chk_some h
          obtain ⟨_, h⟩ := h
          replace h := bnd_some h
          obtain ⟨M15, e6, h⟩ := h
          have F_M15 : Fr [704, 705] M M15 := by rw [e6]; exact Fr.wI F_M13 (by decide)
          obtain rfl := Option.some.inj h
          exact F_M15
      have F_w4 := G_w4
      obtain ⟨M12, hq⟩ : ∃ q, q = w4 := ⟨_, rfl⟩
      rw [← hq] at h
      have F_M12 : Fr [704, 705] M M12 := by rw [hq]; exact F_w4
      clear hq
      replace h := bnd_some h
      obtain ⟨x16, e7, h⟩ := h
      exact Fr.trans F_M12 (ih _ _ _ h)
theorem frX6_partInTwo_l18 {z1 : Int32} {z2 : Int32} {z3 : Int32} {n : Nat} {y4 : Int32} {M : tM} {w : (tM)} (h : fX6_partInTwo_l18 z1 z2 z3 n y4 M = some w) : Fr [704, 705] M w := frX6_partInTwo_l18_n n y4 M w h
theorem frX6_partInTwo {a1 : Int32} {a2 : Int32} {M : tM} {w : (tM)} (h : fX6_partInTwo a1 a2 M = some w) : Fr [704, 705] M w := by
  have F_M : Fr [704, 705] M M := Fr.refl
  unfold fX6_partInTwo at h
  replace h := bnd_some h
  obtain ⟨x1, e1, h⟩ := h
  replace h := chk_some h
  obtain ⟨_, h⟩ := h
  replace h := bnd_some h
  obtain ⟨M3, e2, h⟩ := h
  have F_M3 : Fr [704, 705] M M3 := by rw [e2]; exact Fr.wI F_M (by decide)
  replace h := obind_some h
  obtain ⟨M19, c3, h⟩ := h
  have F_M19 : Fr [704, 705] M M19 := Fr.step F_M3 (frX6_partInTwo_l18 c3) (by decide)
  obtain rfl := Option.some.inj h
  exact F_M19
theorem frX6_writeItem {a1 : Int32} {M : tM} {w : (tM)} (h : fX6_writeItem a1 M = some w) : Fr [706, 70007] M w := by
  have F_M : Fr [706, 70007] M M := Fr.refl
  unfold fX6_writeItem at h
  rcases ite_some h with ⟨_, h⟩ | ⟨_, h⟩
  · obtain rfl := Option.some.inj h
    exact F_M
  · replace h := chk_some h
    obtain ⟨_, h⟩ := h
    replace h := bnd_some h
    obtain ⟨M3, e1, h⟩ := h
    have F_M3 : Fr [706, 70007] M M3 := by rw [e1]; exact Fr.wI F_M (by decide)
    replace h := bnd_some h
    obtain ⟨M4, e2, h⟩ := h
    have F_M4 : Fr [706, 70007] M M4 := by rw [e2]; exact Fr.wIo F_M3 (by decide)
    obtain rfl := Option.some.inj h
    exact F_M4
theorem frX7_toFirst {i : Nat} {M : tM} {w : (tM)} (h : fX7_toFirst i M = some w) : Fr [810, 80007, 80008] M w := by
  have F_M : Fr [810, 80007, 80008] M M := Fr.refl
  unfold fX7_toFirst at h
  replace h := bnd_some h
  obtain ⟨M1, e1, h⟩ := h
  have F_M1 : Fr [810, 80007, 80008] M M1 := by rw [e1]; exact Fr.wIo F_M (by decide)
  replace h := bnd_some h
  obtain ⟨M2, e2, h⟩ := h
  have F_M2 : Fr [810, 80007, 80008] M M2 := by rw [e2]; exact Fr.wLo F_M1 (by decide)
  replace h := bnd_some h
  obtain ⟨r3, e3, h⟩ := h
  rcases ite_some h with ⟨_, h⟩ | ⟨_, h⟩
  · obtain rfl := Option.some.inj h
    exact F_M2
  · replace h := bnd_some h
    obtain ⟨r5, e4, h⟩ := h
    rcases ite_some h with ⟨_, h⟩ | ⟨_, h⟩
    · obtain rfl := Option.some.inj h
      exact F_M2
    · replace h := bnd_some h
      obtain ⟨r7, e5, h⟩ := h
      replace h := bnd_some h
      obtain ⟨r8, e6, h⟩ := h
      replace h := bnd_some h
      obtain ⟨r9, e7, h⟩ := h
      replace h := obind_some h
      obtain ⟨i10, c8, h⟩ := h
      replace h := bnd_some h
      obtain ⟨r11, e9, h⟩ := h
      replace h := obind_some h
      obtain ⟨i12, c10, h⟩ := h
      replace h := obind_some h
      obtain ⟨x13, c11, h⟩ := h
      replace h := obind_some h
      obtain ⟨i15, c12, h⟩ := h
      replace h := obind_some h
      obtain ⟨i16, c13, h⟩ := h
      replace h := chk_some h
      obtain ⟨_, h⟩ := h
      replace h := bnd_some h
      obtain ⟨M18, e14, h⟩ := h
      have F_M18 : Fr [810, 80007, 80008] M M18 := by rw [e14]; exact Fr.vL F_M2 (by decide)
      obtain rfl := Option.some.inj h
      exact F_M18
theorem frX8_drop {M : tM} {w : (tM)} (h : fX8_drop M = some w) : Fr [90003] M w := by
  have F_M : Fr [90003] M M := Fr.refl
  unfold fX8_drop at h
  replace h := bnd_some h
  obtain ⟨M1, e1, h⟩ := h
  have F_M1 : Fr [90003] M M1 := by rw [e1]; exact Fr.wIo F_M (by decide)
  obtain rfl := Option.some.inj h
  exact F_M1
theorem frX8_beginThreads {M : tM} {w : (tM)} (h : fX8_beginThreads M = some w) : Fr [905] M w := by
  have F_M : Fr [905] M M := Fr.refl
  unfold fX8_beginThreads at h
  replace h := obind_some h
  obtain ⟨M2, c1, h⟩ := h
  have F_M2 : Fr [905] M M2 := Fr.step F_M (frJ7_fill_53178 c1) (by simp)
  obtain rfl := Option.some.inj h
  exact F_M2
theorem frX8_settle {a1 : Int32} {M : tM} {w : (Int32 × tM)} (h : fX8_settle a1 M = some w) : Fr [904, 905, 90003] M w.2 := by
  have F_M : Fr [904, 905, 90003] M M := Fr.refl
  unfold fX8_settle at h
  replace h := obind_some h
  obtain ⟨x1, c1, h⟩ := h
  replace h := bnd_some h
  obtain ⟨M3, e2, h⟩ := h
  have F_M3 : Fr [904, 905, 90003] M M3 := by rw [e2]; exact Fr.wIo F_M (by decide)
  replace h := chk_some h
  obtain ⟨_, h⟩ := h
  replace h := bnd_some h
  obtain ⟨M5, e3, h⟩ := h
  have F_M5 : Fr [904, 905, 90003] M M5 := by rw [e3]; exact Fr.vI F_M3 (by decide)
  replace h := obind_some h
  obtain ⟨M8, c4, h⟩ := h
  have F_M8 : Fr [904, 905, 90003] M M8 := Fr.step F_M5 (frX8_beginThreads c4) (by decide)
  obtain rfl := Option.some.inj h
  exact F_M8
theorem frX8_goByRule_l9_n {z1 : Int32} : ∀ (n : Nat) (y2 : Int32) (M : tM) (w : (tM)), fX8_goByRule_l9 z1 n y2 M = some w → Fr [601, 602, 603, 604, 605, 902, 60006, 60007, 60008] M w := by
  intro n
  induction n with
  | zero => intro y2 M w h; cases h
  | succ n ih =>
    intro y2 M w h
    have F_M : Fr [601, 602, 603, 604, 605, 902, 60006, 60007, 60008] M M := Fr.refl
    rw [fX8_goByRule_l9] at h
    rcases ite_some h with ⟨_, h⟩ | ⟨_, h⟩
    · obtain rfl := Option.some.inj h
      exact F_M
    · rcases ite_some h with ⟨_, h⟩ | ⟨_, h⟩
      · obtain rfl := Option.some.inj h
        exact F_M
      · replace h := obind_some h
        obtain ⟨r5, c1, h⟩ := h
        replace h := obind_some h
        obtain ⟨w3, b2, h⟩ := h
        have G_w3 : Fr [601, 602, 603, 604, 605, 902, 60006, 60007, 60008] M w3 := by
          clear h
          replace h := b2
          clear b2
          rcases ite_some h with ⟨_, h⟩ | ⟨_, h⟩
          · obtain rfl := Option.some.inj h
            exact F_M
          · replace h := obind_some h
            obtain ⟨i8, c4, h⟩ := h
            replace h := chk_some h
            obtain ⟨_, h⟩ := h
            replace h := bnd_some h
            obtain ⟨M10, e5, h⟩ := h
            have F_M10 : Fr [601, 602, 603, 604, 605, 902, 60006, 60007, 60008] M M10 := by rw [e5]; exact Fr.wI F_M (by decide)
            replace h := obind_some h
            obtain ⟨M12, c6, h⟩ := h
            have F_M12 : Fr [601, 602, 603, 604, 605, 902, 60006, 60007, 60008] M M12 := Fr.step F_M10 (frX5_step c6) (by decide)
            obtain rfl := Option.some.inj h
            exact F_M12
        have F_w3 := G_w3
        obtain ⟨M8, hq⟩ : ∃ q, q = w3 := ⟨_, rfl⟩
        rw [← hq] at h
        have F_M8 : Fr [601, 602, 603, 604, 605, 902, 60006, 60007, 60008] M M8 := by rw [hq]; exact F_w3
        clear hq
        replace h := bnd_some h
        obtain ⟨x13, e7, h⟩ := h
        exact Fr.trans F_M8 (ih _ _ _ h)
theorem frX8_goByRule_l9 {z1 : Int32} {n : Nat} {y2 : Int32} {M : tM} {w : (tM)} (h : fX8_goByRule_l9 z1 n y2 M = some w) : Fr [601, 602, 603, 604, 605, 902, 60006, 60007, 60008] M w := frX8_goByRule_l9_n n y2 M w h
