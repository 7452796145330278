theorem frX11_keepBest {M : tM} {w : (tM)} (h : fX11_keepBest M = some w) : Fr [1252, 1253] M w := by
  have F_M : Fr [1252, 1253] M M := Fr.refl
  unfold fX11_keepBest at h
  replace h := obind_some h
  obtain ⟨M8, c1, h⟩ := h
  have F_M8 : Fr [1252, 1253] M M8 := Fr.step F_M (frX11_keepBest_l2 c1) (by decide)
  replace h := obind_some h
  obtain ⟨M16, c2, h⟩ := h
  have F_M16 : Fr [1252, 1253] M M16 := Fr.step F_M8 (frX11_keepBest_l30 c2) (by decide)
  obtain rfl := Option.some.inj h
  exact F_M16
theorem frX11_least_l92_n {z1 : Int32} : ∀ (n : Nat) (y3 : Int32) (y4 : Int32) (M : tM) (w : ((Int32 × tM) ⊕ (tM))), fX11_least_l92 z1 n y3 y4 M = some w → Fr [1238, 1239, 1240, 1246, 1249, 1250, 1251, 1252, 1253, 120048] M (Sum.elim (fun q => q.2) (fun q => q) w) := by
  intro n
  induction n with
  | zero => intro y3 y4 M w h; cases h
  | succ n ih =>
    intro y3 y4 M w h
    have F_M : Fr [1238, 1239, 1240, 1246, 1249, 1250, 1251, 1252, 1253, 120048] M M := Fr.refl
    rw [fX11_least_l92] at h
    rcases ite_some h with ⟨_, h⟩ | ⟨_, h⟩
    · obtain rfl := Option.some.inj h
      exact F_M
    · replace h := chk_some h
      obtain ⟨_, h⟩ := h
      rcases ite_some h with ⟨_, h⟩ | ⟨_, h⟩
      · replace h := bnd_some h
        obtain ⟨x70, e1, h⟩ := h
        rcases ite_some h with ⟨_, h⟩ | ⟨_, h⟩
        · exact Fr.trans F_M (ih _ _ _ _ h)
        · replace h := chk_some h
          obtain ⟨_, h⟩ := h
          replace h := obind_some h
          obtain ⟨M74, c2, h⟩ := h
          have F_M74 : Fr [1238, 1239, 1240, 1246, 1249, 1250, 1251, 1252, 1253, 120048] M M74 := Fr.step F_M (frX11_unfireMark c2) (by decide)
          replace h := obind_some h
          obtain ⟨M76, c3, h⟩ := h
          have F_M76 : Fr [1238, 1239, 1240, 1246, 1249, 1250, 1251, 1252, 1253, 120048] M M76 := Fr.step F_M74 (frX11_bringStores c3) (by decide)
          exact Fr.trans F_M76 (ih _ _ _ _ h)
      · replace h := chk_some h
        obtain ⟨_, h⟩ := h
        replace h := bnd_some h
        obtain ⟨x26, e4, h⟩ := h
        replace h := chk_some h
        obtain ⟨_, h⟩ := h
        replace h := chk_some h
        obtain ⟨_, h⟩ := h
        replace h := bnd_some h
        obtain ⟨M29, e5, h⟩ := h
        have F_M29 : Fr [1238, 1239, 1240, 1246, 1249, 1250, 1251, 1252, 1253, 120048] M M29 := by rw [e5]; exact Fr.wI F_M (by decide)
        replace h := chk_some h
        obtain ⟨_, h⟩ := h
        rcases ite_some h with ⟨_, h⟩ | ⟨_, h⟩
        · exact Fr.trans F_M29 (ih _ _ _ _ h)
        · replace h := obind_some h
          obtain ⟨x32, c6, h⟩ := h
          rcases ite_some h with ⟨_, h⟩ | ⟨_, h⟩
          · exact Fr.trans F_M29 (ih _ _ _ _ h)
          · rcases ite_some h with ⟨_, h⟩ | ⟨_, h⟩
            · obtain rfl := Option.some.inj h
              exact F_M29
            · replace h := bnd_some h
              obtain ⟨M36, e7, h⟩ := h
              have F_M36 : Fr [1238, 1239, 1240, 1246, 1249, 1250, 1251, 1252, 1253, 120048] M M36 := by rw [e7]; exact Fr.wIo F_M29 (by decide)
              replace h := obind_some h
              obtain ⟨M38, c8, h⟩ := h
              have F_M38 : Fr [1238, 1239, 1240, 1246, 1249, 1250, 1251, 1252, 1253, 120048] M M38 := Fr.step F_M36 (frX11_keepStores c8) (by decide)
              replace h := chk_some h
              obtain ⟨_, h⟩ := h
              replace h := bnd_some h
              obtain ⟨M40, e9, h⟩ := h
              have F_M40 : Fr [1238, 1239, 1240, 1246, 1249, 1250, 1251, 1252, 1253, 120048] M M40 := by rw [e9]; exact Fr.wI F_M38 (by decide)
              replace h := obind_some h
              obtain ⟨M42, c10, h⟩ := h
              have F_M42 : Fr [1238, 1239, 1240, 1246, 1249, 1250, 1251, 1252, 1253, 120048] M M42 := Fr.step F_M40 (frX11_fireMark c10) (by decide)
              replace h := obind_some h
              obtain ⟨M44, c11, h⟩ := h
              have F_M44 : Fr [1238, 1239, 1240, 1246, 1249, 1250, 1251, 1252, 1253, 120048] M M44 := Fr.step F_M42 (frX11_storeMore c11) (by decide)
              replace h := obind_some h
              obtain ⟨x45, c12, h⟩ := h
              replace h := obind_some h
              obtain ⟨w14, b13, h⟩ := h
              obtain ⟨x48, hq⟩ : ∃ q, q = w14 := ⟨_, rfl⟩
              rw [← hq] at h
              clear hq
              replace h := obind_some h
              obtain ⟨w16, b15, h⟩ := h
              have G_w16 : Fr [1238, 1239, 1240, 1246, 1249, 1250, 1251, 1252, 1253, 120048] M w16.2 := by
                clear h
                replace h := b15
                clear b15
                rcases ite_some h with ⟨_, h⟩ | ⟨_, h⟩
                · obtain rfl := Option.some.inj h
                  exact F_M44
                · rcases ite_some h with ⟨_, h⟩ | ⟨_, h⟩
                  · replace h := obind_some h
                    obtain ⟨x53, c17, h⟩ := h
                    replace h := obind_some h
                    obtain ⟨M56, c18, h⟩ := h
                    have F_M56 : Fr [1238, 1239, 1240, 1246, 1249, 1250, 1251, 1252, 1253, 120048] M M56 := Fr.step F_M44 (frX11_keepBest c18) (by decide)
                    obtain rfl := Option.some.inj h
                    exact F_M56
                  · obtain rfl := Option.some.inj h
                    exact F_M44
              obtain ⟨x52, M53⟩ := w16
              dsimp only at h
              have F_M53 : Fr [1238, 1239, 1240, 1246, 1249, 1250, 1251, 1252, 1253, 120048] M M53 := G_w16
              replace h := obind_some h
              obtain ⟨w20, b19, h⟩ := h
              have G_w20 : Fr [1238, 1239, 1240, 1246, 1249, 1250, 1251, 1252, 1253, 120048] M w20.2 := by
                clear h
                replace h := b19
                clear b19
                rcases ite_some h with ⟨_, h⟩ | ⟨_, h⟩
                · replace h := obind_some h
                  obtain ⟨M59, c21, h⟩ := h
                  have F_M59 : Fr [1238, 1239, 1240, 1246, 1249, 1250, 1251, 1252, 1253, 120048] M M59 := Fr.step F_M53 (frX11_unfireMark c21) (by decide)
                  replace h := obind_some h
                  obtain ⟨M61, c22, h⟩ := h
                  have F_M61 : Fr [1238, 1239, 1240, 1246, 1249, 1250, 1251, 1252, 1253, 120048] M M61 := Fr.step F_M59 (frX11_bringStores c22) (by decide)
                  obtain rfl := Option.some.inj h
                  exact F_M61
                · rcases ite_some h with ⟨_, h⟩ | ⟨_, h⟩
                  · replace h := obind_some h
                    obtain ⟨M64, c23, h⟩ := h
                    have F_M64 : Fr [1238, 1239, 1240, 1246, 1249, 1250, 1251, 1252, 1253, 120048] M M64 := Fr.step F_M53 (frX11_unfireMark c23) (by decide)
                    replace h := obind_some h
                    obtain ⟨M66, c24, h⟩ := h
                    have F_M66 : Fr [1238, 1239, 1240, 1246, 1249, 1250, 1251, 1252, 1253, 120048] M M66 := Fr.step F_M64 (frX11_bringStores c24) (by decide)
                    obtain rfl := Option.some.inj h
                    exact F_M66
                  · replace h := bnd_some h
                    obtain ⟨x67, e25, h⟩ := h
                    replace h := chk_some h
                    obtain ⟨_, h⟩ := h
                    replace h := bnd_some h
                    obtain ⟨M69, e26, h⟩ := h
                    have F_M69 : Fr [1238, 1239, 1240, 1246, 1249, 1250, 1251, 1252, 1253, 120048] M M69 := by rw [e26]; exact Fr.wI F_M53 (by decide)
                    obtain rfl := Option.some.inj h
                    exact F_M69
              obtain ⟨x58, M59⟩ := w20
              dsimp only at h
              have F_M59 : Fr [1238, 1239, 1240, 1246, 1249, 1250, 1251, 1252, 1253, 120048] M M59 := G_w20
              exact Fr.trans F_M59 (ih _ _ _ _ h)
theorem frX11_least_l92 {z1 : Int32} {n : Nat} {y3 : Int32} {y4 : Int32} {M : tM} {w : ((Int32 × tM) ⊕ (tM))} (h : fX11_least_l92 z1 n y3 y4 M = some w) : Fr [1238, 1239, 1240, 1246, 1249, 1250, 1251, 1252, 1253, 120048] M (Sum.elim (fun q => q.2) (fun q => q) w) := frX11_least_l92_n n y3 y4 M w h
theorem frX11_least_l315_n : ∀ (n : Nat) (y5 : Int32) (M : tM) (w : (tM)), fX11_least_l315 n y5 M = some w → Fr [1245] M w := by
  intro n
  induction n with
  | zero => intro y5 M w h; cases h
  | succ n ih =>
    intro y5 M w h
    have F_M : Fr [1245] M M := Fr.refl
    rw [fX11_least_l315] at h
    rcases ite_some h with ⟨_, h⟩ | ⟨_, h⟩
    · obtain rfl := Option.some.inj h
      exact F_M
    · replace h := chk_some h
      obtain ⟨_, h⟩ := h
      replace h := chk_some h
      obtain ⟨_, h⟩ := h
      replace h := bnd_some h
      obtain ⟨M83, e1, h⟩ := h
      have F_M83 : Fr [1245] M M83 := by rw [e1]; exact Fr.wI F_M (by decide)
      replace h := bnd_some h
      obtain ⟨x84, e2, h⟩ := h
      exact Fr.trans F_M83 (ih _ _ _ h)
theorem frX11_least_l315 {n : Nat} {y5 : Int32} {M : tM} {w : (tM)} (h : fX11_least_l315 n y5 M = some w) : Fr [1245] M w := frX11_least_l315_n n y5 M w h
theorem frX11_least_l347_n : ∀ (n : Nat) (y5 : Int32) (M : tM) (w : (tM)), fX11_least_l347 n y5 M = some w → Fr [1246] M w := by
  intro n
  induction n with
  | zero => intro y5 M w h; cases h
  | succ n ih =>
    intro y5 M w h
    have F_M : Fr [1246] M M := Fr.refl
    rw [fX11_least_l347] at h
    rcases ite_some h with ⟨_, h⟩ | ⟨_, h⟩
    · obtain rfl := Option.some.inj h
      exact F_M
    · replace h := chk_some h
      obtain ⟨_, h⟩ := h
      replace h := chk_some h
      obtain ⟨_, h⟩ := h
      replace h := bnd_some h
      obtain ⟨M91, e1, h⟩ := h
      have F_M91 : Fr [1246] M M91 := by rw [e1]; exact Fr.wI F_M (by decide)
      replace h := bnd_some h
      obtain ⟨x92, e2, h⟩ := h
      exact Fr.trans F_M91 (ih _ _ _ h)
theorem frX11_least_l347 {n : Nat} {y5 : Int32} {M : tM} {w : (tM)} (h : fX11_least_l347 n y5 M = some w) : Fr [1246] M w := frX11_least_l347_n n y5 M w h
theorem frX11_least {a1 : Int32} {M : tM} {w : (Int32 × tM)} (h : fX11_least a1 M = some w) : Fr [1230, 1232, 1233, 1234, 1235, 1238, 1239, 1240, 1242, 1244, 1245, 1246, 1249, 1250, 1251, 1252, 1253, 120036, 120037, 120043, 120048] M w.2 := by
  have F_M : Fr [1230, 1232, 1233, 1234, 1235, 1238, 1239, 1240, 1242, 1244, 1245, 1246, 1249, 1250, 1251, 1252, 1253, 120036, 120037, 120043, 120048] M M := Fr.refl
  unfold fX11_least at h
  replace h := obind_some h
  obtain ⟨x1, c1, h⟩ := h
  rcases ite_some h with ⟨_, h⟩ | ⟨_, h⟩
  · obtain rfl := Option.some.inj h
    exact F_M
  · rcases ite_some h with ⟨_, h⟩ | ⟨_, h⟩
    · obtain rfl := Option.some.inj h
      exact F_M
    · rcases ite_some h with ⟨_, h⟩ | ⟨_, h⟩
      · replace h := obind_some h
        obtain ⟨w3, c2, h⟩ := h
        obtain ⟨x6, M8⟩ := w3
        dsimp only at h
        have F_M8 : Fr [1230, 1232, 1233, 1234, 1235, 1238, 1239, 1240, 1242, 1244, 1245, 1246, 1249, 1250, 1251, 1252, 1253, 120036, 120037, 120043, 120048] M M8 := Fr.step F_M (frX11_barred c2) (by decide)
        rcases ite_some h with ⟨_, h⟩ | ⟨_, h⟩
        · rcases ite_some h with ⟨_, h⟩ | ⟨_, h⟩
          · obtain rfl := Option.some.inj h
            exact F_M8
          · replace h := obind_some h
            obtain ⟨w5, c4, h⟩ := h
            obtain ⟨x11, M13⟩ := w5
            dsimp only at h
            have F_M13 : Fr [1230, 1232, 1233, 1234, 1235, 1238, 1239, 1240, 1242, 1244, 1245, 1246, 1249, 1250, 1251, 1252, 1253, 120036, 120037, 120043, 120048] M M13 := Fr.step F_M8 (frX11_isStuck c4) (by decide)
            rcases ite_some h with ⟨_, h⟩ | ⟨_, h⟩
            · replace h := obind_some h
              obtain ⟨M16, c6, h⟩ := h
              have F_M16 : Fr [1230, 1232, 1233, 1234, 1235, 1238, 1239, 1240, 1242, 1244, 1245, 1246, 1249, 1250, 1251, 1252, 1253, 120036, 120037, 120043, 120048] M M16 := Fr.step F_M13 (frX11_markFirst c6) (by decide)
              replace h := obind_some h
              obtain ⟨M18, c7, h⟩ := h
              have F_M18 : Fr [1230, 1232, 1233, 1234, 1235, 1238, 1239, 1240, 1242, 1244, 1245, 1246, 1249, 1250, 1251, 1252, 1253, 120036, 120037, 120043, 120048] M M18 := Fr.step F_M16 (frX11_storeFirst c7) (by decide)
              replace h := bnd_some h
              obtain ⟨M19, e8, h⟩ := h
              have F_M19 : Fr [1230, 1232, 1233, 1234, 1235, 1238, 1239, 1240, 1242, 1244, 1245, 1246, 1249, 1250, 1251, 1252, 1253, 120036, 120037, 120043, 120048] M M19 := by rw [e8]; exact Fr.wIo F_M18 (by decide)
              replace h := chk_some h
              obtain ⟨_, h⟩ := h
              replace h := bnd_some h
              obtain ⟨M21, e9, h⟩ := h
              have F_M21 : Fr [1230, 1232, 1233, 1234, 1235, 1238, 1239, 1240, 1242, 1244, 1245, 1246, 1249, 1250, 1251, 1252, 1253, 120036, 120037, 120043, 120048] M M21 := by rw [e9]; exact Fr.wI F_M19 (by decide)
              replace h := obind_some h
              obtain ⟨w11, c10, h⟩ := h
              have F_w := Fr.step F_M21 (frX11_least_l92 c10) (ks2 := [1230, 1232, 1233, 1234, 1235, 1238, 1239, 1240, 1242, 1244, 1245, 1246, 1249, 1250, 1251, 1252, 1253, 120036, 120037, 120043, 120048]) (by decide)
              rcases w11 with q99 | v0
              · dsimp only at h
                obtain rfl := Option.some.inj h
                exact F_w
              · dsimp only at h
                obtain ⟨M79, hq⟩ : ∃ q, q = v0 := ⟨_, rfl⟩
                rw [← hq] at h
                have F_M79 : Fr [1230, 1232, 1233, 1234, 1235, 1238, 1239, 1240, 1242, 1244, 1245, 1246, 1249, 1250, 1251, 1252, 1253, 120036, 120037, 120043, 120048] M M79 := by rw [hq]; exact F_w
                replace h := obind_some h
                obtain ⟨M87, c12, h⟩ := h
                have F_M87 : Fr [1230, 1232, 1233, 1234, 1235, 1238, 1239, 1240, 1242, 1244, 1245, 1246, 1249, 1250, 1251, 1252, 1253, 120036, 120037, 120043, 120048] M M87 := Fr.step F_M79 (frX11_least_l315 c12) (by decide)
                replace h := obind_some h
                obtain ⟨M95, c13, h⟩ := h
                have F_M95 : Fr [1230, 1232, 1233, 1234, 1235, 1238, 1239, 1240, 1242, 1244, 1245, 1246, 1249, 1250, 1251, 1252, 1253, 120036, 120037, 120043, 120048] M M95 := Fr.step F_M87 (frX11_least_l347 c13) (by decide)
                replace h := obind_some h
                obtain ⟨w15, c14, h⟩ := h
                obtain ⟨x96, M98⟩ := w15
                dsimp only at h
                have F_M98 : Fr [1230, 1232, 1233, 1234, 1235, 1238, 1239, 1240, 1242, 1244, 1245, 1246, 1249, 1250, 1251, 1252, 1253, 120036, 120037, 120043, 120048] M M98 := Fr.step F_M95 (frX11_settle c14) (by decide)
                obtain rfl := Option.some.inj h
                exact F_M98
            · obtain rfl := Option.some.inj h
              exact F_M13
        · obtain rfl := Option.some.inj h
          exact F_M8
      · obtain rfl := Option.some.inj h
        exact F_M
theorem frX11_isRow_l2_n : ∀ (n : Nat) (y1 : Int32) (M : tM) (w : (tM)), fX11_isRow_l2 n y1 M = some w → Fr [1255] M w := by
  intro n
  induction n with
  | zero => intro y1 M w h; cases h
  | succ n ih =>
    intro y1 M w h
    have F_M : Fr [1255] M M := Fr.refl
    rw [fX11_isRow_l2] at h
    rcases ite_some h with ⟨_, h⟩ | ⟨_, h⟩
    · obtain rfl := Option.some.inj h
      exact F_M
    · replace h := chk_some h
      obtain ⟨_, h⟩ := h
      replace h := bnd_some h
      obtain ⟨M3, e1, h⟩ := h
      have F_M3 : Fr [1255] M M3 := by rw [e1]; exact Fr.wI F_M (by decide)
      replace h := bnd_some h
      obtain ⟨x4, e2, h⟩ := h
      exact Fr.trans F_M3 (ih _ _ _ h)
theorem frX11_isRow_l2 {n : Nat} {y1 : Int32} {M : tM} {w : (tM)} (h : fX11_isRow_l2 n y1 M = some w) : Fr [1255] M w := frX11_isRow_l2_n n y1 M w h
theorem frX11_isRow_l25_n : ∀ (n : Nat) (y1 : Int32) (M : tM) (w : ((Int32 × tM) ⊕ (tM))), fX11_isRow_l25 n y1 M = some w → Fr [1254, 1255] M (Sum.elim (fun q => q.2) (fun q => q) w) := by
  intro n
  induction n with
  | zero => intro y1 M w h; cases h
  | succ n ih =>
    intro y1 M w h
    have F_M : Fr [1254, 1255] M M := Fr.refl
    rw [fX11_isRow_l25] at h
    rcases ite_some h with ⟨_, h⟩ | ⟨_, h⟩
    · obtain rfl := Option.some.inj h
      exact F_M
    · replace h := obind_some h
      obtain ⟨x33, c1, h⟩ := h
      rcases ite_some h with ⟨_, h⟩ | ⟨_, h⟩
      · replace h := chk_some h
        obtain ⟨_, h⟩ := h
        replace h := bnd_some h
        obtain ⟨M36, e2, h⟩ := h
        have F_M36 : Fr [1254, 1255] M M36 := by rw [e2]; exact Fr.wI F_M (by decide)
        replace h := chk_some h
        obtain ⟨_, h⟩ := h
        replace h := bnd_some h
        obtain ⟨M38, e3, h⟩ := h
        have F_M38 : Fr [1254, 1255] M M38 := by rw [e3]; exact Fr.wI F_M36 (by decide)
        replace h := bnd_some h
        obtain ⟨x39, e4, h⟩ := h
        exact Fr.trans F_M38 (ih _ _ _ h)
      · obtain rfl := Option.some.inj h
        exact F_M
theorem frX11_isRow_l25 {n : Nat} {y1 : Int32} {M : tM} {w : ((Int32 × tM) ⊕ (tM))} (h : fX11_isRow_l25 n y1 M = some w) : Fr [1254, 1255] M (Sum.elim (fun q => q.2) (fun q => q) w) := frX11_isRow_l25_n n y1 M w h
theorem frX11_isRow {M : tM} {w : (Int32 × tM)} (h : fX11_isRow M = some w) : Fr [1254, 1255] M w.2 := by
  have F_M : Fr [1254, 1255] M M := Fr.refl
  unfold fX11_isRow at h
  replace h := obind_some h
  obtain ⟨M7, c1, h⟩ := h
  have F_M7 : Fr [1254, 1255] M M7 := Fr.step F_M (frX11_isRow_l2 c1) (by decide)
  replace h := obind_some h
  obtain ⟨w3, c2, h⟩ := h
  have F_w := Fr.step F_M7 (frX11_isRow_l25 c2) (ks2 := [1254, 1255]) (by decide)
  rcases w3 with q43 | v0
  · dsimp only at h
    obtain rfl := Option.some.inj h
    exact F_w
  · dsimp only at h
    obtain ⟨M42, hq⟩ : ∃ q, q = v0 := ⟨_, rfl⟩
    rw [← hq] at h
    have F_M42 : Fr [1254, 1255] M M42 := by rw [hq]; exact F_w
    obtain rfl := Option.some.inj h
    exact F_M42
theorem frX11_divide_l44_n {z1 : Int32} : ∀ (n : Nat) (y2 : Int32) (M : tM) (w : (tM)), fX11_divide_l44 z1 n y2 M = some w → Fr [1256] M w := by
  intro n
  induction n with
  | zero => intro y2 M w h; cases h
  | succ n ih =>
    intro y2 M w h
    have F_M : Fr [1256] M M := Fr.refl
    rw [fX11_divide_l44] at h
    rcases ite_some h with ⟨_, h⟩ | ⟨_, h⟩
    · obtain rfl := Option.some.inj h
      exact F_M
    · replace h := chk_some h
      obtain ⟨_, h⟩ := h
      replace h := chk_some h
      obtain ⟨_, h⟩ := h
      replace h := chk_some h
      obtain ⟨_, h⟩ := h
      replace h := obind_some h
      obtain ⟨x13, c1, h⟩ := h
      replace h := chk_some h
      obtain ⟨_, h⟩ := h
      replace h := bnd_some h
      obtain ⟨M16, e2, h⟩ := h
      have F_M16 : Fr [1256] M M16 := by rw [e2]; exact Fr.wI F_M (by decide)
      replace h := bnd_some h
      obtain ⟨x17, e3, h⟩ := h
      exact Fr.trans F_M16 (ih _ _ _ h)
theorem frX11_divide_l44 {z1 : Int32} {n : Nat} {y2 : Int32} {M : tM} {w : (tM)} (h : fX11_divide_l44 z1 n y2 M = some w) : Fr [1256] M w := frX11_divide_l44_n n y2 M w h
theorem frX11_divide_l2_n : ∀ (n : Nat) (y1 : Int32) (M : tM) (w : (tM)), fX11_divide_l2 n y1 M = some w → Fr [1256, 1257] M w := by
  intro n
  induction n with
  | zero => intro y1 M w h; cases h
  | succ n ih =>
    intro y1 M w h
    have F_M : Fr [1256, 1257] M M := Fr.refl
    rw [fX11_divide_l2] at h
    rcases ite_some h with ⟨_, h⟩ | ⟨_, h⟩
    · obtain rfl := Option.some.inj h
      exact F_M
    · replace h := chk_some h
      obtain ⟨_, h⟩ := h
      replace h := chk_some h
      obtain ⟨_, h⟩ := h
      replace h := chk_some h
      obtain ⟨_, h⟩ := h
      replace h := bnd_some h
      obtain ⟨M5, e1, h⟩ := h
      have F_M5 : Fr [1256, 1257] M M5 := by rw [e1]; exact Fr.wI F_M (by decide)
      replace h := chk_some h
      obtain ⟨_, h⟩ := h
      replace h := bnd_some h
      obtain ⟨M7, e2, h⟩ := h
      have F_M7 : Fr [1256, 1257] M M7 := by rw [e2]; exact Fr.wI F_M5 (by decide)
      replace h := bnd_some h
      obtain ⟨x8, e3, h⟩ := h
      replace h := obind_some h
      obtain ⟨M20, c4, h⟩ := h
      have F_M20 : Fr [1256, 1257] M M20 := Fr.step F_M7 (frX11_divide_l44 c4) (by decide)
      replace h := bnd_some h
      obtain ⟨x21, e5, h⟩ := h
      exact Fr.trans F_M20 (ih _ _ _ h)
theorem frX11_divide_l2 {n : Nat} {y1 : Int32} {M : tM} {w : (tM)} (h : fX11_divide_l2 n y1 M = some w) : Fr [1256, 1257] M w := frX11_divide_l2_n n y1 M w h
theorem frX11_divide_l147_n {z1 : Int32} {z2 : Int32} {z3 : Int32} : ∀ (n : Nat) (y4 : Int32) (M : tM) (w : (tM)), fX11_divide_l147 z1 z2 z3 n y4 M = some w → Fr [1257, 1258] M w := by
  intro n
  induction n with
  | zero => intro y4 M w h; cases h
  | succ n ih =>
    intro y4 M w h
    have F_M : Fr [1257, 1258] M M := Fr.refl
    rw [fX11_divide_l147] at h
    rcases ite_some h with ⟨_, h⟩ | ⟨_, h⟩
    · obtain rfl := Option.some.inj h
      exact F_M
    · replace h := chk_some h
      obtain ⟨_, h⟩ := h
      replace h := chk_some h
      obtain ⟨_, h⟩ := h
      replace h := obind_some h
      obtain ⟨x33, c1, h⟩ := h
      replace h := bnd_some h
      obtain ⟨x35, e2, h⟩ := h
      replace h := chk_some h
      obtain ⟨_, h⟩ := h
      replace h := obind_some h
      obtain ⟨w4, b3, h⟩ := h
      have G_w4 : Fr [1257, 1258] M w4 := by
        clear h
        replace h := b3
        clear b3
        rcases ite_some h with ⟨_, h⟩ | ⟨_, h⟩
        · replace h := chk_some h
          obtain ⟨_, h⟩ := h
          replace h := bnd_some h
          obtain ⟨M39, e5, h⟩ := h
          have F_M39 : Fr [1257, 1258] M M39 := by rw [e5]; exact Fr.wI F_M (by decide)
          replace h := chk_some h
          obtain ⟨_, h⟩ := h
          replace h := bnd_some h
          obtain ⟨M41, e6, h⟩ := h
          have F_M41 : Fr [1257, 1258] M M41 := by rw [e6]; exact Fr.wI F_M39 (by decide)
          obtain rfl := Option.some.inj h
          exact F_M41
        · replace h := chk_some h
          obtain ⟨_, h⟩ := h
          rcases ite_some h with ⟨_, h⟩ | ⟨_, h⟩
          · obtain rfl := Option.some.inj h
            exact F_M
          · replace h := chk_some h
            obtain ⟨_, h⟩ := h
            replace h := bnd_some h
            obtain ⟨M45, e7, h⟩ := h
            have F_M45 : Fr [1257, 1258] M M45 := by rw [e7]; exact Fr.wI F_M (by decide)
            replace h := chk_some h
            obtain ⟨_, h⟩ := h
            replace h := bnd_some h
            obtain ⟨M47, e8, h⟩ := h
            have F_M47 : Fr [1257, 1258] M M47 := by rw [e8]; exact Fr.wI F_M45 (by decide)
            obtain rfl := Option.some.inj h
            exact F_M47
      have F_w4 := G_w4
      obtain ⟨M38, hq⟩ : ∃ q, q = w4 := ⟨_, rfl⟩
      rw [← hq] at h
      have F_M38 : Fr [1257, 1258] M M38 := by rw [hq]; exact F_w4
      clear hq
      replace h := bnd_some h
      obtain ⟨x48, e9, h⟩ := h
      exact Fr.trans F_M38 (ih _ _ _ h)
theorem frX11_divide_l147 {z1 : Int32} {z2 : Int32} {z3 : Int32} {n : Nat} {y4 : Int32} {M : tM} {w : (tM)} (h : fX11_divide_l147 z1 z2 z3 n y4 M = some w) : Fr [1257, 1258] M w := frX11_divide_l147_n n y4 M w h
theorem frX11_divide_l117_n {z1 : Int32} : ∀ (n : Nat) (y2 : Int32) (M : tM) (w : (tM)), fX11_divide_l117 z1 n y2 M = some w → Fr [1257, 1258] M w := by
  intro n
  induction n with
  | zero => intro y2 M w h; cases h
  | succ n ih =>
    intro y2 M w h
    have F_M : Fr [1257, 1258] M M := Fr.refl
    rw [fX11_divide_l117] at h
    rcases ite_some h with ⟨_, h⟩ | ⟨_, h⟩
    · obtain rfl := Option.some.inj h
      exact F_M
    · replace h := bnd_some h
      obtain ⟨x27, e1, h⟩ := h
      replace h := chk_some h
      obtain ⟨_, h⟩ := h
      replace h := bnd_some h
      obtain ⟨M29, e2, h⟩ := h
      have F_M29 : Fr [1257, 1258] M M29 := by rw [e2]; exact Fr.wI F_M (by decide)
      replace h := obind_some h
      obtain ⟨M51, c3, h⟩ := h
      have F_M51 : Fr [1257, 1258] M M51 := Fr.step F_M29 (frX11_divide_l147 c3) (by decide)
      replace h := bnd_some h
      obtain ⟨x52, e4, h⟩ := h
      exact Fr.trans F_M51 (ih _ _ _ h)
theorem frX11_divide_l117 {z1 : Int32} {n : Nat} {y2 : Int32} {M : tM} {w : (tM)} (h : fX11_divide_l117 z1 n y2 M = some w) : Fr [1257, 1258] M w := frX11_divide_l117_n n y2 M w h
theorem frX11_divide_l107_n : ∀ (n : Nat) (y1 : Int32) (M : tM) (w : (tM)), fX11_divide_l107 n y1 M = some w → Fr [1257, 1258] M w := by
  intro n
  induction n with
  | zero => intro y1 M w h; cases h
  | succ n ih =>
    intro y1 M w h
    have F_M : Fr [1257, 1258] M M := Fr.refl
    rw [fX11_divide_l107] at h
    rcases ite_some h with ⟨_, h⟩ | ⟨_, h⟩
    · obtain rfl := Option.some.inj h
      exact F_M
    · replace h := obind_some h
      obtain ⟨M55, c1, h⟩ := h
      have F_M55 : Fr [1257, 1258] M M55 := Fr.step F_M (frX11_divide_l117 c1) (by decide)
      replace h := bnd_some h
      obtain ⟨x56, e2, h⟩ := h
      exact Fr.trans F_M55 (ih _ _ _ h)
theorem frX11_divide_l107 {n : Nat} {y1 : Int32} {M : tM} {w : (tM)} (h : fX11_divide_l107 n y1 M = some w) : Fr [1257, 1258] M w := frX11_divide_l107_n n y1 M w h
theorem frX11_divide {M : tM} {w : (tM)} (h : fX11_divide M = some w) : Fr [1256, 1257, 1258] M w := by
  have F_M : Fr [1256, 1257, 1258] M M := Fr.refl
  unfold fX11_divide at h
  replace h := obind_some h
  obtain ⟨M24, c1, h⟩ := h
  have F_M24 : Fr [1256, 1257, 1258] M M24 := Fr.step F_M (frX11_divide_l2 c1) (by decide)
  replace h := obind_some h
  obtain ⟨M59, c2, h⟩ := h
  have F_M59 : Fr [1256, 1257, 1258] M M59 := Fr.step F_M24 (frX11_divide_l107 c2) (by decide)
  obtain rfl := Option.some.inj h
  exact F_M59
theorem frX11_item {a1 : Int32} {M : tM} {w : (tM)} (h : fX11_item a1 M = some w) : Fr [1259, 120060] M w := by
  have F_M : Fr [1259, 120060] M M := Fr.refl
  unfold fX11_item at h
  replace h := chk_some h
  obtain ⟨_, h⟩ := h
  replace h := bnd_some h
  obtain ⟨M2, e1, h⟩ := h
  have F_M2 : Fr [1259, 120060] M M2 := by rw [e1]; exact Fr.wI F_M (by decide)
  replace h := bnd_some h
  obtain ⟨M3, e2, h⟩ := h
  have F_M3 : Fr [1259, 120060] M M3 := by rw [e2]; exact Fr.wIo F_M2 (by decide)
  obtain rfl := Option.some.inj h
  exact F_M3
theorem frX11_write_l33_n : ∀ (n : Nat) (y1 : Int32) (M : tM) (w : (tM)), fX11_write_l33 n y1 M = some w → Fr [1259, 1261, 120060] M w := by
  intro n
  induction n with
  | zero => intro y1 M w h; cases h
  | succ n ih =>
    intro y1 M w h
    have F_M : Fr [1259, 1261, 120060] M M := Fr.refl
    rw [fX11_write_l33] at h
    rcases ite_some h with ⟨_, h⟩ | ⟨_, h⟩
    · obtain rfl := Option.some.inj h
      exact F_M
    · replace h := bnd_some h
      obtain ⟨x9, e1, h⟩ := h
      replace h := chk_some h
      obtain ⟨_, h⟩ := h
      replace h := bnd_some h
      obtain ⟨x11, e2, h⟩ := h
      replace h := chk_some h
      obtain ⟨_, h⟩ := h
      replace h := bnd_some h
      obtain ⟨x13, e3, h⟩ := h
      replace h := chk_some h
      obtain ⟨_, h⟩ := h
      replace h := bnd_some h
      obtain ⟨x15, e4, h⟩ := h
      rcases ite_some h with ⟨_, h⟩ | ⟨_, h⟩
      · replace h := chk_some h
        obtain ⟨_, h⟩ := h
        replace h := bnd_some h
        obtain ⟨x18, e5, h⟩ := h
        replace h := chk_some h
        obtain ⟨_, h⟩ := h
        replace h := bnd_some h
        obtain ⟨x20, e6, h⟩ := h
        replace h := obind_some h
        obtain ⟨w8, b7, h⟩ := h
        have G_w8 : Fr [1259, 1261, 120060] M w8 := by
          clear h
          replace h := b7
          clear b7
          rcases ite_some h with ⟨_, h⟩ | ⟨_, h⟩
          · obtain rfl := Option.some.inj h
            exact F_M
          · replace h := obind_some h
            obtain ⟨M23, c9, h⟩ := h
            have F_M23 : Fr [1259, 1261, 120060] M M23 := Fr.step F_M (frX11_item c9) (by decide)
            obtain rfl := Option.some.inj h
            exact F_M23
        have F_w8 := G_w8
        obtain ⟨M22, hq⟩ : ∃ q, q = w8 := ⟨_, rfl⟩
        rw [← hq] at h
        have F_M22 : Fr [1259, 1261, 120060] M M22 := by rw [hq]; exact F_w8
        clear hq
        rcases ite_some h with ⟨_, h⟩ | ⟨_, h⟩
        · replace h := chk_some h
          obtain ⟨_, h⟩ := h
          replace h := obind_some h
          obtain ⟨M49, c10, h⟩ := h
          have F_M49 : Fr [1259, 1261, 120060] M M49 := Fr.step F_M22 (frX11_item c10) (by decide)
          rcases ite_some h with ⟨_, h⟩ | ⟨_, h⟩
          · exact Fr.trans F_M49 (ih _ _ _ h)
          · replace h := obind_some h
            obtain ⟨M52, c11, h⟩ := h
            have F_M52 : Fr [1259, 1261, 120060] M M52 := Fr.step F_M49 (frX11_item c11) (by decide)
            exact Fr.trans F_M52 (ih _ _ _ h)
        · replace h := obind_some h
          obtain ⟨w13, b12, h⟩ := h
          have G_w13 : Fr [1259, 1261, 120060] M w13.2 := by
            clear h
            replace h := b12
            clear b12
            rcases ite_some h with ⟨_, h⟩ | ⟨_, h⟩
            · obtain rfl := Option.some.inj h
              exact F_M22
            · replace h := chk_some h
              obtain ⟨_, h⟩ := h
              replace h := bnd_some h
              obtain ⟨M28, e14, h⟩ := h
              have F_M28 : Fr [1259, 1261, 120060] M M28 := by rw [e14]; exact Fr.wI F_M22 (by decide)
              replace h := bnd_some h
              obtain ⟨x29, e15, h⟩ := h
              obtain rfl := Option.some.inj h
              exact F_M28
          obtain ⟨x27, M28⟩ := w13
          dsimp only at h
          have F_M28 : Fr [1259, 1261, 120060] M M28 := G_w13
          replace h := chk_some h
          obtain ⟨_, h⟩ := h
          replace h := chk_some h
          obtain ⟨_, h⟩ := h
          replace h := bnd_some h
          obtain ⟨M33, e16, h⟩ := h
          have F_M33 : Fr [1259, 1261, 120060] M M33 := by rw [e16]; exact Fr.wI F_M28 (by decide)
          replace h := chk_some h
          obtain ⟨_, h⟩ := h
          replace h := bnd_some h
          obtain ⟨M35, e17, h⟩ := h
          have F_M35 : Fr [1259, 1261, 120060] M M35 := by rw [e17]; exact Fr.wI F_M33 (by decide)
          replace h := chk_some h
          obtain ⟨_, h⟩ := h
          replace h := bnd_some h
          obtain ⟨M37, e18, h⟩ := h
          have F_M37 : Fr [1259, 1261, 120060] M M37 := by rw [e18]; exact Fr.wI F_M35 (by decide)
          replace h := bnd_some h
          obtain ⟨x38, e19, h⟩ := h
          replace h := chk_some h
          obtain ⟨_, h⟩ := h
          replace h := bnd_some h
          obtain ⟨M40, e20, h⟩ := h
          have F_M40 : Fr [1259, 1261, 120060] M M40 := by rw [e20]; exact Fr.wI F_M37 (by decide)
          replace h := chk_some h
          obtain ⟨_, h⟩ := h
          replace h := chk_some h
          obtain ⟨_, h⟩ := h
          replace h := bnd_some h
          obtain ⟨M43, e21, h⟩ := h
          have F_M43 : Fr [1259, 1261, 120060] M M43 := by rw [e21]; exact Fr.wI F_M40 (by decide)
          replace h := chk_some h
          obtain ⟨_, h⟩ := h
          replace h := bnd_some h
          obtain ⟨M45, e22, h⟩ := h
          have F_M45 : Fr [1259, 1261, 120060] M M45 := by rw [e22]; exact Fr.wI F_M43 (by decide)
          replace h := bnd_some h
          obtain ⟨x46, e23, h⟩ := h
          exact Fr.trans F_M45 (ih _ _ _ h)
      · replace h := obind_some h
        obtain ⟨M54, c24, h⟩ := h
        have F_M54 : Fr [1259, 1261, 120060] M M54 := Fr.step F_M (frX11_item c24) (by decide)
        exact Fr.trans F_M54 (ih _ _ _ h)
theorem frX11_write_l33 {n : Nat} {y1 : Int32} {M : tM} {w : (tM)} (h : fX11_write_l33 n y1 M = some w) : Fr [1259, 1261, 120060] M w := frX11_write_l33_n n y1 M w h
theorem frX11_write {M : tM} {w : (tM)} (h : fX11_write M = some w) : Fr [1259, 1261, 120060] M w := by
  have F_M : Fr [1259, 1261, 120060] M M := Fr.refl
  unfold fX11_write at h
  replace h := bnd_some h
  obtain ⟨M1, e1, h⟩ := h
  have F_M1 : Fr [1259, 1261, 120060] M M1 := by rw [e1]; exact Fr.wIo F_M (by decide)
  replace h := chk_some h
  obtain ⟨_, h⟩ := h
  replace h := bnd_some h
  obtain ⟨M3, e2, h⟩ := h
  have F_M3 : Fr [1259, 1261, 120060] M M3 := by rw [e2]; exact Fr.wI F_M1 (by decide)
  replace h := chk_some h
  obtain ⟨_, h⟩ := h
  replace h := bnd_some h
  obtain ⟨M5, e3, h⟩ := h
  have F_M5 : Fr [1259, 1261, 120060] M M5 := by rw [e3]; exact Fr.wI F_M3 (by decide)
  replace h := chk_some h
  obtain ⟨_, h⟩ := h
  replace h := bnd_some h
  obtain ⟨M7, e4, h⟩ := h
  have F_M7 : Fr [1259, 1261, 120060] M M7 := by rw [e4]; exact Fr.wI F_M5 (by decide)
  replace h := obind_some h
  obtain ⟨M57, c5, h⟩ := h
  have F_M57 : Fr [1259, 1261, 120060] M M57 := Fr.step F_M7 (frX11_write_l33 c5) (by decide)
  obtain rfl := Option.some.inj h
  exact F_M57
theorem frX11_unfold_l6_n : ∀ (n : Nat) (y1 : Int32) (y2 : Int32) (y3 : Int32) (M : tM) (w : (Int32 × tM)), fX11_unfold_l6 n y1 y2 y3 M = some w → Fr [1245, 1262, 1263] M w.2 := by
  intro n
  induction n with
  | zero => intro y1 y2 y3 M w h; cases h
  | succ n ih =>
    intro y1 y2 y3 M w h
    have F_M : Fr [1245, 1262, 1263] M M := Fr.refl
    rw [fX11_unfold_l6] at h
    rcases ite_some h with ⟨_, h⟩ | ⟨_, h⟩
    · obtain rfl := Option.some.inj h
      exact F_M
    · replace h := chk_some h
      obtain ⟨_, h⟩ := h
      replace h := bnd_some h
      obtain ⟨x3, e1, h⟩ := h
      replace h := bnd_some h
      obtain ⟨x4, e2, h⟩ := h
      replace h := obind_some h
      obtain ⟨w4, b3, h⟩ := h
      have G_w4 : Fr [1245, 1262, 1263] M w4.2.2.2 := by
        clear h
        replace h := b3
        clear b3
        rcases ite_some h with ⟨_, h⟩ | ⟨_, h⟩
        · rcases ite_some h with ⟨_, h⟩ | ⟨_, h⟩
          · replace h := chk_some h
            obtain ⟨_, h⟩ := h
            rcases ite_some h with ⟨_, h⟩ | ⟨_, h⟩
            · replace h := bnd_some h
              obtain ⟨x9, e5, h⟩ := h
              obtain rfl := Option.some.inj h
              exact F_M
            · replace h := bnd_some h
              obtain ⟨x10, e6, h⟩ := h
              replace h := chk_some h
              obtain ⟨_, h⟩ := h
              replace h := chk_some h
              obtain ⟨_, h⟩ := h
              replace h := bnd_some h
              obtain ⟨M13, e7, h⟩ := h
              have F_M13 : Fr [1245, 1262, 1263] M M13 := by rw [e7]; exact Fr.wI F_M (by decide)
              replace h := chk_some h
              obtain ⟨_, h⟩ := h
              replace h := bnd_some h
              obtain ⟨x15, e8, h⟩ := h
              obtain rfl := Option.some.inj h
              exact F_M13
          · replace h := chk_some h
            obtain ⟨_, h⟩ := h
            replace h := bnd_some h
            obtain ⟨M17, e9, h⟩ := h
            have F_M17 : Fr [1245, 1262, 1263] M M17 := by rw [e9]; exact Fr.wI F_M (by decide)
            replace h := bnd_some h
            obtain ⟨x18, e10, h⟩ := h
            obtain rfl := Option.some.inj h
            exact F_M17
        · replace h := chk_some h
          obtain ⟨_, h⟩ := h
          replace h := bnd_some h
          obtain ⟨M20, e11, h⟩ := h
          have F_M20 : Fr [1245, 1262, 1263] M M20 := by rw [e11]; exact Fr.wI F_M (by decide)
          replace h := chk_some h
          obtain ⟨_, h⟩ := h
          replace h := bnd_some h
          obtain ⟨M22, e12, h⟩ := h
          have F_M22 : Fr [1245, 1262, 1263] M M22 := by rw [e12]; exact Fr.wI F_M20 (by decide)
          replace h := bnd_some h
          obtain ⟨x23, e13, h⟩ := h
          obtain rfl := Option.some.inj h
          exact F_M22
      obtain ⟨x6, x7, x8, M9⟩ := w4
      dsimp only at h
      have F_M9 : Fr [1245, 1262, 1263] M M9 := G_w4
      exact Fr.trans F_M9 (ih _ _ _ _ _ h)
theorem frX11_unfold_l6 {n : Nat} {y1 : Int32} {y2 : Int32} {y3 : Int32} {M : tM} {w : (Int32 × tM)} (h : fX11_unfold_l6 n y1 y2 y3 M = some w) : Fr [1245, 1262, 1263] M w.2 := frX11_unfold_l6_n n y1 y2 y3 M w h
theorem frX11_unfold {M : tM} {w : (Int32 × tM)} (h : fX11_unfold M = some w) : Fr [1245, 1262, 1263] M w.2 := by
  have F_M : Fr [1245, 1262, 1263] M M := Fr.refl
  unfold fX11_unfold at h
  replace h := obind_some h
  obtain ⟨w2, c1, h⟩ := h
  obtain ⟨x26, M27⟩ := w2
  dsimp only at h
  have F_M27 : Fr [1245, 1262, 1263] M M27 := Fr.step F_M (frX11_unfold_l6 c1) (by decide)
  obtain rfl := Option.some.inj h
  exact F_M27
theorem frX11_once_l14_n : ∀ (n : Nat) (y2 : Int32) (M : tM) (w : ((Int32 × tM) ⊕ (tM))), fX11_once_l14 n y2 M = some w → Fr [1201, 120000] M (Sum.elim (fun q => q.2) (fun q => q) w) := by
  intro n
  induction n with
  | zero => intro y2 M w h; cases h
  | succ n ih =>
    intro y2 M w h
    have F_M : Fr [1201, 120000] M M := Fr.refl
    rw [fX11_once_l14] at h
    rcases ite_some h with ⟨_, h⟩ | ⟨_, h⟩
    · obtain rfl := Option.some.inj h
      exact F_M
    · replace h := chk_some h
      obtain ⟨_, h⟩ := h
      rcases ite_some h with ⟨_, h⟩ | ⟨_, h⟩
      · replace h := obind_some h
        obtain ⟨w2, c1, h⟩ := h
        obtain ⟨x9, M11⟩ := w2
        dsimp only at h
        have F_M11 : Fr [1201, 120000] M M11 := Fr.step F_M (frX11_meets c1) (by decide)
        obtain rfl := Option.some.inj h
        exact F_M11
      · replace h := bnd_some h
        obtain ⟨x8, e3, h⟩ := h
        exact Fr.trans F_M (ih _ _ _ h)
theorem frX11_once_l14 {n : Nat} {y2 : Int32} {M : tM} {w : ((Int32 × tM) ⊕ (tM))} (h : fX11_once_l14 n y2 M = some w) : Fr [1201, 120000] M (Sum.elim (fun q => q.2) (fun q => q) w) := frX11_once_l14_n n y2 M w h
theorem frX11_once_l78_n {z2 : Int32} : ∀ (n : Nat) (y3 : Int32) (M : tM) (w : (tM)), fX11_once_l78 z2 n y3 M = some w → Fr [1238, 1239, 1240, 1246] M w := by
  intro n
  induction n with
  | zero => intro y3 M w h; cases h
  | succ n ih =>
    intro y3 M w h
    have F_M : Fr [1238, 1239, 1240, 1246] M M := Fr.refl
    rw [fX11_once_l78] at h
    rcases ite_some h with ⟨_, h⟩ | ⟨_, h⟩
    · obtain rfl := Option.some.inj h
      exact F_M
    · replace h := chk_some h
      obtain ⟨_, h⟩ := h
      replace h := obind_some h
      obtain ⟨M33, c1, h⟩ := h
      have F_M33 : Fr [1238, 1239, 1240, 1246] M M33 := Fr.step F_M (frX11_fireMark c1) (by decide)
      replace h := obind_some h
      obtain ⟨M35, c2, h⟩ := h
      have F_M35 : Fr [1238, 1239, 1240, 1246] M M35 := Fr.step F_M33 (frX11_storeMore c2) (by decide)
      replace h := bnd_some h
      obtain ⟨x36, e3, h⟩ := h
      exact Fr.trans F_M35 (ih _ _ _ h)
theorem frX11_once_l78 {z2 : Int32} {n : Nat} {y3 : Int32} {M : tM} {w : (tM)} (h : fX11_once_l78 z2 n y3 M = some w) : Fr [1238, 1239, 1240, 1246] M w := frX11_once_l78_n n y3 M w h
theorem frX11_once {M : tM} {w : (Int32 × tM)} (h : fX11_once M = some w) : Fr [1201, 1230, 1232, 1233, 1234, 1235, 1238, 1239, 1240, 1242, 1244, 1245, 1246, 1254, 1255, 1256, 1257, 1258, 1259, 1261, 1262, 1263, 120000, 120036, 120037, 120043, 120060] M w.2 := by
  have F_M : Fr [1201, 1230, 1232, 1233, 1234, 1235, 1238, 1239, 1240, 1242, 1244, 1245, 1246, 1254, 1255, 1256, 1257, 1258, 1259, 1261, 1262, 1263, 120000, 120036, 120037, 120043, 120060] M M := Fr.refl
  unfold fX11_once at h
  replace h := obind_some h
  obtain ⟨w2, c1, h⟩ := h
  obtain ⟨x1, M3⟩ := w2
  dsimp only at h
  have F_M3 : Fr [1201, 1230, 1232, 1233, 1234, 1235, 1238, 1239, 1240, 1242, 1244, 1245, 1246, 1254, 1255, 1256, 1257, 1258, 1259, 1261, 1262, 1263, 120000, 120036, 120037, 120043, 120060] M M3 := Fr.step F_M (frX11_barred c1) (by decide)
  rcases ite_some h with ⟨_, h⟩ | ⟨_, h⟩
  · replace h := obind_some h
    obtain ⟨w4, c3, h⟩ := h
    have F_w := Fr.step F_M3 (frX11_once_l14 c3) (ks2 := [1201, 1230, 1232, 1233, 1234, 1235, 1238, 1239, 1240, 1242, 1244, 1245, 1246, 1254, 1255, 1256, 1257, 1258, 1259, 1261, 1262, 1263, 120000, 120036, 120037, 120043, 120060]) (by decide)
    rcases w4 with q43 | v0
    · dsimp only at h
      obtain rfl := Option.some.inj h
      exact F_w
    · dsimp only at h
      obtain ⟨M14, hq⟩ : ∃ q, q = v0 := ⟨_, rfl⟩
      rw [← hq] at h
      have F_M14 : Fr [1201, 1230, 1232, 1233, 1234, 1235, 1238, 1239, 1240, 1242, 1244, 1245, 1246, 1254, 1255, 1256, 1257, 1258, 1259, 1261, 1262, 1263, 120000, 120036, 120037, 120043, 120060] M M14 := by rw [hq]; exact F_w
      replace h := obind_some h
      obtain ⟨w6, c5, h⟩ := h
      obtain ⟨x15, M17⟩ := w6
      dsimp only at h
      have F_M17 : Fr [1201, 1230, 1232, 1233, 1234, 1235, 1238, 1239, 1240, 1242, 1244, 1245, 1246, 1254, 1255, 1256, 1257, 1258, 1259, 1261, 1262, 1263, 120000, 120036, 120037, 120043, 120060] M M17 := Fr.step F_M14 (frX11_isRow c5) (by decide)
      rcases ite_some h with ⟨_, h⟩ | ⟨_, h⟩
      · obtain rfl := Option.some.inj h
        exact F_M17
      · replace h := obind_some h
        obtain ⟨M20, c7, h⟩ := h
        have F_M20 : Fr [1201, 1230, 1232, 1233, 1234, 1235, 1238, 1239, 1240, 1242, 1244, 1245, 1246, 1254, 1255, 1256, 1257, 1258, 1259, 1261, 1262, 1263, 120000, 120036, 120037, 120043, 120060] M M20 := Fr.step F_M17 (frX11_divide c7) (by decide)
        replace h := obind_some h
        obtain ⟨M22, c8, h⟩ := h
        have F_M22 : Fr [1201, 1230, 1232, 1233, 1234, 1235, 1238, 1239, 1240, 1242, 1244, 1245, 1246, 1254, 1255, 1256, 1257, 1258, 1259, 1261, 1262, 1263, 120000, 120036, 120037, 120043, 120060] M M22 := Fr.step F_M20 (frX11_write c8) (by decide)
        replace h := obind_some h
        obtain ⟨w10, c9, h⟩ := h
        obtain ⟨x23, M25⟩ := w10
        dsimp only at h
        have F_M25 : Fr [1201, 1230, 1232, 1233, 1234, 1235, 1238, 1239, 1240, 1242, 1244, 1245, 1246, 1254, 1255, 1256, 1257, 1258, 1259, 1261, 1262, 1263, 120000, 120036, 120037, 120043, 120060] M M25 := Fr.step F_M22 (frX11_unfold c9) (by decide)
        replace h := obind_some h
        obtain ⟨M27, c11, h⟩ := h
        have F_M27 : Fr [1201, 1230, 1232, 1233, 1234, 1235, 1238, 1239, 1240, 1242, 1244, 1245, 1246, 1254, 1255, 1256, 1257, 1258, 1259, 1261, 1262, 1263, 120000, 120036, 120037, 120043, 120060] M M27 := Fr.step F_M25 (frX11_markFirst c11) (by decide)
        replace h := obind_some h
        obtain ⟨M29, c12, h⟩ := h
        have F_M29 : Fr [1201, 1230, 1232, 1233, 1234, 1235, 1238, 1239, 1240, 1242, 1244, 1245, 1246, 1254, 1255, 1256, 1257, 1258, 1259, 1261, 1262, 1263, 120000, 120036, 120037, 120043, 120060] M M29 := Fr.step F_M27 (frX11_storeFirst c12) (by decide)
        replace h := obind_some h
        obtain ⟨M39, c13, h⟩ := h
        have F_M39 : Fr [1201, 1230, 1232, 1233, 1234, 1235, 1238, 1239, 1240, 1242, 1244, 1245, 1246, 1254, 1255, 1256, 1257, 1258, 1259, 1261, 1262, 1263, 120000, 120036, 120037, 120043, 120060] M M39 := Fr.step F_M29 (frX11_once_l78 c13) (by decide)
        replace h := obind_some h
        obtain ⟨w15, c14, h⟩ := h
        obtain ⟨x40, M42⟩ := w15
        dsimp only at h
        have F_M42 : Fr [1201, 1230, 1232, 1233, 1234, 1235, 1238, 1239, 1240, 1242, 1244, 1245, 1246, 1254, 1255, 1256, 1257, 1258, 1259, 1261, 1262, 1263, 120000, 120036, 120037, 120043, 120060] M M42 := Fr.step F_M39 (frX11_settle c14) (by decide)
        obtain rfl := Option.some.inj h
        exact F_M42
  · obtain rfl := Option.some.inj h
    exact F_M3
theorem frX11_marking_l45_n {z1 : Int32} {z2 : Int32} : ∀ (n : Nat) (y4 : Int32) (M : tM) (w : (tM)), fX11_marking_l45 z1 z2 n y4 M = some w → Fr [1238, 1239, 1240] M w := by
  intro n
  induction n with
  | zero => intro y4 M w h; cases h
  | succ n ih =>
    intro y4 M w h
    have F_M : Fr [1238, 1239, 1240] M M := Fr.refl
    rw [fX11_marking_l45] at h
    rcases ite_some h with ⟨_, h⟩ | ⟨_, h⟩
    · obtain rfl := Option.some.inj h
      exact F_M
    · replace h := chk_some h
      obtain ⟨_, h⟩ := h
      replace h := obind_some h
      obtain ⟨M16, c1, h⟩ := h
      have F_M16 : Fr [1238, 1239, 1240] M M16 := Fr.step F_M (frX11_fireMark c1) (by decide)
      replace h := bnd_some h
      obtain ⟨x17, e2, h⟩ := h
      exact Fr.trans F_M16 (ih _ _ _ h)
theorem frX11_marking_l45 {z1 : Int32} {z2 : Int32} {n : Nat} {y4 : Int32} {M : tM} {w : (tM)} (h : fX11_marking_l45 z1 z2 n y4 M = some w) : Fr [1238, 1239, 1240] M w := frX11_marking_l45_n n y4 M w h
theorem frX11_marking {a1 : Int32} {a2 : Int32} {M : tM} {w : (Int32 × tM)} (h : fX11_marking a1 a2 M = some w) : Fr [1232, 1233, 1234, 1235, 1238, 1239, 1240, 120036, 120037] M w.2 := by
  have F_M : Fr [1232, 1233, 1234, 1235, 1238, 1239, 1240, 120036, 120037] M M := Fr.refl
  unfold fX11_marking at h
  replace h := obind_some h
  obtain ⟨x1, c1, h⟩ := h
  rcases ite_some h with ⟨_, h⟩ | ⟨_, h⟩
  · obtain rfl := Option.some.inj h
    exact F_M
  · rcases ite_some h with ⟨_, h⟩ | ⟨_, h⟩
    · obtain rfl := Option.some.inj h
      exact F_M
    · replace h := obind_some h
      obtain ⟨x5, c2, h⟩ := h
      rcases ite_some h with ⟨_, h⟩ | ⟨_, h⟩
      · obtain rfl := Option.some.inj h
        exact F_M
      · replace h := obind_some h
        obtain ⟨w4, c3, h⟩ := h
        obtain ⟨x8, M10⟩ := w4
        dsimp only at h
        have F_M10 : Fr [1232, 1233, 1234, 1235, 1238, 1239, 1240, 120036, 120037] M M10 := Fr.step F_M (frX11_balance c3) (by decide)
        replace h := obind_some h
        obtain ⟨M12, c5, h⟩ := h
        have F_M12 : Fr [1232, 1233, 1234, 1235, 1238, 1239, 1240, 120036, 120037] M M12 := Fr.step F_M10 (frX11_markFirst c5) (by decide)
        replace h := obind_some h
        obtain ⟨M20, c6, h⟩ := h
        have F_M20 : Fr [1232, 1233, 1234, 1235, 1238, 1239, 1240, 120036, 120037] M M20 := Fr.step F_M12 (frX11_marking_l45 c6) (by decide)
        replace h := chk_some h
        obtain ⟨_, h⟩ := h
        obtain rfl := Option.some.inj h
        exact F_M20
theorem frX11_draft {a1 : Int32} {M : tM} {w : (Int32 × tM)} (h : fX11_draft a1 M = some w) : Fr [1264, 120065] M w.2 := by
  have F_M : Fr [1264, 120065] M M := Fr.refl
  unfold fX11_draft at h
  replace h := obind_some h
  obtain ⟨x1, c1, h⟩ := h
  rcases ite_some h with ⟨_, h⟩ | ⟨_, h⟩
  · obtain rfl := Option.some.inj h
    exact F_M
  · rcases ite_some h with ⟨_, h⟩ | ⟨_, h⟩
    · obtain rfl := Option.some.inj h
      exact F_M
    · replace h := chk_some h
      obtain ⟨_, h⟩ := h
      replace h := bnd_some h
      obtain ⟨M6, e2, h⟩ := h
      have F_M6 : Fr [1264, 120065] M M6 := by rw [e2]; exact Fr.wI F_M (by decide)
      replace h := bnd_some h
      obtain ⟨M7, e3, h⟩ := h
      have F_M7 : Fr [1264, 120065] M M7 := by rw [e3]; exact Fr.wIo F_M6 (by decide)
      obtain rfl := Option.some.inj h
      exact F_M7
theorem frX11_check_l33_n {z1 : Int32} : ∀ (n : Nat) (y3 : Int32) (M : tM) (w : ((Int32 × tM) ⊕ (tM))), fX11_check_l33 z1 n y3 M = some w → Fr [1238, 1239, 1240, 1245, 1246] M (Sum.elim (fun q => q.2) (fun q => q) w) := by
  intro n
  induction n with
  | zero => intro y3 M w h; cases h
  | succ n ih =>
    intro y3 M w h
    have F_M : Fr [1238, 1239, 1240, 1245, 1246] M M := Fr.refl
    rw [fX11_check_l33] at h
    rcases ite_some h with ⟨_, h⟩ | ⟨_, h⟩
    · obtain rfl := Option.some.inj h
      exact F_M
    · replace h := chk_some h
      obtain ⟨_, h⟩ := h
      replace h := bnd_some h
      obtain ⟨x13, e1, h⟩ := h
      replace h := chk_some h
      obtain ⟨_, h⟩ := h
      rcases ite_some h with ⟨_, h⟩ | ⟨_, h⟩
      · obtain rfl := Option.some.inj h
        exact F_M
      · replace h := obind_some h
        obtain ⟨x16, c2, h⟩ := h
        rcases ite_some h with ⟨_, h⟩ | ⟨_, h⟩
        · obtain rfl := Option.some.inj h
          exact F_M
        · replace h := obind_some h
          obtain ⟨M20, c3, h⟩ := h
          have F_M20 : Fr [1238, 1239, 1240, 1245, 1246] M M20 := Fr.step F_M (frX11_fireMark c3) (by decide)
          replace h := obind_some h
          obtain ⟨M22, c4, h⟩ := h
          have F_M22 : Fr [1238, 1239, 1240, 1245, 1246] M M22 := Fr.step F_M20 (frX11_storeMore c4) (by decide)
          replace h := chk_some h
          obtain ⟨_, h⟩ := h
          replace h := bnd_some h
          obtain ⟨M24, e5, h⟩ := h
          have F_M24 : Fr [1238, 1239, 1240, 1245, 1246] M M24 := by rw [e5]; exact Fr.wI F_M22 (by decide)
          replace h := bnd_some h
          obtain ⟨x25, e6, h⟩ := h
          exact Fr.trans F_M24 (ih _ _ _ h)
theorem frX11_check_l33 {z1 : Int32} {n : Nat} {y3 : Int32} {M : tM} {w : ((Int32 × tM) ⊕ (tM))} (h : fX11_check_l33 z1 n y3 M = some w) : Fr [1238, 1239, 1240, 1245, 1246] M (Sum.elim (fun q => q.2) (fun q => q) w) := frX11_check_l33_n n y3 M w h
theorem frX11_check {M : tM} {w : (Int32 × tM)} (h : fX11_check M = some w) : Fr [1230, 1232, 1233, 1234, 1235, 1238, 1239, 1240, 1242, 1244, 1245, 1246, 120036, 120037, 120043, 120065] M w.2 := by
  have F_M : Fr [1230, 1232, 1233, 1234, 1235, 1238, 1239, 1240, 1242, 1244, 1245, 1246, 120036, 120037, 120043, 120065] M M := Fr.refl
  unfold fX11_check at h
  replace h := bnd_some h
  obtain ⟨x1, e1, h⟩ := h
  replace h := bnd_some h
  obtain ⟨M2, e2, h⟩ := h
  have F_M2 : Fr [1230, 1232, 1233, 1234, 1235, 1238, 1239, 1240, 1242, 1244, 1245, 1246, 120036, 120037, 120043, 120065] M M2 := by rw [e2]; exact Fr.wIo F_M (by decide)
  replace h := obind_some h
  obtain ⟨w4, c3, h⟩ := h
  obtain ⟨x3, M5⟩ := w4
  dsimp only at h
  have F_M5 : Fr [1230, 1232, 1233, 1234, 1235, 1238, 1239, 1240, 1242, 1244, 1245, 1246, 120036, 120037, 120043, 120065] M M5 := Fr.step F_M2 (frX11_barred c3) (by decide)
  rcases ite_some h with ⟨_, h⟩ | ⟨_, h⟩
  · replace h := obind_some h
    obtain ⟨M8, c5, h⟩ := h
    have F_M8 : Fr [1230, 1232, 1233, 1234, 1235, 1238, 1239, 1240, 1242, 1244, 1245, 1246, 120036, 120037, 120043, 120065] M M8 := Fr.step F_M5 (frX11_markFirst c5) (by decide)
    replace h := obind_some h
    obtain ⟨M10, c6, h⟩ := h
    have F_M10 : Fr [1230, 1232, 1233, 1234, 1235, 1238, 1239, 1240, 1242, 1244, 1245, 1246, 120036, 120037, 120043, 120065] M M10 := Fr.step F_M8 (frX11_storeFirst c6) (by decide)
    replace h := obind_some h
    obtain ⟨w8, c7, h⟩ := h
    have F_w := Fr.step F_M10 (frX11_check_l33 c7) (ks2 := [1230, 1232, 1233, 1234, 1235, 1238, 1239, 1240, 1242, 1244, 1245, 1246, 120036, 120037, 120043, 120065]) (by decide)
    rcases w8 with q35 | v0
    · dsimp only at h
      obtain rfl := Option.some.inj h
      exact F_w
    · dsimp only at h
      obtain ⟨M28, hq⟩ : ∃ q, q = v0 := ⟨_, rfl⟩
      rw [← hq] at h
      have F_M28 : Fr [1230, 1232, 1233, 1234, 1235, 1238, 1239, 1240, 1242, 1244, 1245, 1246, 120036, 120037, 120043, 120065] M M28 := by rw [hq]; exact F_w
      replace h := obind_some h
      obtain ⟨x29, c9, h⟩ := h
      rcases ite_some h with ⟨_, h⟩ | ⟨_, h⟩
      · replace h := obind_some h
        obtain ⟨w11, c10, h⟩ := h
        obtain ⟨x32, M34⟩ := w11
        dsimp only at h
        have F_M34 : Fr [1230, 1232, 1233, 1234, 1235, 1238, 1239, 1240, 1242, 1244, 1245, 1246, 120036, 120037, 120043, 120065] M M34 := Fr.step F_M28 (frX11_settle c10) (by decide)
        obtain rfl := Option.some.inj h
        exact F_M34
      · obtain rfl := Option.some.inj h
        exact F_M28
  · obtain rfl := Option.some.inj h
    exact F_M5
theorem frX11_time {a1 : Int32} {a2 : Int32} {M : tM} {w : (Int32 × tM)} (h : fX11_time a1 a2 M = some w) : Fr [1210] M w.2 := by
  have F_M : Fr [1210] M M := Fr.refl
  unfold fX11_time at h
  replace h := obind_some h
  obtain ⟨x1, c1, h⟩ := h
  rcases ite_some h with ⟨_, h⟩ | ⟨_, h⟩
  · obtain rfl := Option.some.inj h
    exact F_M
  · replace h := obind_some h
    obtain ⟨x4, c2, h⟩ := h
    rcases ite_some h with ⟨_, h⟩ | ⟨_, h⟩
    · obtain rfl := Option.some.inj h
      exact F_M
    · replace h := chk_some h
      obtain ⟨_, h⟩ := h
      replace h := bnd_some h
      obtain ⟨x8, e3, h⟩ := h
      replace h := chk_some h
      obtain ⟨_, h⟩ := h
      replace h := bnd_some h
      obtain ⟨M10, e4, h⟩ := h
      have F_M10 : Fr [1210] M M10 := by rw [e4]; exact Fr.wI F_M (by decide)
      obtain rfl := Option.some.inj h
      exact F_M10
theorem frX11_waits {a1 : Int32} {a2 : Int32} {a3 : Int32} {M : tM} {w : (tM)} (h : fX11_waits a1 a2 a3 M = some w) : Fr [1268, 1269, 1270, 120071] M w := by
  have F_M : Fr [1268, 1269, 1270, 120071] M M := Fr.refl
  unfold fX11_waits at h
  replace h := chk_some h
  obtain ⟨_, h⟩ := h
  replace h := bnd_some h
  obtain ⟨M2, e1, h⟩ := h
  have F_M2 : Fr [1268, 1269, 1270, 120071] M M2 := by rw [e1]; exact Fr.wI F_M (by decide)
  replace h := chk_some h
  obtain ⟨_, h⟩ := h
  replace h := bnd_some h
  obtain ⟨M4, e2, h⟩ := h
  have F_M4 : Fr [1268, 1269, 1270, 120071] M M4 := by rw [e2]; exact Fr.wI F_M2 (by decide)
  replace h := chk_some h
  obtain ⟨_, h⟩ := h
  replace h := bnd_some h
  obtain ⟨M6, e3, h⟩ := h
  have F_M6 : Fr [1268, 1269, 1270, 120071] M M6 := by rw [e3]; exact Fr.wI F_M4 (by decide)
  replace h := bnd_some h
  obtain ⟨M7, e4, h⟩ := h
  have F_M7 : Fr [1268, 1269, 1270, 120071] M M7 := by rw [e4]; exact Fr.wIo F_M6 (by decide)
  obtain rfl := Option.some.inj h
  exact F_M7
theorem frX11_setWaits_l26_n {z2 : Int32} : ∀ (n : Nat) (y1 : Int32) (y3 : Int32) (M : tM) (w : (Int32 × tM)), fX11_setWaits_l26 z2 n y1 y3 M = some w → Fr [1267] M w.2 := by
  intro n
  induction n with
  | zero => intro y1 y3 M w h; cases h
  | succ n ih =>
    intro y1 y3 M w h
    have F_M : Fr [1267] M M := Fr.refl
    rw [fX11_setWaits_l26] at h
    replace h := chk_some h
    obtain ⟨_, h⟩ := h
    rcases ite_some h with ⟨_, h⟩ | ⟨_, h⟩
    · obtain rfl := Option.some.inj h
      exact F_M
    · replace h := chk_some h
      obtain ⟨_, h⟩ := h
      replace h := chk_some h
      obtain ⟨_, h⟩ := h
      replace h := bnd_some h
      obtain ⟨M9, e1, h⟩ := h
      have F_M9 : Fr [1267] M M9 := by rw [e1]; exact Fr.wI F_M (by decide)
      replace h := bnd_some h
      obtain ⟨x10, e2, h⟩ := h
      replace h := bnd_some h
      obtain ⟨x11, e3, h⟩ := h
      exact Fr.trans F_M9 (ih _ _ _ _ h)
theorem frX11_setWaits_l26 {z2 : Int32} {n : Nat} {y1 : Int32} {y3 : Int32} {M : tM} {w : (Int32 × tM)} (h : fX11_setWaits_l26 z2 n y1 y3 M = some w) : Fr [1267] M w.2 := frX11_setWaits_l26_n n y1 y3 M w h
theorem frX11_setWaits_l9_n : ∀ (n : Nat) (y1 : Int32) (y2 : Int32) (M : tM) (w : (tM)), fX11_setWaits_l9 n y1 y2 M = some w → Fr [1266, 1267] M w := by
  intro n
  induction n with
  | zero => intro y1 y2 M w h; cases h
  | succ n ih =>
    intro y1 y2 M w h
    have F_M : Fr [1266, 1267] M M := Fr.refl
    rw [fX11_setWaits_l9] at h
    rcases ite_some h with ⟨_, h⟩ | ⟨_, h⟩
    · obtain rfl := Option.some.inj h
      exact F_M
    · replace h := chk_some h
      obtain ⟨_, h⟩ := h
      replace h := bnd_some h
      obtain ⟨M4, e1, h⟩ := h
      have F_M4 : Fr [1266, 1267] M M4 := by rw [e1]; exact Fr.wI F_M (by decide)
      replace h := obind_some h
      obtain ⟨w3, c2, h⟩ := h
      obtain ⟨x14, M15⟩ := w3
      dsimp only at h
      have F_M15 : Fr [1266, 1267] M M15 := Fr.step F_M4 (frX11_setWaits_l26 c2) (by decide)
      replace h := bnd_some h
      obtain ⟨x16, e4, h⟩ := h
      exact Fr.trans F_M15 (ih _ _ _ _ h)
theorem frX11_setWaits_l9 {n : Nat} {y1 : Int32} {y2 : Int32} {M : tM} {w : (tM)} (h : fX11_setWaits_l9 n y1 y2 M = some w) : Fr [1266, 1267] M w := frX11_setWaits_l9_n n y1 y2 M w h
theorem frX11_setWaits_l75_n {z2 : Int32} : ∀ (n : Nat) (y3 : Int32) (M : tM) (w : (tM)), fX11_setWaits_l75 z2 n y3 M = some w → Fr [1268, 1269, 1270, 120071] M w := by
  intro n
  induction n with
  | zero => intro y3 M w h; cases h
  | succ n ih =>
    intro y3 M w h
    have F_M : Fr [1268, 1269, 1270, 120071] M M := Fr.refl
    rw [fX11_setWaits_l75] at h
    replace h := chk_some h
    obtain ⟨_, h⟩ := h
    rcases ite_some h with ⟨_, h⟩ | ⟨_, h⟩
    · obtain rfl := Option.some.inj h
      exact F_M
    · replace h := chk_some h
      obtain ⟨_, h⟩ := h
      replace h := chk_some h
      obtain ⟨_, h⟩ := h
      replace h := chk_some h
      obtain ⟨_, h⟩ := h
      replace h := chk_some h
      obtain ⟨_, h⟩ := h
      replace h := chk_some h
      obtain ⟨_, h⟩ := h
      replace h := obind_some h
      obtain ⟨w2, b1, h⟩ := h
      obtain ⟨x29, hq⟩ : ∃ q, q = w2 := ⟨_, rfl⟩
      rw [← hq] at h
      clear hq
      replace h := obind_some h
      obtain ⟨M33, c3, h⟩ := h
      have F_M33 : Fr [1268, 1269, 1270, 120071] M M33 := Fr.step F_M (frX11_waits c3) (by decide)
      replace h := bnd_some h
      obtain ⟨x34, e4, h⟩ := h
      exact Fr.trans F_M33 (ih _ _ _ h)
theorem frX11_setWaits_l75 {z2 : Int32} {n : Nat} {y3 : Int32} {M : tM} {w : (tM)} (h : fX11_setWaits_l75 z2 n y3 M = some w) : Fr [1268, 1269, 1270, 120071] M w := frX11_setWaits_l75_n n y3 M w h
theorem frX11_setWaits_l65_n : ∀ (n : Nat) (y2 : Int32) (M : tM) (w : (tM)), fX11_setWaits_l65 n y2 M = some w → Fr [1268, 1269, 1270, 120071] M w := by
  intro n
  induction n with
  | zero => intro y2 M w h; cases h
  | succ n ih =>
    intro y2 M w h
    have F_M : Fr [1268, 1269, 1270, 120071] M M := Fr.refl
    rw [fX11_setWaits_l65] at h
    rcases ite_some h with ⟨_, h⟩ | ⟨_, h⟩
    · obtain rfl := Option.some.inj h
      exact F_M
    · replace h := obind_some h
      obtain ⟨M37, c1, h⟩ := h
      have F_M37 : Fr [1268, 1269, 1270, 120071] M M37 := Fr.step F_M (frX11_setWaits_l75 c1) (by decide)
      replace h := bnd_some h
      obtain ⟨x38, e2, h⟩ := h
      exact Fr.trans F_M37 (ih _ _ _ h)
theorem frX11_setWaits_l65 {n : Nat} {y2 : Int32} {M : tM} {w : (tM)} (h : fX11_setWaits_l65 n y2 M = some w) : Fr [1268, 1269, 1270, 120071] M w := frX11_setWaits_l65_n n y2 M w h
theorem frX11_setWaits_l165_n {z2 : Int32} {z4 : Int32} : ∀ (n : Nat) (y3 : Int32) (y5 : Int32) (M : tM) (w : (tM)), fX11_setWaits_l165 z2 z4 n y3 y5 M = some w → Fr [1268, 1269, 1270, 120071] M w := by
  intro n
  induction n with
  | zero => intro y3 y5 M w h; cases h
  | succ n ih =>
    intro y3 y5 M w h
    have F_M : Fr [1268, 1269, 1270, 120071] M M := Fr.refl
    rw [fX11_setWaits_l165] at h
    replace h := chk_some h
    obtain ⟨_, h⟩ := h
    replace h := chk_some h
    obtain ⟨_, h⟩ := h
    rcases ite_some h with ⟨_, h⟩ | ⟨_, h⟩
    · obtain rfl := Option.some.inj h
      exact F_M
    · replace h := chk_some h
      obtain ⟨_, h⟩ := h
      replace h := chk_some h
      obtain ⟨_, h⟩ := h
      replace h := chk_some h
      obtain ⟨_, h⟩ := h
      replace h := chk_some h
      obtain ⟨_, h⟩ := h
      replace h := bnd_some h
      obtain ⟨x52, e1, h⟩ := h
      replace h := bnd_some h
      obtain ⟨x53, e2, h⟩ := h
      replace h := obind_some h
      obtain ⟨w4, b3, h⟩ := h
      have G_w4 : Fr [1268, 1269, 1270, 120071] M w4 := by
        clear h
        replace h := b3
        clear b3
        rcases ite_some h with ⟨_, h⟩ | ⟨_, h⟩
        · obtain rfl := Option.some.inj h
          exact F_M
        · replace h := obind_some h
          obtain ⟨x55, c5, h⟩ := h
          replace h := chk_some h
          obtain ⟨_, h⟩ := h
          replace h := chk_some h
          obtain ⟨_, h⟩ := h
          replace h := chk_some h
          obtain ⟨_, h⟩ := h
          replace h := chk_some h
          obtain ⟨_, h⟩ := h
          replace h := obind_some h
          obtain ⟨x61, c6, h⟩ := h
          replace h := chk_some h
          obtain ⟨_, h⟩ := h
          replace h := obind_some h
          obtain ⟨x64, c7, h⟩ := h
          replace h := obind_some h
          obtain ⟨M67, c8, h⟩ := h
          have F_M67 : Fr [1268, 1269, 1270, 120071] M M67 := Fr.step F_M (frX11_waits c8) (by decide)
          obtain rfl := Option.some.inj h
          exact F_M67
      have F_w4 := G_w4
      obtain ⟨M55, hq⟩ : ∃ q, q = w4 := ⟨_, rfl⟩
      rw [← hq] at h
      have F_M55 : Fr [1268, 1269, 1270, 120071] M M55 := by rw [hq]; exact F_w4
      clear hq
      replace h := bnd_some h
      obtain ⟨x68, e9, h⟩ := h
      exact Fr.trans F_M55 (ih _ _ _ _ h)
theorem frX11_setWaits_l165 {z2 : Int32} {z4 : Int32} {n : Nat} {y3 : Int32} {y5 : Int32} {M : tM} {w : (tM)} (h : fX11_setWaits_l165 z2 z4 n y3 y5 M = some w) : Fr [1268, 1269, 1270, 120071] M w := frX11_setWaits_l165_n n y3 y5 M w h
theorem frX11_setWaits_l144_n : ∀ (n : Nat) (y2 : Int32) (M : tM) (w : (tM)), fX11_setWaits_l144 n y2 M = some w → Fr [1268, 1269, 1270, 120071] M w := by
  intro n
  induction n with
  | zero => intro y2 M w h; cases h
  | succ n ih =>
    intro y2 M w h
    have F_M : Fr [1268, 1269, 1270, 120071] M M := Fr.refl
    rw [fX11_setWaits_l144] at h
    rcases ite_some h with ⟨_, h⟩ | ⟨_, h⟩
    · obtain rfl := Option.some.inj h
      exact F_M
    · replace h := chk_some h
      obtain ⟨_, h⟩ := h
      replace h := bnd_some h
      obtain ⟨x44, e1, h⟩ := h
      replace h := obind_some h
      obtain ⟨M71, c2, h⟩ := h
      have F_M71 : Fr [1268, 1269, 1270, 120071] M M71 := Fr.step F_M (frX11_setWaits_l165 c2) (by decide)
      replace h := bnd_some h
      obtain ⟨x72, e3, h⟩ := h
      exact Fr.trans F_M71 (ih _ _ _ h)
theorem frX11_setWaits_l144 {n : Nat} {y2 : Int32} {M : tM} {w : (tM)} (h : fX11_setWaits_l144 n y2 M = some w) : Fr [1268, 1269, 1270, 120071] M w := frX11_setWaits_l144_n n y2 M w h
theorem frX11_setWaits {M : tM} {w : (tM)} (h : fX11_setWaits M = some w) : Fr [1266, 1267, 1268, 1269, 1270, 120071] M w := by
  have F_M : Fr [1266, 1267, 1268, 1269, 1270, 120071] M M := Fr.refl
  unfold fX11_setWaits at h
  replace h := bnd_some h
  obtain ⟨M1, e1, h⟩ := h
  have F_M1 : Fr [1266, 1267, 1268, 1269, 1270, 120071] M M1 := by rw [e1]; exact Fr.wIo F_M (by decide)
  replace h := obind_some h
  obtain ⟨M19, c2, h⟩ := h
  have F_M19 : Fr [1266, 1267, 1268, 1269, 1270, 120071] M M19 := Fr.step F_M1 (frX11_setWaits_l9 c2) (by decide)
  replace h := obind_some h
  obtain ⟨M41, c3, h⟩ := h
  have F_M41 : Fr [1266, 1267, 1268, 1269, 1270, 120071] M M41 := Fr.step F_M19 (frX11_setWaits_l65 c3) (by decide)
  replace h := obind_some h
  obtain ⟨M75, c4, h⟩ := h
  have F_M75 : Fr [1266, 1267, 1268, 1269, 1270, 120071] M M75 := Fr.step F_M41 (frX11_setWaits_l144 c4) (by decide)
  obtain rfl := Option.some.inj h
  exact F_M75
theorem frX11_isLonger_l2_n : ∀ (n : Nat) (y1 : Int32) (M : tM) (w : (tM)), fX11_isLonger_l2 n y1 M = some w → Fr [1272, 1273] M w := by
  intro n
  induction n with
  | zero => intro y1 M w h; cases h
  | succ n ih =>
    intro y1 M w h
    have F_M : Fr [1272, 1273] M M := Fr.refl
    rw [fX11_isLonger_l2] at h
    rcases ite_some h with ⟨_, h⟩ | ⟨_, h⟩
    · obtain rfl := Option.some.inj h
      exact F_M
    · replace h := chk_some h
      obtain ⟨_, h⟩ := h
      replace h := bnd_some h
      obtain ⟨M3, e1, h⟩ := h
      have F_M3 : Fr [1272, 1273] M M3 := by rw [e1]; exact Fr.wL F_M (by decide)
      replace h := chk_some h
      obtain ⟨_, h⟩ := h
      replace h := bnd_some h
      obtain ⟨M5, e2, h⟩ := h
      have F_M5 : Fr [1272, 1273] M M5 := by rw [e2]; exact Fr.wI F_M3 (by decide)
      replace h := bnd_some h
      obtain ⟨x6, e3, h⟩ := h
      exact Fr.trans F_M5 (ih _ _ _ h)
theorem frX11_isLonger_l2 {n : Nat} {y1 : Int32} {M : tM} {w : (tM)} (h : fX11_isLonger_l2 n y1 M = some w) : Fr [1272, 1273] M w := frX11_isLonger_l2_n n y1 M w h
theorem frX11_isLonger_l49_n {z2 : Int32} : ∀ (n : Nat) (y1 : Int32) (y3 : Int32) (M : tM) (w : (Int32 × tM)), fX11_isLonger_l49 z2 n y1 y3 M = some w → Fr [1272, 1273] M w.2 := by
  intro n
  induction n with
  | zero => intro y1 y3 M w h; cases h
  | succ n ih =>
    intro y1 y3 M w h
    have F_M : Fr [1272, 1273] M M := Fr.refl
    rw [fX11_isLonger_l49] at h
    rcases ite_some h with ⟨_, h⟩ | ⟨_, h⟩
    · obtain rfl := Option.some.inj h
      exact F_M
    · replace h := chk_some h
      obtain ⟨_, h⟩ := h
      replace h := chk_some h
      obtain ⟨_, h⟩ := h
      replace h := chk_some h
      obtain ⟨_, h⟩ := h
      replace h := chk_some h
      obtain ⟨_, h⟩ := h
      replace h := chk_some h
      obtain ⟨_, h⟩ := h
      replace h := bnd_some h
      obtain ⟨x17, e1, h⟩ := h
      replace h := chk_some h
      obtain ⟨_, h⟩ := h
      replace h := chk_some h
      obtain ⟨_, h⟩ := h
      replace h := obind_some h
      obtain ⟨w3, b2, h⟩ := h
      have G_w3 : Fr [1272, 1273] M w3.2 := by
        clear h
        replace h := b2
        clear b2
        rcases ite_some h with ⟨_, h⟩ | ⟨_, h⟩
        · obtain rfl := Option.some.inj h
          exact F_M
        · replace h := chk_some h
          obtain ⟨_, h⟩ := h
          replace h := chk_some h
          obtain ⟨_, h⟩ := h
          replace h := bnd_some h
          obtain ⟨M23, e4, h⟩ := h
          have F_M23 : Fr [1272, 1273] M M23 := by rw [e4]; exact Fr.wL F_M (by decide)
          replace h := chk_some h
          obtain ⟨_, h⟩ := h
          replace h := chk_some h
          obtain ⟨_, h⟩ := h
          replace h := bnd_some h
          obtain ⟨M26, e5, h⟩ := h
          have F_M26 : Fr [1272, 1273] M M26 := by rw [e5]; exact Fr.wI F_M23 (by decide)
          replace h := chk_some h
          obtain ⟨_, h⟩ := h
          replace h := bnd_some h
          obtain ⟨x28, e6, h⟩ := h
          obtain rfl := Option.some.inj h
          exact F_M26
      obtain ⟨x21, M22⟩ := w3
      dsimp only at h
      have F_M22 : Fr [1272, 1273] M M22 := G_w3
      replace h := bnd_some h
      obtain ⟨x29, e7, h⟩ := h
      exact Fr.trans F_M22 (ih _ _ _ _ h)
theorem frX11_isLonger_l49 {z2 : Int32} {n : Nat} {y1 : Int32} {y3 : Int32} {M : tM} {w : (Int32 × tM)} (h : fX11_isLonger_l49 z2 n y1 y3 M = some w) : Fr [1272, 1273] M w.2 := frX11_isLonger_l49_n n y1 y3 M w h
theorem frX11_isLonger_l36_n : ∀ (n : Nat) (y1 : Int32) (y2 : Int32) (M : tM) (w : ((Int32 × tM) ⊕ (Int32 × tM))), fX11_isLonger_l36 n y1 y2 M = some w → Fr [1272, 1273] M (Sum.elim (fun q => q.2) (fun q => q.2) w) := by
  intro n
  induction n with
  | zero => intro y1 y2 M w h; cases h
  | succ n ih =>
    intro y1 y2 M w h
    have F_M : Fr [1272, 1273] M M := Fr.refl
    rw [fX11_isLonger_l36] at h
    rcases ite_some h with ⟨_, h⟩ | ⟨_, h⟩
    · obtain rfl := Option.some.inj h
      exact F_M
    · replace h := obind_some h
      obtain ⟨w2, c1, h⟩ := h
      obtain ⟨x32, M33⟩ := w2
      dsimp only at h
      have F_M33 : Fr [1272, 1273] M M33 := Fr.step F_M (frX11_isLonger_l49 c1) (by decide)
      rcases ite_some h with ⟨_, h⟩ | ⟨_, h⟩
      · replace h := bnd_some h
        obtain ⟨x35, e3, h⟩ := h
        exact Fr.trans F_M33 (ih _ _ _ _ h)
      · obtain rfl := Option.some.inj h
        exact F_M33
theorem frX11_isLonger_l36 {n : Nat} {y1 : Int32} {y2 : Int32} {M : tM} {w : ((Int32 × tM) ⊕ (Int32 × tM))} (h : fX11_isLonger_l36 n y1 y2 M = some w) : Fr [1272, 1273] M (Sum.elim (fun q => q.2) (fun q => q.2) w) := frX11_isLonger_l36_n n y1 y2 M w h
theorem frX11_isLonger {M : tM} {w : (Int32 × tM)} (h : fX11_isLonger M = some w) : Fr [1272, 1273, 120074, 120075] M w.2 := by
  have F_M : Fr [1272, 1273, 120074, 120075] M M := Fr.refl
  unfold fX11_isLonger at h
  replace h := obind_some h
  obtain ⟨M9, c1, h⟩ := h
  have F_M9 : Fr [1272, 1273, 120074, 120075] M M9 := Fr.step F_M (frX11_isLonger_l2 c1) (by decide)
  replace h := obind_some h
  obtain ⟨w3, c2, h⟩ := h
  have F_w := Fr.step F_M9 (frX11_isLonger_l36 c2) (ks2 := [1272, 1273, 120074, 120075]) (by decide)
  rcases w3 with q71 | v0
  · dsimp only at h
    obtain rfl := Option.some.inj h
    exact F_w
  · dsimp only at h
    obtain ⟨x38, M39⟩ := v0
    dsimp only at h
    have F_M39 : Fr [1272, 1273, 120074, 120075] M M39 := F_w
    replace h := obind_some h
    obtain ⟨x47, c4, h⟩ := h
    replace h := obind_some h
    obtain ⟨w6, c5, h⟩ := h
    obtain ⟨x63, x64⟩ := w6
    dsimp only at h
    replace h := obind_some h
    obtain ⟨x65, c7, h⟩ := h
    replace h := chk_some h
    obtain ⟨_, h⟩ := h
    replace h := bnd_some h
    obtain ⟨M68, e8, h⟩ := h
    have F_M68 : Fr [1272, 1273, 120074, 120075] M M68 := by rw [e8]; exact Fr.wLo F_M39 (by decide)
    replace h := chk_some h
    obtain ⟨_, h⟩ := h
    replace h := bnd_some h
    obtain ⟨M70, e9, h⟩ := h
    have F_M70 : Fr [1272, 1273, 120074, 120075] M M70 := by rw [e9]; exact Fr.wLo F_M68 (by decide)
    obtain rfl := Option.some.inj h
    exact F_M70
theorem frX11_beat_l40_n {z1 : Int32} : ∀ (n : Nat) (y3 : Int32) (M : tM) (w : (tM)), fX11_beat_l40 z1 n y3 M = some w → Fr [1272, 1273, 120074, 120075] M w := by
  intro n
  induction n with
  | zero => intro y3 M w h; cases h
  | succ n ih =>
    intro y3 M w h
    have F_M : Fr [1272, 1273, 120074, 120075] M M := Fr.refl
    rw [fX11_beat_l40] at h
    rcases ite_some h with ⟨_, h⟩ | ⟨_, h⟩
    · obtain rfl := Option.some.inj h
      exact F_M
    · replace h := obind_some h
      obtain ⟨w2, c1, h⟩ := h
      obtain ⟨x11, M13⟩ := w2
      dsimp only at h
      have F_M13 : Fr [1272, 1273, 120074, 120075] M M13 := Fr.step F_M (frX11_isLonger c1) (by decide)
      exact Fr.trans F_M13 (ih _ _ _ h)
theorem frX11_beat_l40 {z1 : Int32} {n : Nat} {y3 : Int32} {M : tM} {w : (tM)} (h : fX11_beat_l40 z1 n y3 M = some w) : Fr [1272, 1273, 120074, 120075] M w := frX11_beat_l40_n n y3 M w h
theorem frX11_beat {a1 : Int32} {M : tM} {w : (Int32 × tM)} (h : fX11_beat a1 M = some w) : Fr [1232, 1233, 1234, 1235, 1238, 1239, 1240, 1266, 1267, 1268, 1269, 1270, 1272, 1273, 120036, 120037, 120071, 120074, 120075] M w.2 := by
  have F_M : Fr [1232, 1233, 1234, 1235, 1238, 1239, 1240, 1266, 1267, 1268, 1269, 1270, 1272, 1273, 120036, 120037, 120071, 120074, 120075] M M := Fr.refl
  unfold fX11_beat at h
  replace h := obind_some h
  obtain ⟨w2, c1, h⟩ := h
  obtain ⟨x1, M3⟩ := w2
  dsimp only at h
  have F_M3 : Fr [1232, 1233, 1234, 1235, 1238, 1239, 1240, 1266, 1267, 1268, 1269, 1270, 1272, 1273, 120036, 120037, 120071, 120074, 120075] M M3 := Fr.step F_M (frX11_barred c1) (by decide)
  rcases ite_some h with ⟨_, h⟩ | ⟨_, h⟩
  · rcases ite_some h with ⟨_, h⟩ | ⟨_, h⟩
    · replace h := obind_some h
      obtain ⟨M7, c3, h⟩ := h
      have F_M7 : Fr [1232, 1233, 1234, 1235, 1238, 1239, 1240, 1266, 1267, 1268, 1269, 1270, 1272, 1273, 120036, 120037, 120071, 120074, 120075] M M7 := Fr.step F_M3 (frX11_setWaits c3) (by decide)
      replace h := bnd_some h
      obtain ⟨M8, e4, h⟩ := h
      have F_M8 : Fr [1232, 1233, 1234, 1235, 1238, 1239, 1240, 1266, 1267, 1268, 1269, 1270, 1272, 1273, 120036, 120037, 120071, 120074, 120075] M M8 := by rw [e4]; exact Fr.wLo F_M7 (by decide)
      replace h := bnd_some h
      obtain ⟨M9, e5, h⟩ := h
      have F_M9 : Fr [1232, 1233, 1234, 1235, 1238, 1239, 1240, 1266, 1267, 1268, 1269, 1270, 1272, 1273, 120036, 120037, 120071, 120074, 120075] M M9 := by rw [e5]; exact Fr.wLo F_M8 (by decide)
      replace h := obind_some h
      obtain ⟨M16, c6, h⟩ := h
      have F_M16 : Fr [1232, 1233, 1234, 1235, 1238, 1239, 1240, 1266, 1267, 1268, 1269, 1270, 1272, 1273, 120036, 120037, 120071, 120074, 120075] M M16 := Fr.step F_M9 (frX11_beat_l40 c6) (by decide)
      rcases ite_some h with ⟨_, h⟩ | ⟨_, h⟩
      · obtain rfl := Option.some.inj h
        exact F_M16
      · obtain rfl := Option.some.inj h
        exact F_M16
    · obtain rfl := Option.some.inj h
      exact F_M3
  · obtain rfl := Option.some.inj h
    exact F_M3
theorem frX11_body {a1 : Int32} {M : tM} {w : (tM)} (h : fX11_body a1 M = some w) : Fr [1227, 120028] M w := by
  have F_M : Fr [1227, 120028] M M := Fr.refl
  unfold fX11_body at h
  replace h := chk_some h
  obtain ⟨_, h⟩ := h
  replace h := bnd_some h
  obtain ⟨M2, e1, h⟩ := h
  have F_M2 : Fr [1227, 120028] M M2 := by rw [e1]; exact Fr.wI F_M (by decide)
  replace h := bnd_some h
  obtain ⟨M3, e2, h⟩ := h
  have F_M3 : Fr [1227, 120028] M M3 := by rw [e2]; exact Fr.wIo F_M2 (by decide)
  obtain rfl := Option.some.inj h
  exact F_M3
theorem frX11_fixed {a1 : Int32} {M : tM} {w : (Int64 × tM)} (h : fX11_fixed a1 M = some w) : Fr [1227, 120028] M w.2 := by
  have F_M : Fr [1227, 120028] M M := Fr.refl
  unfold fX11_fixed at h
  replace h := obind_some h
  obtain ⟨M2, c1, h⟩ := h
  have F_M2 : Fr [1227, 120028] M M2 := Fr.step F_M (frX11_body c1) (by decide)
  replace h := obind_some h
  obtain ⟨x3, c2, h⟩ := h
  obtain rfl := Option.some.inj h
  exact F_M2
theorem frX11_scaled {a1 : Int32} {M : tM} {w : (Int64 × tM)} (h : fX11_scaled a1 M = some w) : Fr [1227, 120028] M w.2 := by
  have F_M : Fr [1227, 120028] M M := Fr.refl
  unfold fX11_scaled at h
  replace h := obind_some h
  obtain ⟨M2, c1, h⟩ := h
  have F_M2 : Fr [1227, 120028] M M2 := Fr.step F_M (frX11_body c1) (by decide)
  replace h := chk_some h
  obtain ⟨_, h⟩ := h
  replace h := obind_some h
  obtain ⟨w3, c2, h⟩ := h
  obtain ⟨x4, M6⟩ := w3
  dsimp only at h
  have F_M6 : Fr [1227, 120028] M M6 := Fr.step F_M2 (frX11_fixed c2) (by decide)
  obtain rfl := Option.some.inj h
  exact F_M6
theorem frX11_shared {a1 : Int32} {M : tM} {w : (Int64 × tM)} (h : fX11_shared a1 M = some w) : Fr [1227, 120028, 120076] M w.2 := by
  have F_M : Fr [1227, 120028, 120076] M M := Fr.refl
  unfold fX11_shared at h
  replace h := obind_some h
  obtain ⟨M2, c1, h⟩ := h
  have F_M2 : Fr [1227, 120028, 120076] M M2 := Fr.step F_M (frX11_body c1) (by decide)
  replace h := obind_some h
  obtain ⟨w3, c2, h⟩ := h
  obtain ⟨x3, M5⟩ := w3
  dsimp only at h
  have F_M5 : Fr [1227, 120028, 120076] M M5 := Fr.step F_M2 (frX11_scaled c2) (by decide)
  replace h := obind_some h
  obtain ⟨x18, c4, h⟩ := h
  rcases ite_some h with ⟨_, h⟩ | ⟨_, h⟩
  · replace h := bnd_some h
    obtain ⟨M21, e5, h⟩ := h
    have F_M21 : Fr [1227, 120028, 120076] M M21 := by rw [e5]; exact Fr.wIo F_M5 (by decide)
    obtain rfl := Option.some.inj h
    exact F_M21
  · replace h := chk_some h
    obtain ⟨_, h⟩ := h
    obtain rfl := Option.some.inj h
    exact F_M5
theorem frX11_delayed_l53_n {z1 : Int32} {z2 : Int64} {z4 : Int64} : ∀ (n : Nat) (y6 : Int32) (M : tM) (w : (tM)), fX11_delayed_l53 z1 z2 z4 n y6 M = some w → Fr [1209] M w := by
  intro n
  induction n with
  | zero => intro y6 M w h; cases h
  | succ n ih =>
    intro y6 M w h
    have F_M : Fr [1209] M M := Fr.refl
    rw [fX11_delayed_l53] at h
    replace h := chk_some h
    obtain ⟨_, h⟩ := h
    rcases ite_some h with ⟨_, h⟩ | ⟨_, h⟩
    · obtain rfl := Option.some.inj h
      exact F_M
    · replace h := chk_some h
      obtain ⟨_, h⟩ := h
      replace h := chk_some h
      obtain ⟨_, h⟩ := h
      replace h := bnd_some h
      obtain ⟨M16, e1, h⟩ := h
      have F_M16 : Fr [1209] M M16 := by rw [e1]; exact Fr.wL F_M (by decide)
      replace h := bnd_some h
      obtain ⟨x17, e2, h⟩ := h
      exact Fr.trans F_M16 (ih _ _ _ h)
theorem frX11_delayed_l53 {z1 : Int32} {z2 : Int64} {z4 : Int64} {n : Nat} {y6 : Int32} {M : tM} {w : (tM)} (h : fX11_delayed_l53 z1 z2 z4 n y6 M = some w) : Fr [1209] M w := frX11_delayed_l53_n n y6 M w h
theorem frX11_delayed {a1 : Int32} {M : tM} {w : (Int64 × tM)} (h : fX11_delayed a1 M = some w) : Fr [1209, 1227, 120028, 120076] M w.2 := by
  have F_M : Fr [1209, 1227, 120028, 120076] M M := Fr.refl
  unfold fX11_delayed at h
  replace h := obind_some h
  obtain ⟨M2, c1, h⟩ := h
  have F_M2 : Fr [1209, 1227, 120028, 120076] M M2 := Fr.step F_M (frX11_body c1) (by decide)
  replace h := chk_some h
  obtain ⟨_, h⟩ := h
  rcases ite_some h with ⟨_, h⟩ | ⟨_, h⟩
  · replace h := obind_some h
    obtain ⟨w3, c2, h⟩ := h
    obtain ⟨x5, M7⟩ := w3
    dsimp only at h
    have F_M7 : Fr [1209, 1227, 120028, 120076] M M7 := Fr.step F_M2 (frX11_fixed c2) (by decide)
    replace h := chk_some h
    obtain ⟨_, h⟩ := h
    rcases ite_some h with ⟨_, h⟩ | ⟨_, h⟩
    · obtain rfl := Option.some.inj h
      exact F_M7
    · replace h := chk_some h
      obtain ⟨_, h⟩ := h
      replace h := bnd_some h
      obtain ⟨x11, e4, h⟩ := h
      replace h := obind_some h
      obtain ⟨M20, c5, h⟩ := h
      have F_M20 : Fr [1209, 1227, 120028, 120076] M M20 := Fr.step F_M7 (frX11_delayed_l53 c5) (by decide)
      replace h := chk_some h
      obtain ⟨_, h⟩ := h
      replace h := chk_some h
      obtain ⟨_, h⟩ := h
      replace h := bnd_some h
      obtain ⟨M23, e6, h⟩ := h
      have F_M23 : Fr [1209, 1227, 120028, 120076] M M23 := by rw [e6]; exact Fr.wL F_M20 (by decide)
      obtain rfl := Option.some.inj h
      exact F_M23
  · replace h := bnd_some h
    obtain ⟨M24, e7, h⟩ := h
    have F_M24 : Fr [1209, 1227, 120028, 120076] M M24 := by rw [e7]; exact Fr.wIo F_M2 (by decide)
    obtain rfl := Option.some.inj h
    exact F_M24
theorem frX11_works {a1 : Int32} {M : tM} {w : (Int64 × tM)} (h : fX11_works a1 M = some w) : Fr [1209, 1220, 1227, 120028, 120076] M w.2 := by
  have F_M : Fr [1209, 1220, 1227, 120028, 120076] M M := Fr.refl
  unfold fX11_works at h
  replace h := chk_some h
  obtain ⟨_, h⟩ := h
  replace h := bnd_some h
  obtain ⟨x2, e1, h⟩ := h
  rcases ite_some h with ⟨_, h⟩ | ⟨_, h⟩
  · replace h := obind_some h
    obtain ⟨w3, c2, h⟩ := h
    obtain ⟨x4, M6⟩ := w3
    dsimp only at h
    have F_M6 : Fr [1209, 1220, 1227, 120028, 120076] M M6 := Fr.step F_M (frX11_delayed c2) (by decide)
    obtain rfl := Option.some.inj h
    exact F_M6
  · rcases ite_some h with ⟨_, h⟩ | ⟨_, h⟩
    · replace h := obind_some h
      obtain ⟨w5, c4, h⟩ := h
      obtain ⟨x7, M9⟩ := w5
      dsimp only at h
      have F_M9 : Fr [1209, 1220, 1227, 120028, 120076] M M9 := Fr.step F_M (frX11_fixed c4) (by decide)
      obtain rfl := Option.some.inj h
      exact F_M9
    · rcases ite_some h with ⟨_, h⟩ | ⟨_, h⟩
      · replace h := obind_some h
        obtain ⟨w7, c6, h⟩ := h
        obtain ⟨x11, M13⟩ := w7
        dsimp only at h
        have F_M13 : Fr [1209, 1220, 1227, 120028, 120076] M M13 := Fr.step F_M (frX11_scaled c6) (by decide)
        obtain rfl := Option.some.inj h
        exact F_M13
      · rcases ite_some h with ⟨_, h⟩ | ⟨_, h⟩
        · replace h := obind_some h
          obtain ⟨M16, c8, h⟩ := h
          have F_M16 : Fr [1209, 1220, 1227, 120028, 120076] M M16 := Fr.step F_M (frX11_body c8) (by decide)
          replace h := chk_some h
          obtain ⟨_, h⟩ := h
          replace h := obind_some h
          obtain ⟨w10, c9, h⟩ := h
          obtain ⟨x18, M20⟩ := w10
          dsimp only at h
          have F_M20 : Fr [1209, 1220, 1227, 120028, 120076] M M20 := Fr.step F_M16 (frX11_scaled c9) (by decide)
          replace h := chk_some h
          obtain ⟨_, h⟩ := h
          replace h := bnd_some h
          obtain ⟨M22, e11, h⟩ := h
          have F_M22 : Fr [1209, 1220, 1227, 120028, 120076] M M22 := by rw [e11]; exact Fr.wL F_M20 (by decide)
          replace h := chk_some h
          obtain ⟨_, h⟩ := h
          obtain rfl := Option.some.inj h
          exact F_M22
        · rcases ite_some h with ⟨_, h⟩ | ⟨_, h⟩
          · replace h := obind_some h
            obtain ⟨w13, c12, h⟩ := h
            obtain ⟨x25, M27⟩ := w13
            dsimp only at h
            have F_M27 : Fr [1209, 1220, 1227, 120028, 120076] M M27 := Fr.step F_M (frX11_shared c12) (by decide)
            obtain rfl := Option.some.inj h
            exact F_M27
          · rcases ite_some h with ⟨_, h⟩ | ⟨_, h⟩
            · replace h := obind_some h
              obtain ⟨M30, c14, h⟩ := h
              have F_M30 : Fr [1209, 1220, 1227, 120028, 120076] M M30 := Fr.step F_M (frX11_body c14) (by decide)
              replace h := obind_some h
              obtain ⟨w16, c15, h⟩ := h
              obtain ⟨x31, M33⟩ := w16
              dsimp only at h
              have F_M33 : Fr [1209, 1220, 1227, 120028, 120076] M M33 := Fr.step F_M30 (frX11_fixed c15) (by decide)
              replace h := chk_some h
              obtain ⟨_, h⟩ := h
              obtain rfl := Option.some.inj h
              exact F_M33
            · cases h
theorem frX11_moves_l45_n {z1 : Int32} {z2 : Int64} {z4 : Int32} {z5 : Int32} : ∀ (n : Nat) (y6 : Int32) (M : tM) (w : (tM)), fX11_moves_l45 z1 z2 z4 z5 n y6 M = some w → Fr [1222] M w := by
  intro n
  induction n with
  | zero => intro y6 M w h; cases h
  | succ n ih =>
    intro y6 M w h
    have F_M : Fr [1222] M M := Fr.refl
    rw [fX11_moves_l45] at h
    replace h := chk_some h
    obtain ⟨_, h⟩ := h
    rcases ite_some h with ⟨_, h⟩ | ⟨_, h⟩
    · obtain rfl := Option.some.inj h
      exact F_M
    · replace h := chk_some h
      obtain ⟨_, h⟩ := h
      replace h := chk_some h
      obtain ⟨_, h⟩ := h
      replace h := bnd_some h
      obtain ⟨M11, e1, h⟩ := h
      have F_M11 : Fr [1222] M M11 := by rw [e1]; exact Fr.wL F_M (by decide)
      replace h := bnd_some h
      obtain ⟨x12, e2, h⟩ := h
      exact Fr.trans F_M11 (ih _ _ _ h)
theorem frX11_moves_l45 {z1 : Int32} {z2 : Int64} {z4 : Int32} {z5 : Int32} {n : Nat} {y6 : Int32} {M : tM} {w : (tM)} (h : fX11_moves_l45 z1 z2 z4 z5 n y6 M = some w) : Fr [1222] M w := frX11_moves_l45_n n y6 M w h
theorem frX11_moves_l3_n {z1 : Int32} {z2 : Int64} : ∀ (n : Nat) (y4 : Int32) (M : tM) (w : (tM)), fX11_moves_l3 z1 z2 n y4 M = some w → Fr [1221, 1222] M w := by
  intro n
  induction n with
  | zero => intro y4 M w h; cases h
  | succ n ih =>
    intro y4 M w h
    have F_M : Fr [1221, 1222] M M := Fr.refl
    rw [fX11_moves_l3] at h
    rcases ite_some h with ⟨_, h⟩ | ⟨_, h⟩
    · obtain rfl := Option.some.inj h
      exact F_M
    · replace h := chk_some h
      obtain ⟨_, h⟩ := h
      replace h := obind_some h
      obtain ⟨w2, b1, h⟩ := h
      have G_w2 : Fr [1221, 1222] M w2 := by
        clear h
        replace h := b1
        clear b1
        rcases ite_some h with ⟨_, h⟩ | ⟨_, h⟩
        · replace h := chk_some h
          obtain ⟨_, h⟩ := h
          replace h := chk_some h
          obtain ⟨_, h⟩ := h
          replace h := bnd_some h
          obtain ⟨x6, e3, h⟩ := h
          replace h := obind_some h
          obtain ⟨M15, c4, h⟩ := h
          have F_M15 : Fr [1221, 1222] M M15 := Fr.step F_M (frX11_moves_l45 c4) (by decide)
          replace h := chk_some h
          obtain ⟨_, h⟩ := h
          replace h := chk_some h
          obtain ⟨_, h⟩ := h
          replace h := bnd_some h
          obtain ⟨M18, e5, h⟩ := h
          have F_M18 : Fr [1221, 1222] M M18 := by rw [e5]; exact Fr.wI F_M15 (by decide)
          obtain rfl := Option.some.inj h
          exact F_M18
        · obtain rfl := Option.some.inj h
          exact F_M
      have F_w2 := G_w2
      obtain ⟨M4, hq⟩ : ∃ q, q = w2 := ⟨_, rfl⟩
      rw [← hq] at h
      have F_M4 : Fr [1221, 1222] M M4 := by rw [hq]; exact F_w2
      clear hq
      replace h := bnd_some h
      obtain ⟨x19, e6, h⟩ := h
      exact Fr.trans F_M4 (ih _ _ _ h)
theorem frX11_moves_l3 {z1 : Int32} {z2 : Int64} {n : Nat} {y4 : Int32} {M : tM} {w : (tM)} (h : fX11_moves_l3 z1 z2 n y4 M = some w) : Fr [1221, 1222] M w := frX11_moves_l3_n n y4 M w h
theorem frX11_moves_l127_n {z1 : Int32} {z2 : Int64} {z4 : Int32} : ∀ (n : Nat) (y5 : Int32) (M : tM) (w : (tM)), fX11_moves_l127 z1 z2 z4 n y5 M = some w → Fr [1221, 1222, 1223, 1224] M w := by
  intro n
  induction n with
  | zero => intro y5 M w h; cases h
  | succ n ih =>
    intro y5 M w h
    have F_M : Fr [1221, 1222, 1223, 1224] M M := Fr.refl
    rw [fX11_moves_l127] at h
    replace h := chk_some h
    obtain ⟨_, h⟩ := h
    replace h := chk_some h
    obtain ⟨_, h⟩ := h
    rcases ite_some h with ⟨_, h⟩ | ⟨_, h⟩
    · obtain rfl := Option.some.inj h
      exact F_M
    · replace h := chk_some h
      obtain ⟨_, h⟩ := h
      rcases ite_some h with ⟨_, h⟩ | ⟨_, h⟩
      · replace h := chk_some h
        obtain ⟨_, h⟩ := h
        replace h := chk_some h
        obtain ⟨_, h⟩ := h
        replace h := bnd_some h
        obtain ⟨M31, e1, h⟩ := h
        have F_M31 : Fr [1221, 1222, 1223, 1224] M M31 := by rw [e1]; exact Fr.wL F_M (by decide)
        replace h := chk_some h
        obtain ⟨_, h⟩ := h
        replace h := chk_some h
        obtain ⟨_, h⟩ := h
        replace h := bnd_some h
        obtain ⟨M34, e2, h⟩ := h
        have F_M34 : Fr [1221, 1222, 1223, 1224] M M34 := by rw [e2]; exact Fr.wI F_M31 (by decide)
        replace h := chk_some h
        obtain ⟨_, h⟩ := h
        replace h := obind_some h
        obtain ⟨w4, b3, h⟩ := h
        have G_w4 : Fr [1221, 1222, 1223, 1224] M w4 := by
          clear h
          replace h := b3
          clear b3
          rcases ite_some h with ⟨_, h⟩ | ⟨_, h⟩
          · obtain rfl := Option.some.inj h
            exact F_M34
          · replace h := chk_some h
            obtain ⟨_, h⟩ := h
            replace h := chk_some h
            obtain ⟨_, h⟩ := h
            replace h := bnd_some h
            obtain ⟨M39, e5, h⟩ := h
            have F_M39 : Fr [1221, 1222, 1223, 1224] M M39 := by rw [e5]; exact Fr.wL F_M34 (by decide)
            obtain rfl := Option.some.inj h
            exact F_M39
        have F_w4 := G_w4
        obtain ⟨M37, hq⟩ : ∃ q, q = w4 := ⟨_, rfl⟩
        rw [← hq] at h
        have F_M37 : Fr [1221, 1222, 1223, 1224] M M37 := by rw [hq]; exact F_w4
        clear hq
        replace h := chk_some h
        obtain ⟨_, h⟩ := h
        replace h := chk_some h
        obtain ⟨_, h⟩ := h
        replace h := bnd_some h
        obtain ⟨M42, e6, h⟩ := h
        have F_M42 : Fr [1221, 1222, 1223, 1224] M M42 := by rw [e6]; exact Fr.wI F_M37 (by decide)
        replace h := bnd_some h
        obtain ⟨x43, e7, h⟩ := h
        exact Fr.trans F_M42 (ih _ _ _ h)
      · obtain rfl := Option.some.inj h
        exact F_M
theorem frX11_moves_l127 {z1 : Int32} {z2 : Int64} {z4 : Int32} {n : Nat} {y5 : Int32} {M : tM} {w : (tM)} (h : fX11_moves_l127 z1 z2 z4 n y5 M = some w) : Fr [1221, 1222, 1223, 1224] M w := frX11_moves_l127_n n y5 M w h
theorem frX11_moves_l115_n {z1 : Int32} {z2 : Int64} : ∀ (n : Nat) (y4 : Int32) (M : tM) (w : (tM)), fX11_moves_l115 z1 z2 n y4 M = some w → Fr [1221, 1222, 1223, 1224] M w := by
  intro n
  induction n with
  | zero => intro y4 M w h; cases h
  | succ n ih =>
    intro y4 M w h
    have F_M : Fr [1221, 1222, 1223, 1224] M M := Fr.refl
    rw [fX11_moves_l115] at h
    rcases ite_some h with ⟨_, h⟩ | ⟨_, h⟩
    · obtain rfl := Option.some.inj h
      exact F_M
    · replace h := obind_some h
      obtain ⟨M46, c1, h⟩ := h
      have F_M46 : Fr [1221, 1222, 1223, 1224] M M46 := Fr.step F_M (frX11_moves_l127 c1) (by decide)
      replace h := bnd_some h
      obtain ⟨x47, e2, h⟩ := h
      exact Fr.trans F_M46 (ih _ _ _ h)
theorem frX11_moves_l115 {z1 : Int32} {z2 : Int64} {n : Nat} {y4 : Int32} {M : tM} {w : (tM)} (h : fX11_moves_l115 z1 z2 n y4 M = some w) : Fr [1221, 1222, 1223, 1224] M w := frX11_moves_l115_n n y4 M w h
theorem frX11_moves {a1 : Int32} {a2 : Int64} {M : tM} {w : (tM)} (h : fX11_moves a1 a2 M = some w) : Fr [1219, 1221, 1222, 1223, 1224, 120025] M w := by
  have F_M : Fr [1219, 1221, 1222, 1223, 1224, 120025] M M := Fr.refl
  unfold fX11_moves at h
  replace h := obind_some h
  obtain ⟨M22, c1, h⟩ := h
  have F_M22 : Fr [1219, 1221, 1222, 1223, 1224, 120025] M M22 := Fr.step F_M (frX11_moves_l3 c1) (by decide)
  replace h := obind_some h
  obtain ⟨M50, c2, h⟩ := h
  have F_M50 : Fr [1219, 1221, 1222, 1223, 1224, 120025] M M50 := Fr.step F_M22 (frX11_moves_l115 c2) (by decide)
  replace h := chk_some h
  obtain ⟨_, h⟩ := h
  replace h := chk_some h
  obtain ⟨_, h⟩ := h
  replace h := chk_some h
  obtain ⟨_, h⟩ := h
  replace h := chk_some h
  obtain ⟨_, h⟩ := h
  replace h := bnd_some h
  obtain ⟨M55, e3, h⟩ := h
  have F_M55 : Fr [1219, 1221, 1222, 1223, 1224, 120025] M M55 := by rw [e3]; exact Fr.wI F_M50 (by decide)
  replace h := bnd_some h
  obtain ⟨M56, e4, h⟩ := h
  have F_M56 : Fr [1219, 1221, 1222, 1223, 1224, 120025] M M56 := by rw [e4]; exact Fr.wIo F_M55 (by decide)
  obtain rfl := Option.some.inj h
  exact F_M56
theorem frX11_fires {a1 : Int32} {M : tM} {w : (Int32 × tM)} (h : fX11_fires a1 M = some w) : Fr [1201, 1209, 1219, 1220, 1221, 1222, 1223, 1224, 1227, 120000, 120025, 120026, 120028, 120076] M w.2 := by
  have F_M : Fr [1201, 1209, 1219, 1220, 1221, 1222, 1223, 1224, 1227, 120000, 120025, 120026, 120028, 120076] M M := Fr.refl
  unfold fX11_fires at h
  replace h := obind_some h
  obtain ⟨x1, c1, h⟩ := h
  rcases ite_some h with ⟨_, h⟩ | ⟨_, h⟩
  · obtain rfl := Option.some.inj h
    exact F_M
  · replace h := bnd_some h
    obtain ⟨M4, e2, h⟩ := h
    have F_M4 : Fr [1201, 1209, 1219, 1220, 1221, 1222, 1223, 1224, 1227, 120000, 120025, 120026, 120028, 120076] M M4 := by rw [e2]; exact Fr.wIo F_M (by decide)
    replace h := bnd_some h
    obtain ⟨M5, e3, h⟩ := h
    have F_M5 : Fr [1201, 1209, 1219, 1220, 1221, 1222, 1223, 1224, 1227, 120000, 120025, 120026, 120028, 120076] M M5 := by rw [e3]; exact Fr.wIo F_M4 (by decide)
    replace h := obind_some h
    obtain ⟨w5, c4, h⟩ := h
    obtain ⟨x6, M8⟩ := w5
    dsimp only at h
    have F_M8 : Fr [1201, 1209, 1219, 1220, 1221, 1222, 1223, 1224, 1227, 120000, 120025, 120026, 120028, 120076] M M8 := Fr.step F_M5 (frX11_works c4) (by decide)
    rcases ite_some h with ⟨_, h⟩ | ⟨_, h⟩
    · replace h := bnd_some h
      obtain ⟨M10, e6, h⟩ := h
      have F_M10 : Fr [1201, 1209, 1219, 1220, 1221, 1222, 1223, 1224, 1227, 120000, 120025, 120026, 120028, 120076] M M10 := by rw [e6]; exact Fr.wLo F_M8 (by decide)
      replace h := obind_some h
      obtain ⟨M12, c7, h⟩ := h
      have F_M12 : Fr [1201, 1209, 1219, 1220, 1221, 1222, 1223, 1224, 1227, 120000, 120025, 120026, 120028, 120076] M M12 := Fr.step F_M10 (frX11_moves c7) (by decide)
      obtain rfl := Option.some.inj h
      exact F_M12
    · replace h := obind_some h
      obtain ⟨w9, c8, h⟩ := h
      obtain ⟨x13, M15⟩ := w9
      dsimp only at h
      have F_M15 : Fr [1201, 1209, 1219, 1220, 1221, 1222, 1223, 1224, 1227, 120000, 120025, 120026, 120028, 120076] M M15 := Fr.step F_M8 (frX11_meets c8) (by decide)
      obtain rfl := Option.some.inj h
      exact F_M15
theorem frX11_fire {a1 : Int32} {M : tM} {w : (Int32 × tM)} (h : fX11_fire a1 M = some w) : Fr [1201, 1209, 1219, 1220, 1221, 1222, 1223, 1224, 1227, 120000, 120025, 120026, 120028, 120076] M w.2 := by
  have F_M : Fr [1201, 1209, 1219, 1220, 1221, 1222, 1223, 1224, 1227, 120000, 120025, 120026, 120028, 120076] M M := Fr.refl
  unfold fX11_fire at h
  replace h := obind_some h
  obtain ⟨x1, c1, h⟩ := h
  rcases ite_some h with ⟨_, h⟩ | ⟨_, h⟩
  · obtain rfl := Option.some.inj h
    exact F_M
  · rcases ite_some h with ⟨_, h⟩ | ⟨_, h⟩
    · obtain rfl := Option.some.inj h
      exact F_M
    · replace h := obind_some h
      obtain ⟨x5, c2, h⟩ := h
      rcases ite_some h with ⟨_, h⟩ | ⟨_, h⟩
      · obtain rfl := Option.some.inj h
        exact F_M
      · replace h := obind_some h
        obtain ⟨w4, c3, h⟩ := h
        obtain ⟨x8, M10⟩ := w4
        dsimp only at h
        have F_M10 : Fr [1201, 1209, 1219, 1220, 1221, 1222, 1223, 1224, 1227, 120000, 120025, 120026, 120028, 120076] M M10 := Fr.step F_M (frX11_fires c3) (by decide)
        obtain rfl := Option.some.inj h
        exact F_M10
theorem frX11_deal {a1 : Int32} {a2 : Int32} {M : tM} {w : (Int32 × tM)} (h : fX11_deal a1 a2 M = some w) : Fr [1211, 1230] M w.2 := by
  have F_M : Fr [1211, 1230] M M := Fr.refl
  unfold fX11_deal at h
  replace h := obind_some h
  obtain ⟨x1, c1, h⟩ := h
  rcases ite_some h with ⟨_, h⟩ | ⟨_, h⟩
  · obtain rfl := Option.some.inj h
    exact F_M
  · replace h := obind_some h
    obtain ⟨x4, c2, h⟩ := h
    rcases ite_some h with ⟨_, h⟩ | ⟨_, h⟩
    · obtain rfl := Option.some.inj h
      exact F_M
    · replace h := chk_some h
      obtain ⟨_, h⟩ := h
      replace h := bnd_some h
      obtain ⟨x8, e3, h⟩ := h
      replace h := chk_some h
      obtain ⟨_, h⟩ := h
      replace h := bnd_some h
      obtain ⟨M10, e4, h⟩ := h
      have F_M10 : Fr [1211, 1230] M M10 := by rw [e4]; exact Fr.wI F_M (by decide)
      replace h := obind_some h
      obtain ⟨M12, c5, h⟩ := h
      have F_M12 : Fr [1211, 1230] M M12 := Fr.step F_M10 (frX11_threadsBegin c5) (by decide)
      obtain rfl := Option.some.inj h
      exact F_M12
theorem frX11_go {a1 : Int32} {M : tM} {w : (Int32 × tM)} (h : fX11_go a1 M = some w) : Fr [1201, 1209, 1219, 1220, 1221, 1222, 1223, 1224, 1227, 1230, 120000, 120025, 120026, 120028, 120076] M w.2 := by
  have F_M : Fr [1201, 1209, 1219, 1220, 1221, 1222, 1223, 1224, 1227, 1230, 120000, 120025, 120026, 120028, 120076] M M := Fr.refl
  unfold fX11_go at h
  replace h := obind_some h
  obtain ⟨x1, c1, h⟩ := h
  rcases ite_some h with ⟨_, h⟩ | ⟨_, h⟩
  · obtain rfl := Option.some.inj h
    exact F_M
  · replace h := obind_some h
    obtain ⟨x12, c2, h⟩ := h
    rcases ite_some h with ⟨_, h⟩ | ⟨_, h⟩
    · obtain rfl := Option.some.inj h
      exact F_M
    · rcases ite_some h with ⟨_, h⟩ | ⟨_, h⟩
      · obtain rfl := Option.some.inj h
        exact F_M
      · rcases ite_some h with ⟨_, h⟩ | ⟨_, h⟩
        · obtain rfl := Option.some.inj h
          exact F_M
        · replace h := chk_some h
          obtain ⟨_, h⟩ := h
          replace h := bnd_some h
          obtain ⟨x17, e3, h⟩ := h
          replace h := obind_some h
          obtain ⟨x25, c4, h⟩ := h
          replace h := chk_some h
          obtain ⟨_, h⟩ := h
          replace h := bnd_some h
          obtain ⟨x27, e5, h⟩ := h
          replace h := obind_some h
          obtain ⟨x28, c6, h⟩ := h
          rcases ite_some h with ⟨_, h⟩ | ⟨_, h⟩
          · obtain rfl := Option.some.inj h
            exact F_M
          · replace h := obind_some h
            obtain ⟨w8, c7, h⟩ := h
            obtain ⟨x31, M33⟩ := w8
            dsimp only at h
            have F_M33 : Fr [1201, 1209, 1219, 1220, 1221, 1222, 1223, 1224, 1227, 1230, 120000, 120025, 120026, 120028, 120076] M M33 := Fr.step F_M (frX11_fires c7) (by decide)
            rcases ite_some h with ⟨_, h⟩ | ⟨_, h⟩
            · replace h := chk_some h
              obtain ⟨_, h⟩ := h
              replace h := chk_some h
              obtain ⟨_, h⟩ := h
              replace h := bnd_some h
              obtain ⟨M37, e9, h⟩ := h
              have F_M37 : Fr [1201, 1209, 1219, 1220, 1221, 1222, 1223, 1224, 1227, 1230, 120000, 120025, 120026, 120028, 120076] M M37 := by rw [e9]; exact Fr.wI F_M33 (by decide)
              obtain rfl := Option.some.inj h
              exact F_M37
            · obtain rfl := Option.some.inj h
              exact F_M33
theorem frX11_reset {M : tM} {w : (Int32 × tM)} (h : fX11_reset M = some w) : Fr [1208, 1209, 1219, 1220, 1221, 1222, 1223, 1230, 120025] M w.2 := by
  have F_M : Fr [1208, 1209, 1219, 1220, 1221, 1222, 1223, 1230, 120025] M M := Fr.refl
  unfold fX11_reset at h
  replace h := bnd_some h
  obtain ⟨x1, e1, h⟩ := h
  replace h := obind_some h
  obtain ⟨M3, c2, h⟩ := h
  have F_M3 : Fr [1208, 1209, 1219, 1220, 1221, 1222, 1223, 1230, 120025] M M3 := Fr.step F_M (frX11_begins c2) (by decide)
  obtain rfl := Option.some.inj h
  exact F_M3
theorem frX11_look {a1 : Int32} {a2 : Int32} {M : tM} {w : (Int32 × tM)} (h : fX11_look a1 a2 M = some w) : Fr [1201, 120000, 120029] M w.2 := by
  have F_M : Fr [1201, 120000, 120029] M M := Fr.refl
  unfold fX11_look at h
  replace h := obind_some h
  obtain ⟨x1, c1, h⟩ := h
  rcases ite_some h with ⟨_, h⟩ | ⟨_, h⟩
  · obtain rfl := Option.some.inj h
    exact F_M
  · replace h := chk_some h
    obtain ⟨_, h⟩ := h
    replace h := obind_some h
    obtain ⟨x5, c2, h⟩ := h
    rcases ite_some h with ⟨_, h⟩ | ⟨_, h⟩
    · replace h := obind_some h
      obtain ⟨w4, c3, h⟩ := h
      obtain ⟨x10, M12⟩ := w4
      dsimp only at h
      have F_M12 : Fr [1201, 120000, 120029] M M12 := Fr.step F_M (frX11_meets c3) (by decide)
      obtain rfl := Option.some.inj h
      exact F_M12
    · replace h := chk_some h
      obtain ⟨_, h⟩ := h
      replace h := bnd_some h
      obtain ⟨M9, e5, h⟩ := h
      have F_M9 : Fr [1201, 120000, 120029] M M9 := by rw [e5]; exact Fr.wLo F_M (by decide)
      obtain rfl := Option.some.inj h
      exact F_M9
theorem frX11_given {a1 : Int32} {a2 : Int32} {M : tM} {w : (Int32 × tM)} (h : fX11_given a1 a2 M = some w) : Fr [120029] M w.2 := by
  have F_M : Fr [120029] M M := Fr.refl
  unfold fX11_given at h
  replace h := obind_some h
  obtain ⟨x1, c1, h⟩ := h
  rcases ite_some h with ⟨_, h⟩ | ⟨_, h⟩
  · obtain rfl := Option.some.inj h
    exact F_M
  · replace h := obind_some h
    obtain ⟨x4, c2, h⟩ := h
    rcases ite_some h with ⟨_, h⟩ | ⟨_, h⟩
    · obtain rfl := Option.some.inj h
      exact F_M
    · replace h := chk_some h
      obtain ⟨_, h⟩ := h
      rcases ite_some h with ⟨_, h⟩ | ⟨_, h⟩
      · replace h := chk_some h
        obtain ⟨_, h⟩ := h
        replace h := bnd_some h
        obtain ⟨M10, e3, h⟩ := h
        have F_M10 : Fr [120029] M M10 := by rw [e3]; exact Fr.wLo F_M (by decide)
        obtain rfl := Option.some.inj h
        exact F_M10
      · obtain rfl := Option.some.inj h
        exact F_M
theorem frX0_forget {M : tM} {w : (tM)} (h : fX0_forget M = some w) : Fr [10003] M w := by
  have F_M : Fr [10003] M M := Fr.refl
  unfold fX0_forget at h
  replace h := bnd_some h
  obtain ⟨M1, e1, h⟩ := h
  have F_M1 : Fr [10003] M M1 := by rw [e1]; exact Fr.wIo F_M (by decide)
  obtain rfl := Option.some.inj h
  exact F_M1
theorem frX0_addWait {a1 : Int32} {a2 : Int32} {a3 : Int32} {M : tM} {w : (tM)} (h : fX0_addWait a1 a2 a3 M = some w) : Fr [107, 108, 109, 10010] M w := by
  have F_M : Fr [107, 108, 109, 10010] M M := Fr.refl
  unfold fX0_addWait at h
  rcases ite_some h with ⟨_, h⟩ | ⟨_, h⟩
  · obtain rfl := Option.some.inj h
    exact F_M
  · rcases ite_some h with ⟨_, h⟩ | ⟨_, h⟩
    · obtain rfl := Option.some.inj h
      exact F_M
    · rcases ite_some h with ⟨_, h⟩ | ⟨_, h⟩
      · obtain rfl := Option.some.inj h
        exact F_M
      · replace h := chk_some h
        obtain ⟨_, h⟩ := h
        replace h := bnd_some h
        obtain ⟨M5, e1, h⟩ := h
        have F_M5 : Fr [107, 108, 109, 10010] M M5 := by rw [e1]; exact Fr.wI F_M (by decide)
        replace h := chk_some h
        obtain ⟨_, h⟩ := h
        replace h := bnd_some h
        obtain ⟨M7, e2, h⟩ := h
        have F_M7 : Fr [107, 108, 109, 10010] M M7 := by rw [e2]; exact Fr.wI F_M5 (by decide)
        replace h := chk_some h
        obtain ⟨_, h⟩ := h
        replace h := bnd_some h
        obtain ⟨M9, e3, h⟩ := h
        have F_M9 : Fr [107, 108, 109, 10010] M M9 := by rw [e3]; exact Fr.wI F_M7 (by decide)
        replace h := bnd_some h
        obtain ⟨M10, e4, h⟩ := h
        have F_M10 : Fr [107, 108, 109, 10010] M M10 := by rw [e4]; exact Fr.wIo F_M9 (by decide)
        obtain rfl := Option.some.inj h
        exact F_M10
theorem frX0_numberFirings_l45_n {z1 : Int32} {z2 : Option Nat} : ∀ (n : Nat) (y3 : Int32) (M : tM) (w : (tM)), fX0_numberFirings_l45 z1 z2 n y3 M = some w → Fr [105, 107, 108, 109, 10006, 10010] M w := by
  intro n
  induction n with
  | zero => intro y3 M w h; cases h
  | succ n ih =>
    intro y3 M w h
    have F_M : Fr [105, 107, 108, 109, 10006, 10010] M M := Fr.refl
    rw [fX0_numberFirings_l45] at h
    replace h := obind_some h
    obtain ⟨i8, c1, h⟩ := h
    rcases ite_some h with ⟨_, h⟩ | ⟨_, h⟩
    · obtain rfl := Option.some.inj h
      exact F_M
    · rcases ite_some h with ⟨_, h⟩ | ⟨_, h⟩
      · obtain rfl := Option.some.inj h
        exact F_M
      · replace h := chk_some h
        obtain ⟨_, h⟩ := h
        replace h := bnd_some h
        obtain ⟨M12, e2, h⟩ := h
        have F_M12 : Fr [105, 107, 108, 109, 10006, 10010] M M12 := by rw [e2]; exact Fr.wI F_M (by decide)
        replace h := bnd_some h
        obtain ⟨M13, e3, h⟩ := h
        have F_M13 : Fr [105, 107, 108, 109, 10006, 10010] M M13 := by rw [e3]; exact Fr.wIo F_M12 (by decide)
        replace h := obind_some h
        obtain ⟨w5, b4, h⟩ := h
        have G_w5 : Fr [105, 107, 108, 109, 10006, 10010] M w5 := by
          clear h
          replace h := b4
          clear b4
          rcases ite_some h with ⟨_, h⟩ | ⟨_, h⟩
          · replace h := chk_some h
            obtain ⟨_, h⟩ := h
            replace h := chk_some h
            obtain ⟨_, h⟩ := h
            replace h := obind_some h
            obtain ⟨M22, c6, h⟩ := h
            have F_M22 : Fr [105, 107, 108, 109, 10006, 10010] M M22 := Fr.step F_M13 (frX0_addWait c6) (by decide)
            obtain rfl := Option.some.inj h
            exact F_M22
          · replace h := chk_some h
            obtain ⟨_, h⟩ := h
            replace h := chk_some h
            obtain ⟨_, h⟩ := h
            replace h := obind_some h
            obtain ⟨M18, c7, h⟩ := h
            have F_M18 : Fr [105, 107, 108, 109, 10006, 10010] M M18 := Fr.step F_M13 (frX0_addWait c7) (by decide)
            obtain rfl := Option.some.inj h
            exact F_M18
        have F_w5 := G_w5
        obtain ⟨M15, hq⟩ : ∃ q, q = w5 := ⟨_, rfl⟩
        rw [← hq] at h
        have F_M15 : Fr [105, 107, 108, 109, 10006, 10010] M M15 := by rw [hq]; exact F_w5
        clear hq
        replace h := bnd_some h
        obtain ⟨x23, e8, h⟩ := h
        exact Fr.trans F_M15 (ih _ _ _ h)
theorem frX0_numberFirings_l45 {z1 : Int32} {z2 : Option Nat} {n : Nat} {y3 : Int32} {M : tM} {w : (tM)} (h : fX0_numberFirings_l45 z1 z2 n y3 M = some w) : Fr [105, 107, 108, 109, 10006, 10010] M w := frX0_numberFirings_l45_n n y3 M w h
theorem frX0_numberFirings_l12_n : ∀ (n : Nat) (y1 : Int32) (M : tM) (w : (tM)), fX0_numberFirings_l12 n y1 M = some w → Fr [104, 105, 107, 108, 109, 10006, 10010] M w := by
  intro n
  induction n with
  | zero => intro y1 M w h; cases h
  | succ n ih =>
    intro y1 M w h
    have F_M : Fr [104, 105, 107, 108, 109, 10006, 10010] M M := Fr.refl
    rw [fX0_numberFirings_l12] at h
    rcases ite_some h with ⟨_, h⟩ | ⟨_, h⟩
    · obtain rfl := Option.some.inj h
      exact F_M
    · replace h := chk_some h
      obtain ⟨_, h⟩ := h
      replace h := bnd_some h
      obtain ⟨r5, e1, h⟩ := h
      replace h := chk_some h
      obtain ⟨_, h⟩ := h
      replace h := bnd_some h
      obtain ⟨M7, e2, h⟩ := h
      have F_M7 : Fr [104, 105, 107, 108, 109, 10006, 10010] M M7 := by rw [e2]; exact Fr.wI F_M (by decide)
      replace h := obind_some h
      obtain ⟨M26, c3, h⟩ := h
      have F_M26 : Fr [104, 105, 107, 108, 109, 10006, 10010] M M26 := Fr.step F_M7 (frX0_numberFirings_l45 c3) (by decide)
      replace h := bnd_some h
      obtain ⟨x27, e4, h⟩ := h
      exact Fr.trans F_M26 (ih _ _ _ h)
theorem frX0_numberFirings_l12 {n : Nat} {y1 : Int32} {M : tM} {w : (tM)} (h : fX0_numberFirings_l12 n y1 M = some w) : Fr [104, 105, 107, 108, 109, 10006, 10010] M w := frX0_numberFirings_l12_n n y1 M w h
theorem frX0_numberFirings {M : tM} {w : (tM)} (h : fX0_numberFirings M = some w) : Fr [104, 105, 107, 108, 109, 10006, 10010] M w := by
  have F_M : Fr [104, 105, 107, 108, 109, 10006, 10010] M M := Fr.refl
  unfold fX0_numberFirings at h
  replace h := bnd_some h
  obtain ⟨M1, e1, h⟩ := h
  have F_M1 : Fr [104, 105, 107, 108, 109, 10006, 10010] M M1 := by rw [e1]; exact Fr.wIo F_M (by decide)
  replace h := bnd_some h
  obtain ⟨M2, e2, h⟩ := h
  have F_M2 : Fr [104, 105, 107, 108, 109, 10006, 10010] M M2 := by rw [e2]; exact Fr.wIo F_M1 (by decide)
  replace h := obind_some h
  obtain ⟨M30, c3, h⟩ := h
  have F_M30 : Fr [104, 105, 107, 108, 109, 10006, 10010] M M30 := Fr.step F_M2 (frX0_numberFirings_l12 c3) (by decide)
  obtain rfl := Option.some.inj h
  exact F_M30
theorem frX0_addWaitsOn_l41_n {z1 : Nat} {z2 : Int32} : ∀ (n : Nat) (y3 : Int32) (y4 : Int32) (y5 : Int32) (M : tM) (w : (tM)), fX0_addWaitsOn_l41 z1 z2 n y3 y4 y5 M = some w → Fr [107, 108, 109, 10010] M w := by
  intro n
  induction n with
  | zero => intro y3 y4 y5 M w h; cases h
  | succ n ih =>
    intro y3 y4 y5 M w h
    have F_M : Fr [107, 108, 109, 10010] M M := Fr.refl
    rw [fX0_addWaitsOn_l41] at h
    replace h := bnd_some h
    obtain ⟨r13, e1, h⟩ := h
    replace h := obind_some h
    obtain ⟨i14, c2, h⟩ := h
    rcases ite_some h with ⟨_, h⟩ | ⟨_, h⟩
    · obtain rfl := Option.some.inj h
      exact F_M
    · replace h := obind_some h
      obtain ⟨x16, c3, h⟩ := h
      replace h := bnd_some h
      obtain ⟨r18, e4, h⟩ := h
      replace h := obind_some h
      obtain ⟨i19, c5, h⟩ := h
      replace h := obind_some h
      obtain ⟨x20, c6, h⟩ := h
      replace h := bnd_some h
      obtain ⟨x22, e7, h⟩ := h
      replace h := obind_some h
      obtain ⟨w9, b8, h⟩ := h
      have G_w9 : Fr [107, 108, 109, 10010] M w9 := by
        clear h
        replace h := b8
        clear b8
        rcases ite_some h with ⟨_, h⟩ | ⟨_, h⟩
        · obtain rfl := Option.some.inj h
          exact F_M
        · replace h := bnd_some h
          obtain ⟨x24, e10, h⟩ := h
          replace h := obind_some h
          obtain ⟨x25, c11, h⟩ := h
          replace h := obind_some h
          obtain ⟨x27, c12, h⟩ := h
          replace h := bnd_some h
          obtain ⟨r29, e13, h⟩ := h
          replace h := obind_some h
          obtain ⟨i30, c14, h⟩ := h
          replace h := chk_some h
          obtain ⟨_, h⟩ := h
          replace h := bnd_some h
          obtain ⟨r32, e15, h⟩ := h
          replace h := obind_some h
          obtain ⟨i33, c16, h⟩ := h
          replace h := chk_some h
          obtain ⟨_, h⟩ := h
          replace h := obind_some h
          obtain ⟨M36, c17, h⟩ := h
          have F_M36 : Fr [107, 108, 109, 10010] M M36 := Fr.step F_M (frX0_addWait c17) (by decide)
          obtain rfl := Option.some.inj h
          exact F_M36
      have F_w9 := G_w9
      obtain ⟨M24, hq⟩ : ∃ q, q = w9 := ⟨_, rfl⟩
      rw [← hq] at h
      have F_M24 : Fr [107, 108, 109, 10010] M M24 := by rw [hq]; exact F_w9
      clear hq
      replace h := bnd_some h
      obtain ⟨x37, e18, h⟩ := h
      exact Fr.trans F_M24 (ih _ _ _ _ _ h)
theorem frX0_addWaitsOn_l41 {z1 : Nat} {z2 : Int32} {n : Nat} {y3 : Int32} {y4 : Int32} {y5 : Int32} {M : tM} {w : (tM)} (h : fX0_addWaitsOn_l41 z1 z2 n y3 y4 y5 M = some w) : Fr [107, 108, 109, 10010] M w := frX0_addWaitsOn_l41_n n y3 y4 y5 M w h
theorem frX0_addWaitsOn {a1 : Option Nat} {M : tM} {w : (tM)} (h : fX0_addWaitsOn a1 M = some w) : Fr [107, 108, 109, 10010] M w := by
  have F_M : Fr [107, 108, 109, 10010] M M := Fr.refl
  unfold fX0_addWaitsOn at h
  replace h := obind_some h
  obtain ⟨i1, c1, h⟩ := h
  replace h := obind_some h
  obtain ⟨x2, c2, h⟩ := h
  replace h := bnd_some h
  obtain ⟨r4, e3, h⟩ := h
  replace h := obind_some h
  obtain ⟨i5, c4, h⟩ := h
  replace h := bnd_some h
  obtain ⟨r6, e5, h⟩ := h
  replace h := obind_some h
  obtain ⟨i7, c6, h⟩ := h
  replace h := obind_some h
  obtain ⟨x8, c7, h⟩ := h
  replace h := chk_some h
  obtain ⟨_, h⟩ := h
  replace h := bnd_some h
  obtain ⟨x11, e8, h⟩ := h
  rcases ite_some h with ⟨_, h⟩ | ⟨_, h⟩
  · replace h := obind_some h
    obtain ⟨M40, c9, h⟩ := h
    have F_M40 : Fr [107, 108, 109, 10010] M M40 := Fr.step F_M (frX0_addWaitsOn_l41 c9) (by decide)
    obtain rfl := Option.some.inj h
    exact F_M40
  · obtain rfl := Option.some.inj h
    exact F_M
theorem frX0_beginWithOwnRings_l12_n : ∀ (n : Nat) (y1 : Int32) (M : tM) (w : (tM)), fX0_beginWithOwnRings_l12 n y1 M = some w → Fr [10001] M w := by
  intro n
  induction n with
  | zero => intro y1 M w h; cases h
  | succ n ih =>
    intro y1 M w h
    have F_M : Fr [10001] M M := Fr.refl
    rw [fX0_beginWithOwnRings_l12] at h
    rcases ite_some h with ⟨_, h⟩ | ⟨_, h⟩
    · obtain rfl := Option.some.inj h
      exact F_M
    · replace h := chk_some h
      obtain ⟨_, h⟩ := h
      replace h := bnd_some h
      obtain ⟨r5, e1, h⟩ := h
      replace h := obind_some h
      obtain ⟨i6, c2, h⟩ := h
      replace h := obind_some h
      obtain ⟨x7, c3, h⟩ := h
      replace h := bnd_some h
      obtain ⟨M9, e4, h⟩ := h
      have F_M9 : Fr [10001] M M9 := by rw [e4]; exact Fr.wLo F_M (by decide)
      replace h := bnd_some h
      obtain ⟨x10, e5, h⟩ := h
      exact Fr.trans F_M9 (ih _ _ _ h)
theorem frX0_beginWithOwnRings_l12 {n : Nat} {y1 : Int32} {M : tM} {w : (tM)} (h : fX0_beginWithOwnRings_l12 n y1 M = some w) : Fr [10001] M w := frX0_beginWithOwnRings_l12_n n y1 M w h
theorem frX0_beginWithOwnRings {M : tM} {w : (tM)} (h : fX0_beginWithOwnRings M = some w) : Fr [10001, 10002] M w := by
  have F_M : Fr [10001, 10002] M M := Fr.refl
  unfold fX0_beginWithOwnRings at h
  replace h := bnd_some h
  obtain ⟨M1, e1, h⟩ := h
  have F_M1 : Fr [10001, 10002] M M1 := by rw [e1]; exact Fr.wLo F_M (by decide)
  replace h := bnd_some h
  obtain ⟨M2, e2, h⟩ := h
  have F_M2 : Fr [10001, 10002] M M2 := by rw [e2]; exact Fr.wLo F_M1 (by decide)
  replace h := obind_some h
  obtain ⟨M13, c3, h⟩ := h
  have F_M13 : Fr [10001, 10002] M M13 := Fr.step F_M2 (frX0_beginWithOwnRings_l12 c3) (by decide)
  obtain rfl := Option.some.inj h
  exact F_M13
