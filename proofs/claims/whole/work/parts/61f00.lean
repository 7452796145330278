theorem frJ7_fill_d0a16_l6_n {kz0 : Nat} {z0 : Nat} {z1 : Int64} {z4 : Int32} : ∀ (n : Nat) (y3 : Int32) (M : tM) (w : (tM)), fJ7_fill_d0a16_l6 kz0 z0 z1 z4 n y3 M = some w → Fr [kz0] M w := by
  intro n
  induction n with
  | zero => intro y3 M w h; cases h
  | succ n ih =>
    intro y3 M w h
    have F_M : Fr [kz0] M M := Fr.refl
    rw [fJ7_fill_d0a16_l6] at h
    rcases ite_some h with ⟨_, h⟩ | ⟨_, h⟩
    · obtain rfl := Option.some.inj h
      exact F_M
    · replace h := chk_some h
      obtain ⟨_, h⟩ := h
      replace h := chk_some h
      obtain ⟨_, h⟩ := h
      replace h := bnd_some h
      obtain ⟨M7, e1, h⟩ := h
      have F_M7 : Fr [kz0] M M7 := by rw [e1]; exact Fr.wL F_M (by simp)
      replace h := bnd_some h
      obtain ⟨x8, e2, h⟩ := h
      exact Fr.trans F_M7 (ih _ _ _ h)
theorem frJ7_fill_d0a16_l6 {kz0 : Nat} {z0 : Nat} {z1 : Int64} {z4 : Int32} {n : Nat} {y3 : Int32} {M : tM} {w : (tM)} (h : fJ7_fill_d0a16_l6 kz0 z0 z1 z4 n y3 M = some w) : Fr [kz0] M w := frJ7_fill_d0a16_l6_n n y3 M w h
theorem frJ7_fill_d0a16 {k1 : Nat} {a1 : Nat} {a2 : Int64} {M : tM} {w : (tM)} (h : fJ7_fill_d0a16 k1 a1 a2 M = some w) : Fr [k1] M w := by
  have F_M : Fr [k1] M M := Fr.refl
  unfold fJ7_fill_d0a16 at h
  replace h := chk_some h
  obtain ⟨_, h⟩ := h
  replace h := chk_some h
  obtain ⟨_, h⟩ := h
  replace h := bnd_some h
  obtain ⟨x3, e1, h⟩ := h
  replace h := obind_some h
  obtain ⟨M11, c2, h⟩ := h
  have F_M11 : Fr [k1] M M11 := Fr.step F_M (frJ7_fill_d0a16_l6 c2) (by simp)
  obtain rfl := Option.some.inj h
  exact F_M11
theorem frJ7_fill_53178_l5_n {kz0 : Nat} {z0 : Nat} {z1 : Int32} {z3 : Int32} : ∀ (n : Nat) (y2 : Int32) (M : tM) (w : (tM)), fJ7_fill_53178_l5 kz0 z0 z1 z3 n y2 M = some w → Fr [kz0] M w := by
  intro n
  induction n with
  | zero => intro y2 M w h; cases h
  | succ n ih =>
    intro y2 M w h
    have F_M : Fr [kz0] M M := Fr.refl
    rw [fJ7_fill_53178_l5] at h
    rcases ite_some h with ⟨_, h⟩ | ⟨_, h⟩
    · obtain rfl := Option.some.inj h
      exact F_M
    · replace h := chk_some h
      obtain ⟨_, h⟩ := h
      replace h := chk_some h
      obtain ⟨_, h⟩ := h
      replace h := bnd_some h
      obtain ⟨M7, e1, h⟩ := h
      have F_M7 : Fr [kz0] M M7 := by rw [e1]; exact Fr.wI F_M (by simp)
      replace h := bnd_some h
      obtain ⟨x8, e2, h⟩ := h
      exact Fr.trans F_M7 (ih _ _ _ h)
theorem frJ7_fill_53178_l5 {kz0 : Nat} {z0 : Nat} {z1 : Int32} {z3 : Int32} {n : Nat} {y2 : Int32} {M : tM} {w : (tM)} (h : fJ7_fill_53178_l5 kz0 z0 z1 z3 n y2 M = some w) : Fr [kz0] M w := frJ7_fill_53178_l5_n n y2 M w h
theorem frJ7_fill_53178 {k1 : Nat} {a1 : Nat} {a2 : Int32} {M : tM} {w : (tM)} (h : fJ7_fill_53178 k1 a1 a2 M = some w) : Fr [k1] M w := by
  have F_M : Fr [k1] M M := Fr.refl
  unfold fJ7_fill_53178 at h
  replace h := chk_some h
  obtain ⟨_, h⟩ := h
  replace h := chk_some h
  obtain ⟨_, h⟩ := h
  replace h := bnd_some h
  obtain ⟨x3, e1, h⟩ := h
  replace h := obind_some h
  obtain ⟨M11, c2, h⟩ := h
  have F_M11 : Fr [k1] M M11 := Fr.step F_M (frJ7_fill_53178_l5 c2) (by simp)
  obtain rfl := Option.some.inj h
  exact F_M11
theorem frX11_meets {a1 : Int32} {M : tM} {w : (Int32 × tM)} (h : fX11_meets a1 M = some w) : Fr [1201, 120000] M w.2 := by
  have F_M : Fr [1201, 120000] M M := Fr.refl
  unfold fX11_meets at h
  replace h := bnd_some h
  obtain ⟨M1, e1, h⟩ := h
  have F_M1 : Fr [1201, 120000] M M1 := by rw [e1]; exact Fr.wIo F_M (by decide)
  replace h := chk_some h
  obtain ⟨_, h⟩ := h
  replace h := chk_some h
  obtain ⟨_, h⟩ := h
  replace h := bnd_some h
  obtain ⟨M4, e2, h⟩ := h
  have F_M4 : Fr [1201, 120000] M M4 := by rw [e2]; exact Fr.wI F_M1 (by decide)
  obtain rfl := Option.some.inj h
  exact F_M4
theorem frX11_threadsBegin_l2_n : ∀ (n : Nat) (y1 : Int32) (M : tM) (w : (tM)), fX11_threadsBegin_l2 n y1 M = some w → Fr [1230] M w := by
  intro n
  induction n with
  | zero => intro y1 M w h; cases h
  | succ n ih =>
    intro y1 M w h
    have F_M : Fr [1230] M M := Fr.refl
    rw [fX11_threadsBegin_l2] at h
    rcases ite_some h with ⟨_, h⟩ | ⟨_, h⟩
    · obtain rfl := Option.some.inj h
      exact F_M
    · replace h := chk_some h
      obtain ⟨_, h⟩ := h
      replace h := bnd_some h
      obtain ⟨M3, e1, h⟩ := h
      have F_M3 : Fr [1230] M M3 := by rw [e1]; exact Fr.wI F_M (by decide)
      replace h := bnd_some h
      obtain ⟨x4, e2, h⟩ := h
      exact Fr.trans F_M3 (ih _ _ _ h)
theorem frX11_threadsBegin_l2 {n : Nat} {y1 : Int32} {M : tM} {w : (tM)} (h : fX11_threadsBegin_l2 n y1 M = some w) : Fr [1230] M w := frX11_threadsBegin_l2_n n y1 M w h
theorem frX11_threadsBegin {M : tM} {w : (tM)} (h : fX11_threadsBegin M = some w) : Fr [1230] M w := by
  have F_M : Fr [1230] M M := Fr.refl
  unfold fX11_threadsBegin at h
  replace h := obind_some h
  obtain ⟨M7, c1, h⟩ := h
  have F_M7 : Fr [1230] M M7 := Fr.step F_M (frX11_threadsBegin_l2 c1) (by decide)
  obtain rfl := Option.some.inj h
  exact F_M7
theorem frX11_begins_l38_n {z1 : Int32} : ∀ (n : Nat) (y2 : Int32) (M : tM) (w : (tM)), fX11_begins_l38 z1 n y2 M = some w → Fr [1209] M w := by
  intro n
  induction n with
  | zero => intro y2 M w h; cases h
  | succ n ih =>
    intro y2 M w h
    have F_M : Fr [1209] M M := Fr.refl
    rw [fX11_begins_l38] at h
    rcases ite_some h with ⟨_, h⟩ | ⟨_, h⟩
    · obtain rfl := Option.some.inj h
      exact F_M
    · replace h := chk_some h
      obtain ⟨_, h⟩ := h
      replace h := chk_some h
      obtain ⟨_, h⟩ := h
      replace h := bnd_some h
      obtain ⟨M12, e1, h⟩ := h
      have F_M12 : Fr [1209] M M12 := by rw [e1]; exact Fr.wL F_M (by decide)
      replace h := bnd_some h
      obtain ⟨x13, e2, h⟩ := h
      exact Fr.trans F_M12 (ih _ _ _ h)
theorem frX11_begins_l38 {z1 : Int32} {n : Nat} {y2 : Int32} {M : tM} {w : (tM)} (h : fX11_begins_l38 z1 n y2 M = some w) : Fr [1209] M w := frX11_begins_l38_n n y2 M w h
theorem frX11_begins_l2_n : ∀ (n : Nat) (y1 : Int32) (M : tM) (w : (tM)), fX11_begins_l2 n y1 M = some w → Fr [1208, 1209, 1219, 1220] M w := by
  intro n
  induction n with
  | zero => intro y1 M w h; cases h
  | succ n ih =>
    intro y1 M w h
    have F_M : Fr [1208, 1209, 1219, 1220] M M := Fr.refl
    rw [fX11_begins_l2] at h
    rcases ite_some h with ⟨_, h⟩ | ⟨_, h⟩
    · obtain rfl := Option.some.inj h
      exact F_M
    · replace h := chk_some h
      obtain ⟨_, h⟩ := h
      replace h := bnd_some h
      obtain ⟨M3, e1, h⟩ := h
      have F_M3 : Fr [1208, 1209, 1219, 1220] M M3 := by rw [e1]; exact Fr.wI F_M (by decide)
      replace h := chk_some h
      obtain ⟨_, h⟩ := h
      replace h := bnd_some h
      obtain ⟨M5, e2, h⟩ := h
      have F_M5 : Fr [1208, 1209, 1219, 1220] M M5 := by rw [e2]; exact Fr.wL F_M3 (by decide)
      replace h := chk_some h
      obtain ⟨_, h⟩ := h
      replace h := chk_some h
      obtain ⟨_, h⟩ := h
      replace h := bnd_some h
      obtain ⟨M8, e3, h⟩ := h
      have F_M8 : Fr [1208, 1209, 1219, 1220] M M8 := by rw [e3]; exact Fr.wI F_M5 (by decide)
      replace h := obind_some h
      obtain ⟨M16, c4, h⟩ := h
      have F_M16 : Fr [1208, 1209, 1219, 1220] M M16 := Fr.step F_M8 (frX11_begins_l38 c4) (by decide)
      replace h := bnd_some h
      obtain ⟨x17, e5, h⟩ := h
      exact Fr.trans F_M16 (ih _ _ _ h)
theorem frX11_begins_l2 {n : Nat} {y1 : Int32} {M : tM} {w : (tM)} (h : fX11_begins_l2 n y1 M = some w) : Fr [1208, 1209, 1219, 1220] M w := frX11_begins_l2_n n y1 M w h
theorem frX11_begins_l109_n {z1 : Int32} : ∀ (n : Nat) (y2 : Int32) (M : tM) (w : (tM)), fX11_begins_l109 z1 n y2 M = some w → Fr [1222] M w := by
  intro n
  induction n with
  | zero => intro y2 M w h; cases h
  | succ n ih =>
    intro y2 M w h
    have F_M : Fr [1222] M M := Fr.refl
    rw [fX11_begins_l109] at h
    replace h := chk_some h
    obtain ⟨_, h⟩ := h
    rcases ite_some h with ⟨_, h⟩ | ⟨_, h⟩
    · obtain rfl := Option.some.inj h
      exact F_M
    · replace h := chk_some h
      obtain ⟨_, h⟩ := h
      replace h := chk_some h
      obtain ⟨_, h⟩ := h
      replace h := bnd_some h
      obtain ⟨M31, e1, h⟩ := h
      have F_M31 : Fr [1222] M M31 := by rw [e1]; exact Fr.wL F_M (by decide)
      replace h := bnd_some h
      obtain ⟨x32, e2, h⟩ := h
      exact Fr.trans F_M31 (ih _ _ _ h)
theorem frX11_begins_l109 {z1 : Int32} {n : Nat} {y2 : Int32} {M : tM} {w : (tM)} (h : fX11_begins_l109 z1 n y2 M = some w) : Fr [1222] M w := frX11_begins_l109_n n y2 M w h
theorem frX11_begins_l80_n : ∀ (n : Nat) (y1 : Int32) (M : tM) (w : (tM)), fX11_begins_l80 n y1 M = some w → Fr [1221, 1222, 1223] M w := by
  intro n
  induction n with
  | zero => intro y1 M w h; cases h
  | succ n ih =>
    intro y1 M w h
    have F_M : Fr [1221, 1222, 1223] M M := Fr.refl
    rw [fX11_begins_l80] at h
    rcases ite_some h with ⟨_, h⟩ | ⟨_, h⟩
    · obtain rfl := Option.some.inj h
      exact F_M
    · replace h := chk_some h
      obtain ⟨_, h⟩ := h
      replace h := chk_some h
      obtain ⟨_, h⟩ := h
      replace h := bnd_some h
      obtain ⟨M24, e1, h⟩ := h
      have F_M24 : Fr [1221, 1222, 1223] M M24 := by rw [e1]; exact Fr.wI F_M (by decide)
      replace h := chk_some h
      obtain ⟨_, h⟩ := h
      replace h := bnd_some h
      obtain ⟨M26, e2, h⟩ := h
      have F_M26 : Fr [1221, 1222, 1223] M M26 := by rw [e2]; exact Fr.wI F_M24 (by decide)
      replace h := obind_some h
      obtain ⟨M35, c3, h⟩ := h
      have F_M35 : Fr [1221, 1222, 1223] M M35 := Fr.step F_M26 (frX11_begins_l109 c3) (by decide)
      replace h := bnd_some h
      obtain ⟨x36, e4, h⟩ := h
      exact Fr.trans F_M35 (ih _ _ _ h)
theorem frX11_begins_l80 {n : Nat} {y1 : Int32} {M : tM} {w : (tM)} (h : fX11_begins_l80 n y1 M = some w) : Fr [1221, 1222, 1223] M w := frX11_begins_l80_n n y1 M w h
theorem frX11_begins {M : tM} {w : (tM)} (h : fX11_begins M = some w) : Fr [1208, 1209, 1219, 1220, 1221, 1222, 1223, 1230, 120025] M w := by
  have F_M : Fr [1208, 1209, 1219, 1220, 1221, 1222, 1223, 1230, 120025] M M := Fr.refl
  unfold fX11_begins at h
  replace h := obind_some h
  obtain ⟨M20, c1, h⟩ := h
  have F_M20 : Fr [1208, 1209, 1219, 1220, 1221, 1222, 1223, 1230, 120025] M M20 := Fr.step F_M (frX11_begins_l2 c1) (by decide)
  replace h := obind_some h
  obtain ⟨M39, c2, h⟩ := h
  have F_M39 : Fr [1208, 1209, 1219, 1220, 1221, 1222, 1223, 1230, 120025] M M39 := Fr.step F_M20 (frX11_begins_l80 c2) (by decide)
  replace h := bnd_some h
  obtain ⟨M40, e3, h⟩ := h
  have F_M40 : Fr [1208, 1209, 1219, 1220, 1221, 1222, 1223, 1230, 120025] M M40 := by rw [e3]; exact Fr.wIo F_M39 (by decide)
  replace h := obind_some h
  obtain ⟨M42, c4, h⟩ := h
  have F_M42 : Fr [1208, 1209, 1219, 1220, 1221, 1222, 1223, 1230, 120025] M M42 := Fr.step F_M40 (frX11_threadsBegin c4) (by decide)
  obtain rfl := Option.some.inj h
  exact F_M42
theorem frX11_changes {M : tM} {w : (tM)} (h : fX11_changes M = some w) : Fr [1208, 1209, 1219, 1220, 1221, 1222, 1223, 1230, 120025, 120043, 120060] M w := by
  have F_M : Fr [1208, 1209, 1219, 1220, 1221, 1222, 1223, 1230, 120025, 120043, 120060] M M := Fr.refl
  unfold fX11_changes at h
  replace h := bnd_some h
  obtain ⟨M1, e1, h⟩ := h
  have F_M1 : Fr [1208, 1209, 1219, 1220, 1221, 1222, 1223, 1230, 120025, 120043, 120060] M M1 := by rw [e1]; exact Fr.wIo F_M (by decide)
  replace h := bnd_some h
  obtain ⟨M2, e2, h⟩ := h
  have F_M2 : Fr [1208, 1209, 1219, 1220, 1221, 1222, 1223, 1230, 120025, 120043, 120060] M M2 := by rw [e2]; exact Fr.wIo F_M1 (by decide)
  replace h := obind_some h
  obtain ⟨M4, c3, h⟩ := h
  have F_M4 : Fr [1208, 1209, 1219, 1220, 1221, 1222, 1223, 1230, 120025, 120043, 120060] M M4 := Fr.step F_M2 (frX11_begins c3) (by decide)
  obtain rfl := Option.some.inj h
  exact F_M4
theorem frX11_part_l130_n : ∀ (n : Nat) (y5 : Int32) (M : tM) (w : (tM)), fX11_part_l130 n y5 M = some w → Fr [1207] M w := by
  intro n
  induction n with
  | zero => intro y5 M w h; cases h
  | succ n ih =>
    intro y5 M w h
    have F_M : Fr [1207] M M := Fr.refl
    rw [fX11_part_l130] at h
    rcases ite_some h with ⟨_, h⟩ | ⟨_, h⟩
    · obtain rfl := Option.some.inj h
      exact F_M
    · replace h := chk_some h
      obtain ⟨_, h⟩ := h
      replace h := bnd_some h
      obtain ⟨M26, e1, h⟩ := h
      have F_M26 : Fr [1207] M M26 := by rw [e1]; exact Fr.wL F_M (by decide)
      replace h := bnd_some h
      obtain ⟨x27, e2, h⟩ := h
      exact Fr.trans F_M26 (ih _ _ _ h)
theorem frX11_part_l130 {n : Nat} {y5 : Int32} {M : tM} {w : (tM)} (h : fX11_part_l130 n y5 M = some w) : Fr [1207] M w := frX11_part_l130_n n y5 M w h
theorem frX11_part {a1 : Int32} {a2 : Int64} {a3 : Int32} {M : tM} {w : (Int32 × tM)} (h : fX11_part a1 a2 a3 M = some w) : Fr [1201, 1203, 1204, 1205, 1206, 1207, 1208, 1209, 1210, 1211, 1219, 1220, 1221, 1222, 1223, 1230, 120000, 120002, 120025, 120043, 120060] M w.2 := by
  have F_M : Fr [1201, 1203, 1204, 1205, 1206, 1207, 1208, 1209, 1210, 1211, 1219, 1220, 1221, 1222, 1223, 1230, 120000, 120002, 120025, 120043, 120060] M M := Fr.refl
  unfold fX11_part at h
  replace h := obind_some h
  obtain ⟨x1, c1, h⟩ := h
  rcases ite_some h with ⟨_, h⟩ | ⟨_, h⟩
  · obtain rfl := Option.some.inj h
    exact F_M
  · rcases ite_some h with ⟨_, h⟩ | ⟨_, h⟩
    · replace h := obind_some h
      obtain ⟨x127, c2, h⟩ := h
      rcases ite_some h with ⟨_, h⟩ | ⟨_, h⟩
      · obtain rfl := Option.some.inj h
        exact F_M
      · rcases ite_some h with ⟨_, h⟩ | ⟨_, h⟩
        · rcases ite_some h with ⟨_, h⟩ | ⟨_, h⟩
          · rcases ite_some h with ⟨_, h⟩ | ⟨_, h⟩
            · obtain rfl := Option.some.inj h
              exact F_M
            · rcases ite_some h with ⟨_, h⟩ | ⟨_, h⟩
              · rcases ite_some h with ⟨_, h⟩ | ⟨_, h⟩
                · replace h := chk_some h
                  obtain ⟨_, h⟩ := h
                  replace h := bnd_some h
                  obtain ⟨M220, e3, h⟩ := h
                  have F_M220 : Fr [1201, 1203, 1204, 1205, 1206, 1207, 1208, 1209, 1210, 1211, 1219, 1220, 1221, 1222, 1223, 1230, 120000, 120002, 120025, 120043, 120060] M M220 := by rw [e3]; exact Fr.wI F_M (by decide)
                  replace h := chk_some h
                  obtain ⟨_, h⟩ := h
                  replace h := bnd_some h
                  obtain ⟨M222, e4, h⟩ := h
                  have F_M222 : Fr [1201, 1203, 1204, 1205, 1206, 1207, 1208, 1209, 1210, 1211, 1219, 1220, 1221, 1222, 1223, 1230, 120000, 120002, 120025, 120043, 120060] M M222 := by rw [e4]; exact Fr.wL F_M220 (by decide)
                  replace h := obind_some h
                  obtain ⟨w6, b5, h⟩ := h
                  obtain ⟨x224, hq⟩ : ∃ q, q = w6 := ⟨_, rfl⟩
                  rw [← hq] at h
                  clear hq
                  replace h := chk_some h
                  obtain ⟨_, h⟩ := h
                  replace h := bnd_some h
                  obtain ⟨M228, e7, h⟩ := h
                  have F_M228 : Fr [1201, 1203, 1204, 1205, 1206, 1207, 1208, 1209, 1210, 1211, 1219, 1220, 1221, 1222, 1223, 1230, 120000, 120002, 120025, 120043, 120060] M M228 := by rw [e7]; exact Fr.wI F_M222 (by decide)
                  replace h := obind_some h
                  obtain ⟨w9, b8, h⟩ := h
                  obtain ⟨x230, hq⟩ : ∃ q, q = w9 := ⟨_, rfl⟩
                  rw [← hq] at h
                  clear hq
                  replace h := chk_some h
                  obtain ⟨_, h⟩ := h
                  replace h := bnd_some h
                  obtain ⟨M234, e10, h⟩ := h
                  have F_M234 : Fr [1201, 1203, 1204, 1205, 1206, 1207, 1208, 1209, 1210, 1211, 1219, 1220, 1221, 1222, 1223, 1230, 120000, 120002, 120025, 120043, 120060] M M234 := by rw [e10]; exact Fr.wI F_M228 (by decide)
                  replace h := obind_some h
                  obtain ⟨M237, c11, h⟩ := h
                  have F_M237 : Fr [1201, 1203, 1204, 1205, 1206, 1207, 1208, 1209, 1210, 1211, 1219, 1220, 1221, 1222, 1223, 1230, 120000, 120002, 120025, 120043, 120060] M M237 := Fr.step F_M234 (frX11_part_l130 c11) (by decide)
                  replace h := chk_some h
                  obtain ⟨_, h⟩ := h
                  replace h := bnd_some h
                  obtain ⟨M239, e12, h⟩ := h
                  have F_M239 : Fr [1201, 1203, 1204, 1205, 1206, 1207, 1208, 1209, 1210, 1211, 1219, 1220, 1221, 1222, 1223, 1230, 120000, 120002, 120025, 120043, 120060] M M239 := by rw [e12]; exact Fr.wI F_M237 (by decide)
                  replace h := chk_some h
                  obtain ⟨_, h⟩ := h
                  replace h := bnd_some h
                  obtain ⟨M241, e13, h⟩ := h
                  have F_M241 : Fr [1201, 1203, 1204, 1205, 1206, 1207, 1208, 1209, 1210, 1211, 1219, 1220, 1221, 1222, 1223, 1230, 120000, 120002, 120025, 120043, 120060] M M241 := by rw [e13]; exact Fr.wI F_M239 (by decide)
                  replace h := bnd_some h
                  obtain ⟨M242, e14, h⟩ := h
                  have F_M242 : Fr [1201, 1203, 1204, 1205, 1206, 1207, 1208, 1209, 1210, 1211, 1219, 1220, 1221, 1222, 1223, 1230, 120000, 120002, 120025, 120043, 120060] M M242 := by rw [e14]; exact Fr.wIo F_M241 (by decide)
                  replace h := obind_some h
                  obtain ⟨M244, c15, h⟩ := h
                  have F_M244 : Fr [1201, 1203, 1204, 1205, 1206, 1207, 1208, 1209, 1210, 1211, 1219, 1220, 1221, 1222, 1223, 1230, 120000, 120002, 120025, 120043, 120060] M M244 := Fr.step F_M242 (frX11_changes c15) (by decide)
                  obtain rfl := Option.some.inj h
                  exact F_M244
                · replace h := obind_some h
                  obtain ⟨w17, c16, h⟩ := h
                  obtain ⟨x245, M247⟩ := w17
                  dsimp only at h
                  have F_M247 : Fr [1201, 1203, 1204, 1205, 1206, 1207, 1208, 1209, 1210, 1211, 1219, 1220, 1221, 1222, 1223, 1230, 120000, 120002, 120025, 120043, 120060] M M247 := Fr.step F_M (frX11_meets c16) (by decide)
                  obtain rfl := Option.some.inj h
                  exact F_M247
              · replace h := chk_some h
                obtain ⟨_, h⟩ := h
                replace h := bnd_some h
                obtain ⟨M193, e18, h⟩ := h
                have F_M193 : Fr [1201, 1203, 1204, 1205, 1206, 1207, 1208, 1209, 1210, 1211, 1219, 1220, 1221, 1222, 1223, 1230, 120000, 120002, 120025, 120043, 120060] M M193 := by rw [e18]; exact Fr.wI F_M (by decide)
                replace h := chk_some h
                obtain ⟨_, h⟩ := h
                replace h := bnd_some h
                obtain ⟨M195, e19, h⟩ := h
                have F_M195 : Fr [1201, 1203, 1204, 1205, 1206, 1207, 1208, 1209, 1210, 1211, 1219, 1220, 1221, 1222, 1223, 1230, 120000, 120002, 120025, 120043, 120060] M M195 := by rw [e19]; exact Fr.wL F_M193 (by decide)
                replace h := obind_some h
                obtain ⟨w21, b20, h⟩ := h
                obtain ⟨x197, hq⟩ : ∃ q, q = w21 := ⟨_, rfl⟩
                rw [← hq] at h
                clear hq
                replace h := chk_some h
                obtain ⟨_, h⟩ := h
                replace h := bnd_some h
                obtain ⟨M201, e22, h⟩ := h
                have F_M201 : Fr [1201, 1203, 1204, 1205, 1206, 1207, 1208, 1209, 1210, 1211, 1219, 1220, 1221, 1222, 1223, 1230, 120000, 120002, 120025, 120043, 120060] M M201 := by rw [e22]; exact Fr.wI F_M195 (by decide)
                replace h := obind_some h
                obtain ⟨w24, b23, h⟩ := h
                obtain ⟨x203, hq⟩ : ∃ q, q = w24 := ⟨_, rfl⟩
                rw [← hq] at h
                clear hq
                replace h := chk_some h
                obtain ⟨_, h⟩ := h
                replace h := bnd_some h
                obtain ⟨M207, e25, h⟩ := h
                have F_M207 : Fr [1201, 1203, 1204, 1205, 1206, 1207, 1208, 1209, 1210, 1211, 1219, 1220, 1221, 1222, 1223, 1230, 120000, 120002, 120025, 120043, 120060] M M207 := by rw [e25]; exact Fr.wI F_M201 (by decide)
                replace h := obind_some h
                obtain ⟨M210, c26, h⟩ := h
                have F_M210 : Fr [1201, 1203, 1204, 1205, 1206, 1207, 1208, 1209, 1210, 1211, 1219, 1220, 1221, 1222, 1223, 1230, 120000, 120002, 120025, 120043, 120060] M M210 := Fr.step F_M207 (frX11_part_l130 c26) (by decide)
                replace h := chk_some h
                obtain ⟨_, h⟩ := h
                replace h := bnd_some h
                obtain ⟨M212, e27, h⟩ := h
                have F_M212 : Fr [1201, 1203, 1204, 1205, 1206, 1207, 1208, 1209, 1210, 1211, 1219, 1220, 1221, 1222, 1223, 1230, 120000, 120002, 120025, 120043, 120060] M M212 := by rw [e27]; exact Fr.wI F_M210 (by decide)
                replace h := chk_some h
                obtain ⟨_, h⟩ := h
                replace h := bnd_some h
                obtain ⟨M214, e28, h⟩ := h
                have F_M214 : Fr [1201, 1203, 1204, 1205, 1206, 1207, 1208, 1209, 1210, 1211, 1219, 1220, 1221, 1222, 1223, 1230, 120000, 120002, 120025, 120043, 120060] M M214 := by rw [e28]; exact Fr.wI F_M212 (by decide)
                replace h := bnd_some h
                obtain ⟨M215, e29, h⟩ := h
                have F_M215 : Fr [1201, 1203, 1204, 1205, 1206, 1207, 1208, 1209, 1210, 1211, 1219, 1220, 1221, 1222, 1223, 1230, 120000, 120002, 120025, 120043, 120060] M M215 := by rw [e29]; exact Fr.wIo F_M214 (by decide)
                replace h := obind_some h
                obtain ⟨M217, c30, h⟩ := h
                have F_M217 : Fr [1201, 1203, 1204, 1205, 1206, 1207, 1208, 1209, 1210, 1211, 1219, 1220, 1221, 1222, 1223, 1230, 120000, 120002, 120025, 120043, 120060] M M217 := Fr.step F_M215 (frX11_changes c30) (by decide)
                obtain rfl := Option.some.inj h
                exact F_M217
          · obtain rfl := Option.some.inj h
            exact F_M
        · rcases ite_some h with ⟨_, h⟩ | ⟨_, h⟩
          · obtain rfl := Option.some.inj h
            exact F_M
          · rcases ite_some h with ⟨_, h⟩ | ⟨_, h⟩
            · rcases ite_some h with ⟨_, h⟩ | ⟨_, h⟩
              · replace h := chk_some h
                obtain ⟨_, h⟩ := h
                replace h := bnd_some h
                obtain ⟨M161, e31, h⟩ := h
                have F_M161 : Fr [1201, 1203, 1204, 1205, 1206, 1207, 1208, 1209, 1210, 1211, 1219, 1220, 1221, 1222, 1223, 1230, 120000, 120002, 120025, 120043, 120060] M M161 := by rw [e31]; exact Fr.wI F_M (by decide)
                replace h := chk_some h
                obtain ⟨_, h⟩ := h
                replace h := bnd_some h
                obtain ⟨M163, e32, h⟩ := h
                have F_M163 : Fr [1201, 1203, 1204, 1205, 1206, 1207, 1208, 1209, 1210, 1211, 1219, 1220, 1221, 1222, 1223, 1230, 120000, 120002, 120025, 120043, 120060] M M163 := by rw [e32]; exact Fr.wL F_M161 (by decide)
                replace h := obind_some h
                obtain ⟨w34, b33, h⟩ := h
                obtain ⟨x165, hq⟩ : ∃ q, q = w34 := ⟨_, rfl⟩
                rw [← hq] at h
                clear hq
                replace h := chk_some h
                obtain ⟨_, h⟩ := h
                replace h := bnd_some h
                obtain ⟨M169, e35, h⟩ := h
                have F_M169 : Fr [1201, 1203, 1204, 1205, 1206, 1207, 1208, 1209, 1210, 1211, 1219, 1220, 1221, 1222, 1223, 1230, 120000, 120002, 120025, 120043, 120060] M M169 := by rw [e35]; exact Fr.wI F_M163 (by decide)
                replace h := obind_some h
                obtain ⟨w37, b36, h⟩ := h
                obtain ⟨x171, hq⟩ : ∃ q, q = w37 := ⟨_, rfl⟩
                rw [← hq] at h
                clear hq
                replace h := chk_some h
                obtain ⟨_, h⟩ := h
                replace h := bnd_some h
                obtain ⟨M175, e38, h⟩ := h
                have F_M175 : Fr [1201, 1203, 1204, 1205, 1206, 1207, 1208, 1209, 1210, 1211, 1219, 1220, 1221, 1222, 1223, 1230, 120000, 120002, 120025, 120043, 120060] M M175 := by rw [e38]; exact Fr.wI F_M169 (by decide)
                replace h := obind_some h
                obtain ⟨M178, c39, h⟩ := h
                have F_M178 : Fr [1201, 1203, 1204, 1205, 1206, 1207, 1208, 1209, 1210, 1211, 1219, 1220, 1221, 1222, 1223, 1230, 120000, 120002, 120025, 120043, 120060] M M178 := Fr.step F_M175 (frX11_part_l130 c39) (by decide)
                replace h := chk_some h
                obtain ⟨_, h⟩ := h
                replace h := bnd_some h
                obtain ⟨M180, e40, h⟩ := h
                have F_M180 : Fr [1201, 1203, 1204, 1205, 1206, 1207, 1208, 1209, 1210, 1211, 1219, 1220, 1221, 1222, 1223, 1230, 120000, 120002, 120025, 120043, 120060] M M180 := by rw [e40]; exact Fr.wI F_M178 (by decide)
                replace h := chk_some h
                obtain ⟨_, h⟩ := h
                replace h := bnd_some h
                obtain ⟨M182, e41, h⟩ := h
                have F_M182 : Fr [1201, 1203, 1204, 1205, 1206, 1207, 1208, 1209, 1210, 1211, 1219, 1220, 1221, 1222, 1223, 1230, 120000, 120002, 120025, 120043, 120060] M M182 := by rw [e41]; exact Fr.wI F_M180 (by decide)
                replace h := bnd_some h
                obtain ⟨M183, e42, h⟩ := h
                have F_M183 : Fr [1201, 1203, 1204, 1205, 1206, 1207, 1208, 1209, 1210, 1211, 1219, 1220, 1221, 1222, 1223, 1230, 120000, 120002, 120025, 120043, 120060] M M183 := by rw [e42]; exact Fr.wIo F_M182 (by decide)
                replace h := obind_some h
                obtain ⟨M185, c43, h⟩ := h
                have F_M185 : Fr [1201, 1203, 1204, 1205, 1206, 1207, 1208, 1209, 1210, 1211, 1219, 1220, 1221, 1222, 1223, 1230, 120000, 120002, 120025, 120043, 120060] M M185 := Fr.step F_M183 (frX11_changes c43) (by decide)
                obtain rfl := Option.some.inj h
                exact F_M185
              · replace h := obind_some h
                obtain ⟨w45, c44, h⟩ := h
                obtain ⟨x186, M188⟩ := w45
                dsimp only at h
                have F_M188 : Fr [1201, 1203, 1204, 1205, 1206, 1207, 1208, 1209, 1210, 1211, 1219, 1220, 1221, 1222, 1223, 1230, 120000, 120002, 120025, 120043, 120060] M M188 := Fr.step F_M (frX11_meets c44) (by decide)
                obtain rfl := Option.some.inj h
                exact F_M188
            · replace h := chk_some h
              obtain ⟨_, h⟩ := h
              replace h := bnd_some h
              obtain ⟨M134, e46, h⟩ := h
              have F_M134 : Fr [1201, 1203, 1204, 1205, 1206, 1207, 1208, 1209, 1210, 1211, 1219, 1220, 1221, 1222, 1223, 1230, 120000, 120002, 120025, 120043, 120060] M M134 := by rw [e46]; exact Fr.wI F_M (by decide)
              replace h := chk_some h
              obtain ⟨_, h⟩ := h
              replace h := bnd_some h
              obtain ⟨M136, e47, h⟩ := h
              have F_M136 : Fr [1201, 1203, 1204, 1205, 1206, 1207, 1208, 1209, 1210, 1211, 1219, 1220, 1221, 1222, 1223, 1230, 120000, 120002, 120025, 120043, 120060] M M136 := by rw [e47]; exact Fr.wL F_M134 (by decide)
              replace h := obind_some h
              obtain ⟨w49, b48, h⟩ := h
              obtain ⟨x138, hq⟩ : ∃ q, q = w49 := ⟨_, rfl⟩
              rw [← hq] at h
              clear hq
              replace h := chk_some h
              obtain ⟨_, h⟩ := h
              replace h := bnd_some h
              obtain ⟨M142, e50, h⟩ := h
              have F_M142 : Fr [1201, 1203, 1204, 1205, 1206, 1207, 1208, 1209, 1210, 1211, 1219, 1220, 1221, 1222, 1223, 1230, 120000, 120002, 120025, 120043, 120060] M M142 := by rw [e50]; exact Fr.wI F_M136 (by decide)
              replace h := obind_some h
              obtain ⟨w52, b51, h⟩ := h
              obtain ⟨x144, hq⟩ : ∃ q, q = w52 := ⟨_, rfl⟩
              rw [← hq] at h
              clear hq
              replace h := chk_some h
              obtain ⟨_, h⟩ := h
              replace h := bnd_some h
              obtain ⟨M148, e53, h⟩ := h
              have F_M148 : Fr [1201, 1203, 1204, 1205, 1206, 1207, 1208, 1209, 1210, 1211, 1219, 1220, 1221, 1222, 1223, 1230, 120000, 120002, 120025, 120043, 120060] M M148 := by rw [e53]; exact Fr.wI F_M142 (by decide)
              replace h := obind_some h
              obtain ⟨M151, c54, h⟩ := h
              have F_M151 : Fr [1201, 1203, 1204, 1205, 1206, 1207, 1208, 1209, 1210, 1211, 1219, 1220, 1221, 1222, 1223, 1230, 120000, 120002, 120025, 120043, 120060] M M151 := Fr.step F_M148 (frX11_part_l130 c54) (by decide)
              replace h := chk_some h
              obtain ⟨_, h⟩ := h
              replace h := bnd_some h
              obtain ⟨M153, e55, h⟩ := h
              have F_M153 : Fr [1201, 1203, 1204, 1205, 1206, 1207, 1208, 1209, 1210, 1211, 1219, 1220, 1221, 1222, 1223, 1230, 120000, 120002, 120025, 120043, 120060] M M153 := by rw [e55]; exact Fr.wI F_M151 (by decide)
              replace h := chk_some h
              obtain ⟨_, h⟩ := h
              replace h := bnd_some h
              obtain ⟨M155, e56, h⟩ := h
              have F_M155 : Fr [1201, 1203, 1204, 1205, 1206, 1207, 1208, 1209, 1210, 1211, 1219, 1220, 1221, 1222, 1223, 1230, 120000, 120002, 120025, 120043, 120060] M M155 := by rw [e56]; exact Fr.wI F_M153 (by decide)
              replace h := bnd_some h
              obtain ⟨M156, e57, h⟩ := h
              have F_M156 : Fr [1201, 1203, 1204, 1205, 1206, 1207, 1208, 1209, 1210, 1211, 1219, 1220, 1221, 1222, 1223, 1230, 120000, 120002, 120025, 120043, 120060] M M156 := by rw [e57]; exact Fr.wIo F_M155 (by decide)
              replace h := obind_some h
              obtain ⟨M158, c58, h⟩ := h
              have F_M158 : Fr [1201, 1203, 1204, 1205, 1206, 1207, 1208, 1209, 1210, 1211, 1219, 1220, 1221, 1222, 1223, 1230, 120000, 120002, 120025, 120043, 120060] M M158 := Fr.step F_M156 (frX11_changes c58) (by decide)
              obtain rfl := Option.some.inj h
              exact F_M158
    · rcases ite_some h with ⟨_, h⟩ | ⟨_, h⟩
      · rcases ite_some h with ⟨_, h⟩ | ⟨_, h⟩
        · rcases ite_some h with ⟨_, h⟩ | ⟨_, h⟩
          · obtain rfl := Option.some.inj h
            exact F_M
          · rcases ite_some h with ⟨_, h⟩ | ⟨_, h⟩
            · rcases ite_some h with ⟨_, h⟩ | ⟨_, h⟩
              · replace h := chk_some h
                obtain ⟨_, h⟩ := h
                replace h := bnd_some h
                obtain ⟨M99, e59, h⟩ := h
                have F_M99 : Fr [1201, 1203, 1204, 1205, 1206, 1207, 1208, 1209, 1210, 1211, 1219, 1220, 1221, 1222, 1223, 1230, 120000, 120002, 120025, 120043, 120060] M M99 := by rw [e59]; exact Fr.wI F_M (by decide)
                replace h := chk_some h
                obtain ⟨_, h⟩ := h
                replace h := bnd_some h
                obtain ⟨M101, e60, h⟩ := h
                have F_M101 : Fr [1201, 1203, 1204, 1205, 1206, 1207, 1208, 1209, 1210, 1211, 1219, 1220, 1221, 1222, 1223, 1230, 120000, 120002, 120025, 120043, 120060] M M101 := by rw [e60]; exact Fr.wL F_M99 (by decide)
                replace h := obind_some h
                obtain ⟨w62, b61, h⟩ := h
                obtain ⟨x103, hq⟩ : ∃ q, q = w62 := ⟨_, rfl⟩
                rw [← hq] at h
                clear hq
                replace h := chk_some h
                obtain ⟨_, h⟩ := h
                replace h := bnd_some h
                obtain ⟨M107, e63, h⟩ := h
                have F_M107 : Fr [1201, 1203, 1204, 1205, 1206, 1207, 1208, 1209, 1210, 1211, 1219, 1220, 1221, 1222, 1223, 1230, 120000, 120002, 120025, 120043, 120060] M M107 := by rw [e63]; exact Fr.wI F_M101 (by decide)
                replace h := obind_some h
                obtain ⟨w65, b64, h⟩ := h
                obtain ⟨x109, hq⟩ : ∃ q, q = w65 := ⟨_, rfl⟩
                rw [← hq] at h
                clear hq
                replace h := chk_some h
                obtain ⟨_, h⟩ := h
                replace h := bnd_some h
                obtain ⟨M113, e66, h⟩ := h
                have F_M113 : Fr [1201, 1203, 1204, 1205, 1206, 1207, 1208, 1209, 1210, 1211, 1219, 1220, 1221, 1222, 1223, 1230, 120000, 120002, 120025, 120043, 120060] M M113 := by rw [e66]; exact Fr.wI F_M107 (by decide)
                replace h := obind_some h
                obtain ⟨M116, c67, h⟩ := h
                have F_M116 : Fr [1201, 1203, 1204, 1205, 1206, 1207, 1208, 1209, 1210, 1211, 1219, 1220, 1221, 1222, 1223, 1230, 120000, 120002, 120025, 120043, 120060] M M116 := Fr.step F_M113 (frX11_part_l130 c67) (by decide)
                replace h := chk_some h
                obtain ⟨_, h⟩ := h
                replace h := bnd_some h
                obtain ⟨M118, e68, h⟩ := h
                have F_M118 : Fr [1201, 1203, 1204, 1205, 1206, 1207, 1208, 1209, 1210, 1211, 1219, 1220, 1221, 1222, 1223, 1230, 120000, 120002, 120025, 120043, 120060] M M118 := by rw [e68]; exact Fr.wI F_M116 (by decide)
                replace h := chk_some h
                obtain ⟨_, h⟩ := h
                replace h := bnd_some h
                obtain ⟨M120, e69, h⟩ := h
                have F_M120 : Fr [1201, 1203, 1204, 1205, 1206, 1207, 1208, 1209, 1210, 1211, 1219, 1220, 1221, 1222, 1223, 1230, 120000, 120002, 120025, 120043, 120060] M M120 := by rw [e69]; exact Fr.wI F_M118 (by decide)
                replace h := bnd_some h
                obtain ⟨M121, e70, h⟩ := h
                have F_M121 : Fr [1201, 1203, 1204, 1205, 1206, 1207, 1208, 1209, 1210, 1211, 1219, 1220, 1221, 1222, 1223, 1230, 120000, 120002, 120025, 120043, 120060] M M121 := by rw [e70]; exact Fr.wIo F_M120 (by decide)
                replace h := obind_some h
                obtain ⟨M123, c71, h⟩ := h
                have F_M123 : Fr [1201, 1203, 1204, 1205, 1206, 1207, 1208, 1209, 1210, 1211, 1219, 1220, 1221, 1222, 1223, 1230, 120000, 120002, 120025, 120043, 120060] M M123 := Fr.step F_M121 (frX11_changes c71) (by decide)
                obtain rfl := Option.some.inj h
                exact F_M123
              · replace h := obind_some h
                obtain ⟨w73, c72, h⟩ := h
                obtain ⟨x124, M126⟩ := w73
                dsimp only at h
                have F_M126 : Fr [1201, 1203, 1204, 1205, 1206, 1207, 1208, 1209, 1210, 1211, 1219, 1220, 1221, 1222, 1223, 1230, 120000, 120002, 120025, 120043, 120060] M M126 := Fr.step F_M (frX11_meets c72) (by decide)
                obtain rfl := Option.some.inj h
                exact F_M126
            · replace h := chk_some h
              obtain ⟨_, h⟩ := h
              replace h := bnd_some h
              obtain ⟨M72, e74, h⟩ := h
              have F_M72 : Fr [1201, 1203, 1204, 1205, 1206, 1207, 1208, 1209, 1210, 1211, 1219, 1220, 1221, 1222, 1223, 1230, 120000, 120002, 120025, 120043, 120060] M M72 := by rw [e74]; exact Fr.wI F_M (by decide)
              replace h := chk_some h
              obtain ⟨_, h⟩ := h
              replace h := bnd_some h
              obtain ⟨M74, e75, h⟩ := h
              have F_M74 : Fr [1201, 1203, 1204, 1205, 1206, 1207, 1208, 1209, 1210, 1211, 1219, 1220, 1221, 1222, 1223, 1230, 120000, 120002, 120025, 120043, 120060] M M74 := by rw [e75]; exact Fr.wL F_M72 (by decide)
              replace h := obind_some h
              obtain ⟨w77, b76, h⟩ := h
              obtain ⟨x76, hq⟩ : ∃ q, q = w77 := ⟨_, rfl⟩
              rw [← hq] at h
              clear hq
              replace h := chk_some h
              obtain ⟨_, h⟩ := h
              replace h := bnd_some h
              obtain ⟨M80, e78, h⟩ := h
              have F_M80 : Fr [1201, 1203, 1204, 1205, 1206, 1207, 1208, 1209, 1210, 1211, 1219, 1220, 1221, 1222, 1223, 1230, 120000, 120002, 120025, 120043, 120060] M M80 := by rw [e78]; exact Fr.wI F_M74 (by decide)
              replace h := obind_some h
              obtain ⟨w80, b79, h⟩ := h
              obtain ⟨x82, hq⟩ : ∃ q, q = w80 := ⟨_, rfl⟩
              rw [← hq] at h
              clear hq
              replace h := chk_some h
              obtain ⟨_, h⟩ := h
              replace h := bnd_some h
              obtain ⟨M86, e81, h⟩ := h
              have F_M86 : Fr [1201, 1203, 1204, 1205, 1206, 1207, 1208, 1209, 1210, 1211, 1219, 1220, 1221, 1222, 1223, 1230, 120000, 120002, 120025, 120043, 120060] M M86 := by rw [e81]; exact Fr.wI F_M80 (by decide)
              replace h := obind_some h
              obtain ⟨M89, c82, h⟩ := h
              have F_M89 : Fr [1201, 1203, 1204, 1205, 1206, 1207, 1208, 1209, 1210, 1211, 1219, 1220, 1221, 1222, 1223, 1230, 120000, 120002, 120025, 120043, 120060] M M89 := Fr.step F_M86 (frX11_part_l130 c82) (by decide)
              replace h := chk_some h
              obtain ⟨_, h⟩ := h
              replace h := bnd_some h
              obtain ⟨M91, e83, h⟩ := h
              have F_M91 : Fr [1201, 1203, 1204, 1205, 1206, 1207, 1208, 1209, 1210, 1211, 1219, 1220, 1221, 1222, 1223, 1230, 120000, 120002, 120025, 120043, 120060] M M91 := by rw [e83]; exact Fr.wI F_M89 (by decide)
              replace h := chk_some h
              obtain ⟨_, h⟩ := h
              replace h := bnd_some h
              obtain ⟨M93, e84, h⟩ := h
              have F_M93 : Fr [1201, 1203, 1204, 1205, 1206, 1207, 1208, 1209, 1210, 1211, 1219, 1220, 1221, 1222, 1223, 1230, 120000, 120002, 120025, 120043, 120060] M M93 := by rw [e84]; exact Fr.wI F_M91 (by decide)
              replace h := bnd_some h
              obtain ⟨M94, e85, h⟩ := h
              have F_M94 : Fr [1201, 1203, 1204, 1205, 1206, 1207, 1208, 1209, 1210, 1211, 1219, 1220, 1221, 1222, 1223, 1230, 120000, 120002, 120025, 120043, 120060] M M94 := by rw [e85]; exact Fr.wIo F_M93 (by decide)
              replace h := obind_some h
              obtain ⟨M96, c86, h⟩ := h
              have F_M96 : Fr [1201, 1203, 1204, 1205, 1206, 1207, 1208, 1209, 1210, 1211, 1219, 1220, 1221, 1222, 1223, 1230, 120000, 120002, 120025, 120043, 120060] M M96 := Fr.step F_M94 (frX11_changes c86) (by decide)
              obtain rfl := Option.some.inj h
              exact F_M96
        · obtain rfl := Option.some.inj h
          exact F_M
      · rcases ite_some h with ⟨_, h⟩ | ⟨_, h⟩
        · obtain rfl := Option.some.inj h
          exact F_M
        · rcases ite_some h with ⟨_, h⟩ | ⟨_, h⟩
          · rcases ite_some h with ⟨_, h⟩ | ⟨_, h⟩
            · replace h := chk_some h
              obtain ⟨_, h⟩ := h
              replace h := bnd_some h
              obtain ⟨M40, e87, h⟩ := h
              have F_M40 : Fr [1201, 1203, 1204, 1205, 1206, 1207, 1208, 1209, 1210, 1211, 1219, 1220, 1221, 1222, 1223, 1230, 120000, 120002, 120025, 120043, 120060] M M40 := by rw [e87]; exact Fr.wI F_M (by decide)
              replace h := chk_some h
              obtain ⟨_, h⟩ := h
              replace h := bnd_some h
              obtain ⟨M42, e88, h⟩ := h
              have F_M42 : Fr [1201, 1203, 1204, 1205, 1206, 1207, 1208, 1209, 1210, 1211, 1219, 1220, 1221, 1222, 1223, 1230, 120000, 120002, 120025, 120043, 120060] M M42 := by rw [e88]; exact Fr.wL F_M40 (by decide)
              replace h := obind_some h
              obtain ⟨w90, b89, h⟩ := h
              obtain ⟨x44, hq⟩ : ∃ q, q = w90 := ⟨_, rfl⟩
              rw [← hq] at h
              clear hq
              replace h := chk_some h
              obtain ⟨_, h⟩ := h
              replace h := bnd_some h
              obtain ⟨M48, e91, h⟩ := h
              have F_M48 : Fr [1201, 1203, 1204, 1205, 1206, 1207, 1208, 1209, 1210, 1211, 1219, 1220, 1221, 1222, 1223, 1230, 120000, 120002, 120025, 120043, 120060] M M48 := by rw [e91]; exact Fr.wI F_M42 (by decide)
              replace h := obind_some h
              obtain ⟨w93, b92, h⟩ := h
              obtain ⟨x50, hq⟩ : ∃ q, q = w93 := ⟨_, rfl⟩
              rw [← hq] at h
              clear hq
              replace h := chk_some h
              obtain ⟨_, h⟩ := h
              replace h := bnd_some h
              obtain ⟨M54, e94, h⟩ := h
              have F_M54 : Fr [1201, 1203, 1204, 1205, 1206, 1207, 1208, 1209, 1210, 1211, 1219, 1220, 1221, 1222, 1223, 1230, 120000, 120002, 120025, 120043, 120060] M M54 := by rw [e94]; exact Fr.wI F_M48 (by decide)
              replace h := obind_some h
              obtain ⟨M57, c95, h⟩ := h
              have F_M57 : Fr [1201, 1203, 1204, 1205, 1206, 1207, 1208, 1209, 1210, 1211, 1219, 1220, 1221, 1222, 1223, 1230, 120000, 120002, 120025, 120043, 120060] M M57 := Fr.step F_M54 (frX11_part_l130 c95) (by decide)
              replace h := chk_some h
              obtain ⟨_, h⟩ := h
              replace h := bnd_some h
              obtain ⟨M59, e96, h⟩ := h
              have F_M59 : Fr [1201, 1203, 1204, 1205, 1206, 1207, 1208, 1209, 1210, 1211, 1219, 1220, 1221, 1222, 1223, 1230, 120000, 120002, 120025, 120043, 120060] M M59 := by rw [e96]; exact Fr.wI F_M57 (by decide)
              replace h := chk_some h
              obtain ⟨_, h⟩ := h
              replace h := bnd_some h
              obtain ⟨M61, e97, h⟩ := h
              have F_M61 : Fr [1201, 1203, 1204, 1205, 1206, 1207, 1208, 1209, 1210, 1211, 1219, 1220, 1221, 1222, 1223, 1230, 120000, 120002, 120025, 120043, 120060] M M61 := by rw [e97]; exact Fr.wI F_M59 (by decide)
              replace h := bnd_some h
              obtain ⟨M62, e98, h⟩ := h
              have F_M62 : Fr [1201, 1203, 1204, 1205, 1206, 1207, 1208, 1209, 1210, 1211, 1219, 1220, 1221, 1222, 1223, 1230, 120000, 120002, 120025, 120043, 120060] M M62 := by rw [e98]; exact Fr.wIo F_M61 (by decide)
              replace h := obind_some h
              obtain ⟨M64, c99, h⟩ := h
              have F_M64 : Fr [1201, 1203, 1204, 1205, 1206, 1207, 1208, 1209, 1210, 1211, 1219, 1220, 1221, 1222, 1223, 1230, 120000, 120002, 120025, 120043, 120060] M M64 := Fr.step F_M62 (frX11_changes c99) (by decide)
              obtain rfl := Option.some.inj h
              exact F_M64
            · replace h := obind_some h
              obtain ⟨w101, c100, h⟩ := h
              obtain ⟨x65, M67⟩ := w101
              dsimp only at h
              have F_M67 : Fr [1201, 1203, 1204, 1205, 1206, 1207, 1208, 1209, 1210, 1211, 1219, 1220, 1221, 1222, 1223, 1230, 120000, 120002, 120025, 120043, 120060] M M67 := Fr.step F_M (frX11_meets c100) (by decide)
              obtain rfl := Option.some.inj h
              exact F_M67
          · replace h := chk_some h
            obtain ⟨_, h⟩ := h
            replace h := bnd_some h
            obtain ⟨M9, e102, h⟩ := h
            have F_M9 : Fr [1201, 1203, 1204, 1205, 1206, 1207, 1208, 1209, 1210, 1211, 1219, 1220, 1221, 1222, 1223, 1230, 120000, 120002, 120025, 120043, 120060] M M9 := by rw [e102]; exact Fr.wI F_M (by decide)
            replace h := chk_some h
            obtain ⟨_, h⟩ := h
            replace h := bnd_some h
            obtain ⟨M11, e103, h⟩ := h
            have F_M11 : Fr [1201, 1203, 1204, 1205, 1206, 1207, 1208, 1209, 1210, 1211, 1219, 1220, 1221, 1222, 1223, 1230, 120000, 120002, 120025, 120043, 120060] M M11 := by rw [e103]; exact Fr.wL F_M9 (by decide)
            replace h := obind_some h
            obtain ⟨w105, b104, h⟩ := h
            obtain ⟨x13, hq⟩ : ∃ q, q = w105 := ⟨_, rfl⟩
            rw [← hq] at h
            clear hq
            replace h := chk_some h
            obtain ⟨_, h⟩ := h
            replace h := bnd_some h
            obtain ⟨M17, e106, h⟩ := h
            have F_M17 : Fr [1201, 1203, 1204, 1205, 1206, 1207, 1208, 1209, 1210, 1211, 1219, 1220, 1221, 1222, 1223, 1230, 120000, 120002, 120025, 120043, 120060] M M17 := by rw [e106]; exact Fr.wI F_M11 (by decide)
            replace h := obind_some h
            obtain ⟨w108, b107, h⟩ := h
            obtain ⟨x19, hq⟩ : ∃ q, q = w108 := ⟨_, rfl⟩
            rw [← hq] at h
            clear hq
            replace h := chk_some h
            obtain ⟨_, h⟩ := h
            replace h := bnd_some h
            obtain ⟨M23, e109, h⟩ := h
            have F_M23 : Fr [1201, 1203, 1204, 1205, 1206, 1207, 1208, 1209, 1210, 1211, 1219, 1220, 1221, 1222, 1223, 1230, 120000, 120002, 120025, 120043, 120060] M M23 := by rw [e109]; exact Fr.wI F_M17 (by decide)
            replace h := obind_some h
            obtain ⟨M30, c110, h⟩ := h
            have F_M30 : Fr [1201, 1203, 1204, 1205, 1206, 1207, 1208, 1209, 1210, 1211, 1219, 1220, 1221, 1222, 1223, 1230, 120000, 120002, 120025, 120043, 120060] M M30 := Fr.step F_M23 (frX11_part_l130 c110) (by decide)
            replace h := chk_some h
            obtain ⟨_, h⟩ := h
            replace h := bnd_some h
            obtain ⟨M32, e111, h⟩ := h
            have F_M32 : Fr [1201, 1203, 1204, 1205, 1206, 1207, 1208, 1209, 1210, 1211, 1219, 1220, 1221, 1222, 1223, 1230, 120000, 120002, 120025, 120043, 120060] M M32 := by rw [e111]; exact Fr.wI F_M30 (by decide)
            replace h := chk_some h
            obtain ⟨_, h⟩ := h
            replace h := bnd_some h
            obtain ⟨M34, e112, h⟩ := h
            have F_M34 : Fr [1201, 1203, 1204, 1205, 1206, 1207, 1208, 1209, 1210, 1211, 1219, 1220, 1221, 1222, 1223, 1230, 120000, 120002, 120025, 120043, 120060] M M34 := by rw [e112]; exact Fr.wI F_M32 (by decide)
            replace h := bnd_some h
            obtain ⟨M35, e113, h⟩ := h
            have F_M35 : Fr [1201, 1203, 1204, 1205, 1206, 1207, 1208, 1209, 1210, 1211, 1219, 1220, 1221, 1222, 1223, 1230, 120000, 120002, 120025, 120043, 120060] M M35 := by rw [e113]; exact Fr.wIo F_M34 (by decide)
            replace h := obind_some h
            obtain ⟨M37, c114, h⟩ := h
            have F_M37 : Fr [1201, 1203, 1204, 1205, 1206, 1207, 1208, 1209, 1210, 1211, 1219, 1220, 1221, 1222, 1223, 1230, 120000, 120002, 120025, 120043, 120060] M M37 := Fr.step F_M35 (frX11_changes c114) (by decide)
            obtain rfl := Option.some.inj h
            exact F_M37
theorem frX11_line_l74_n {z2 : Int32} {z4 : Int32} : ∀ (n : Nat) (y5 : Int32) (M : tM) (w : (tM)), fX11_line_l74 z2 z4 n y5 M = some w → Fr [1215, 1216] M w := by
  intro n
  induction n with
  | zero => intro y5 M w h; cases h
  | succ n ih =>
    intro y5 M w h
    have F_M : Fr [1215, 1216] M M := Fr.refl
    rw [fX11_line_l74] at h
    rcases ite_some h with ⟨_, h⟩ | ⟨_, h⟩
    · obtain rfl := Option.some.inj h
      exact F_M
    · replace h := chk_some h
      obtain ⟨_, h⟩ := h
      replace h := bnd_some h
      obtain ⟨M20, e1, h⟩ := h
      have F_M20 : Fr [1215, 1216] M M20 := by rw [e1]; exact Fr.wI F_M (by decide)
      replace h := chk_some h
      obtain ⟨_, h⟩ := h
      replace h := bnd_some h
      obtain ⟨M22, e2, h⟩ := h
      have F_M22 : Fr [1215, 1216] M M22 := by rw [e2]; exact Fr.wI F_M20 (by decide)
      replace h := bnd_some h
      obtain ⟨x23, e3, h⟩ := h
      exact Fr.trans F_M22 (ih _ _ _ h)
theorem frX11_line_l74 {z2 : Int32} {z4 : Int32} {n : Nat} {y5 : Int32} {M : tM} {w : (tM)} (h : fX11_line_l74 z2 z4 n y5 M = some w) : Fr [1215, 1216] M w := frX11_line_l74_n n y5 M w h
theorem frX11_line {a1 : Int32} {a2 : Int32} {a3 : Int32} {a4 : Int32} {M : tM} {w : (Int32 × tM)} (h : fX11_line a1 a2 a3 a4 M = some w) : Fr [1208, 1209, 1213, 1214, 1215, 1216, 1217, 1219, 1220, 1221, 1222, 1223, 1230, 120012, 120025, 120043, 120060] M w.2 := by
  have F_M : Fr [1208, 1209, 1213, 1214, 1215, 1216, 1217, 1219, 1220, 1221, 1222, 1223, 1230, 120012, 120025, 120043, 120060] M M := Fr.refl
  unfold fX11_line at h
  replace h := obind_some h
  obtain ⟨x1, c1, h⟩ := h
  rcases ite_some h with ⟨_, h⟩ | ⟨_, h⟩
  · obtain rfl := Option.some.inj h
    exact F_M
  · replace h := obind_some h
    obtain ⟨x4, c2, h⟩ := h
    rcases ite_some h with ⟨_, h⟩ | ⟨_, h⟩
    · obtain rfl := Option.some.inj h
      exact F_M
    · replace h := obind_some h
      obtain ⟨x7, c3, h⟩ := h
      rcases ite_some h with ⟨_, h⟩ | ⟨_, h⟩
      · obtain rfl := Option.some.inj h
        exact F_M
      · replace h := obind_some h
        obtain ⟨x10, c4, h⟩ := h
        rcases ite_some h with ⟨_, h⟩ | ⟨_, h⟩
        · obtain rfl := Option.some.inj h
          exact F_M
        · rcases ite_some h with ⟨_, h⟩ | ⟨_, h⟩
          · obtain rfl := Option.some.inj h
            exact F_M
          · replace h := chk_some h
            obtain ⟨_, h⟩ := h
            replace h := bnd_some h
            obtain ⟨M15, e5, h⟩ := h
            have F_M15 : Fr [1208, 1209, 1213, 1214, 1215, 1216, 1217, 1219, 1220, 1221, 1222, 1223, 1230, 120012, 120025, 120043, 120060] M M15 := by rw [e5]; exact Fr.wI F_M (by decide)
            replace h := chk_some h
            obtain ⟨_, h⟩ := h
            replace h := bnd_some h
            obtain ⟨M17, e6, h⟩ := h
            have F_M17 : Fr [1208, 1209, 1213, 1214, 1215, 1216, 1217, 1219, 1220, 1221, 1222, 1223, 1230, 120012, 120025, 120043, 120060] M M17 := by rw [e6]; exact Fr.wI F_M15 (by decide)
            replace h := obind_some h
            obtain ⟨M26, c7, h⟩ := h
            have F_M26 : Fr [1208, 1209, 1213, 1214, 1215, 1216, 1217, 1219, 1220, 1221, 1222, 1223, 1230, 120012, 120025, 120043, 120060] M M26 := Fr.step F_M17 (frX11_line_l74 c7) (by decide)
            replace h := chk_some h
            obtain ⟨_, h⟩ := h
            replace h := bnd_some h
            obtain ⟨M28, e8, h⟩ := h
            have F_M28 : Fr [1208, 1209, 1213, 1214, 1215, 1216, 1217, 1219, 1220, 1221, 1222, 1223, 1230, 120012, 120025, 120043, 120060] M M28 := by rw [e8]; exact Fr.wI F_M26 (by decide)
            replace h := bnd_some h
            obtain ⟨M29, e9, h⟩ := h
            have F_M29 : Fr [1208, 1209, 1213, 1214, 1215, 1216, 1217, 1219, 1220, 1221, 1222, 1223, 1230, 120012, 120025, 120043, 120060] M M29 := by rw [e9]; exact Fr.wIo F_M28 (by decide)
            replace h := obind_some h
            obtain ⟨M31, c10, h⟩ := h
            have F_M31 : Fr [1208, 1209, 1213, 1214, 1215, 1216, 1217, 1219, 1220, 1221, 1222, 1223, 1230, 120012, 120025, 120043, 120060] M M31 := Fr.step F_M29 (frX11_changes c10) (by decide)
            obtain rfl := Option.some.inj h
            exact F_M31
theorem frX11_count {a1 : Int32} {a2 : Int32} {a3 : Int32} {a4 : Int32} {M : tM} {w : (Int32 × tM)} (h : fX11_count a1 a2 a3 a4 M = some w) : Fr [1201, 1208, 1209, 1215, 1216, 1219, 1220, 1221, 1222, 1223, 1230, 120000, 120025, 120043, 120060] M w.2 := by
  have F_M : Fr [1201, 1208, 1209, 1215, 1216, 1219, 1220, 1221, 1222, 1223, 1230, 120000, 120025, 120043, 120060] M M := Fr.refl
  unfold fX11_count at h
  replace h := obind_some h
  obtain ⟨x1, c1, h⟩ := h
  rcases ite_some h with ⟨_, h⟩ | ⟨_, h⟩
  · obtain rfl := Option.some.inj h
    exact F_M
  · replace h := obind_some h
    obtain ⟨x4, c2, h⟩ := h
    rcases ite_some h with ⟨_, h⟩ | ⟨_, h⟩
    · obtain rfl := Option.some.inj h
      exact F_M
    · replace h := obind_some h
      obtain ⟨w4, b3, h⟩ := h
      obtain ⟨x8, hq⟩ : ∃ q, q = w4 := ⟨_, rfl⟩
      rw [← hq] at h
      clear hq
      replace h := chk_some h
      obtain ⟨_, h⟩ := h
      rcases ite_some h with ⟨_, h⟩ | ⟨_, h⟩
      · replace h := chk_some h
        obtain ⟨_, h⟩ := h
        replace h := obind_some h
        obtain ⟨x14, c5, h⟩ := h
        rcases ite_some h with ⟨_, h⟩ | ⟨_, h⟩
        · replace h := obind_some h
          obtain ⟨w7, c6, h⟩ := h
          obtain ⟨x28, M30⟩ := w7
          dsimp only at h
          have F_M30 : Fr [1201, 1208, 1209, 1215, 1216, 1219, 1220, 1221, 1222, 1223, 1230, 120000, 120025, 120043, 120060] M M30 := Fr.step F_M (frX11_meets c6) (by decide)
          obtain rfl := Option.some.inj h
          exact F_M30
        · replace h := obind_some h
          obtain ⟨w9, b8, h⟩ := h
          obtain ⟨x18, hq⟩ : ∃ q, q = w9 := ⟨_, rfl⟩
          rw [← hq] at h
          clear hq
          replace h := obind_some h
          obtain ⟨w11, b10, h⟩ := h
          have G_w11 : Fr [1201, 1208, 1209, 1215, 1216, 1219, 1220, 1221, 1222, 1223, 1230, 120000, 120025, 120043, 120060] M w11 := by
            clear h
            replace h := b10
            clear b10
            rcases ite_some h with ⟨_, h⟩ | ⟨_, h⟩
            · replace h := chk_some h
              obtain ⟨_, h⟩ := h
              replace h := bnd_some h
              obtain ⟨M23, e12, h⟩ := h
              have F_M23 : Fr [1201, 1208, 1209, 1215, 1216, 1219, 1220, 1221, 1222, 1223, 1230, 120000, 120025, 120043, 120060] M M23 := by rw [e12]; exact Fr.wI F_M (by decide)
              obtain rfl := Option.some.inj h
              exact F_M23
            · replace h := chk_some h
              obtain ⟨_, h⟩ := h
              replace h := bnd_some h
              obtain ⟨M25, e13, h⟩ := h
              have F_M25 : Fr [1201, 1208, 1209, 1215, 1216, 1219, 1220, 1221, 1222, 1223, 1230, 120000, 120025, 120043, 120060] M M25 := by rw [e13]; exact Fr.wI F_M (by decide)
              obtain rfl := Option.some.inj h
              exact F_M25
          have F_w11 := G_w11
          obtain ⟨M22, hq⟩ : ∃ q, q = w11 := ⟨_, rfl⟩
          rw [← hq] at h
          have F_M22 : Fr [1201, 1208, 1209, 1215, 1216, 1219, 1220, 1221, 1222, 1223, 1230, 120000, 120025, 120043, 120060] M M22 := by rw [hq]; exact F_w11
          clear hq
          replace h := obind_some h
          obtain ⟨M27, c14, h⟩ := h
          have F_M27 : Fr [1201, 1208, 1209, 1215, 1216, 1219, 1220, 1221, 1222, 1223, 1230, 120000, 120025, 120043, 120060] M M27 := Fr.step F_M22 (frX11_changes c14) (by decide)
          obtain rfl := Option.some.inj h
          exact F_M27
      · replace h := obind_some h
        obtain ⟨w16, c15, h⟩ := h
        obtain ⟨x31, M33⟩ := w16
        dsimp only at h
        have F_M33 : Fr [1201, 1208, 1209, 1215, 1216, 1219, 1220, 1221, 1222, 1223, 1230, 120000, 120025, 120043, 120060] M M33 := Fr.step F_M (frX11_meets c15) (by decide)
        obtain rfl := Option.some.inj h
        exact F_M33
theorem frX11_first_l29_n {z1 : Int32} {z2 : Int32} : ∀ (n : Nat) (y3 : Int32) (M : tM) (w : (tM)), fX11_first_l29 z1 z2 n y3 M = some w → Fr [1218] M w := by
  intro n
  induction n with
  | zero => intro y3 M w h; cases h
  | succ n ih =>
    intro y3 M w h
    have F_M : Fr [1218] M M := Fr.refl
    rw [fX11_first_l29] at h
    rcases ite_some h with ⟨_, h⟩ | ⟨_, h⟩
    · obtain rfl := Option.some.inj h
      exact F_M
    · replace h := chk_some h
      obtain ⟨_, h⟩ := h
      replace h := bnd_some h
      obtain ⟨M11, e1, h⟩ := h
      have F_M11 : Fr [1218] M M11 := by rw [e1]; exact Fr.wL F_M (by decide)
      replace h := bnd_some h
      obtain ⟨x12, e2, h⟩ := h
      exact Fr.trans F_M11 (ih _ _ _ h)
theorem frX11_first_l29 {z1 : Int32} {z2 : Int32} {n : Nat} {y3 : Int32} {M : tM} {w : (tM)} (h : fX11_first_l29 z1 z2 n y3 M = some w) : Fr [1218] M w := frX11_first_l29_n n y3 M w h
theorem frX11_first {a1 : Int32} {a2 : Int32} {M : tM} {w : (Int32 × tM)} (h : fX11_first a1 a2 M = some w) : Fr [1208, 1209, 1217, 1218, 1219, 1220, 1221, 1222, 1223, 1230, 120025, 120043, 120060] M w.2 := by
  have F_M : Fr [1208, 1209, 1217, 1218, 1219, 1220, 1221, 1222, 1223, 1230, 120025, 120043, 120060] M M := Fr.refl
  unfold fX11_first at h
  replace h := obind_some h
  obtain ⟨x1, c1, h⟩ := h
  rcases ite_some h with ⟨_, h⟩ | ⟨_, h⟩
  · obtain rfl := Option.some.inj h
    exact F_M
  · replace h := obind_some h
    obtain ⟨x4, c2, h⟩ := h
    rcases ite_some h with ⟨_, h⟩ | ⟨_, h⟩
    · obtain rfl := Option.some.inj h
      exact F_M
    · replace h := chk_some h
      obtain ⟨_, h⟩ := h
      replace h := bnd_some h
      obtain ⟨M8, e3, h⟩ := h
      have F_M8 : Fr [1208, 1209, 1217, 1218, 1219, 1220, 1221, 1222, 1223, 1230, 120025, 120043, 120060] M M8 := by rw [e3]; exact Fr.wI F_M (by decide)
      replace h := obind_some h
      obtain ⟨M15, c4, h⟩ := h
      have F_M15 : Fr [1208, 1209, 1217, 1218, 1219, 1220, 1221, 1222, 1223, 1230, 120025, 120043, 120060] M M15 := Fr.step F_M8 (frX11_first_l29 c4) (by decide)
      replace h := obind_some h
      obtain ⟨M17, c5, h⟩ := h
      have F_M17 : Fr [1208, 1209, 1217, 1218, 1219, 1220, 1221, 1222, 1223, 1230, 120025, 120043, 120060] M M17 := Fr.step F_M15 (frX11_changes c5) (by decide)
      obtain rfl := Option.some.inj h
      exact F_M17
theorem frX11_thing {a1 : Int32} {a2 : Int32} {a3 : Int64} {M : tM} {w : (Int32 × tM)} (h : fX11_thing a1 a2 a3 M = some w) : Fr [1201, 1208, 1209, 1218, 1219, 1220, 1221, 1222, 1223, 1230, 120000, 120025] M w.2 := by
  have F_M : Fr [1201, 1208, 1209, 1218, 1219, 1220, 1221, 1222, 1223, 1230, 120000, 120025] M M := Fr.refl
  unfold fX11_thing at h
  replace h := obind_some h
  obtain ⟨x1, c1, h⟩ := h
  rcases ite_some h with ⟨_, h⟩ | ⟨_, h⟩
  · obtain rfl := Option.some.inj h
    exact F_M
  · replace h := chk_some h
    obtain ⟨_, h⟩ := h
    replace h := obind_some h
    obtain ⟨x5, c2, h⟩ := h
    rcases ite_some h with ⟨_, h⟩ | ⟨_, h⟩
    · replace h := obind_some h
      obtain ⟨w4, c3, h⟩ := h
      obtain ⟨x12, M14⟩ := w4
      dsimp only at h
      have F_M14 : Fr [1201, 1208, 1209, 1218, 1219, 1220, 1221, 1222, 1223, 1230, 120000, 120025] M M14 := Fr.step F_M (frX11_meets c3) (by decide)
      obtain rfl := Option.some.inj h
      exact F_M14
    · replace h := chk_some h
      obtain ⟨_, h⟩ := h
      replace h := bnd_some h
      obtain ⟨M9, e5, h⟩ := h
      have F_M9 : Fr [1201, 1208, 1209, 1218, 1219, 1220, 1221, 1222, 1223, 1230, 120000, 120025] M M9 := by rw [e5]; exact Fr.wL F_M (by decide)
      replace h := obind_some h
      obtain ⟨M11, c6, h⟩ := h
      have F_M11 : Fr [1201, 1208, 1209, 1218, 1219, 1220, 1221, 1222, 1223, 1230, 120000, 120025] M M11 := Fr.step F_M9 (frX11_begins c6) (by decide)
      obtain rfl := Option.some.inj h
      exact F_M11
theorem frX11_row {a1 : Int32} {a2 : Int32} {a3 : Int64} {M : tM} {w : (Int32 × tM)} (h : fX11_row a1 a2 a3 M = some w) : Fr [1201, 1207, 1208, 1209, 1219, 1220, 1221, 1222, 1223, 1230, 120000, 120025] M w.2 := by
  have F_M : Fr [1201, 1207, 1208, 1209, 1219, 1220, 1221, 1222, 1223, 1230, 120000, 120025] M M := Fr.refl
  unfold fX11_row at h
  replace h := obind_some h
  obtain ⟨x1, c1, h⟩ := h
  rcases ite_some h with ⟨_, h⟩ | ⟨_, h⟩
  · obtain rfl := Option.some.inj h
    exact F_M
  · replace h := chk_some h
    obtain ⟨_, h⟩ := h
    rcases ite_some h with ⟨_, h⟩ | ⟨_, h⟩
    · replace h := chk_some h
      obtain ⟨_, h⟩ := h
      rcases ite_some h with ⟨_, h⟩ | ⟨_, h⟩
      · replace h := chk_some h
        obtain ⟨_, h⟩ := h
        replace h := obind_some h
        obtain ⟨x9, c2, h⟩ := h
        rcases ite_some h with ⟨_, h⟩ | ⟨_, h⟩
        · replace h := obind_some h
          obtain ⟨w4, c3, h⟩ := h
          obtain ⟨x16, M18⟩ := w4
          dsimp only at h
          have F_M18 : Fr [1201, 1207, 1208, 1209, 1219, 1220, 1221, 1222, 1223, 1230, 120000, 120025] M M18 := Fr.step F_M (frX11_meets c3) (by decide)
          obtain rfl := Option.some.inj h
          exact F_M18
        · replace h := chk_some h
          obtain ⟨_, h⟩ := h
          replace h := bnd_some h
          obtain ⟨M13, e5, h⟩ := h
          have F_M13 : Fr [1201, 1207, 1208, 1209, 1219, 1220, 1221, 1222, 1223, 1230, 120000, 120025] M M13 := by rw [e5]; exact Fr.wL F_M (by decide)
          replace h := obind_some h
          obtain ⟨M15, c6, h⟩ := h
          have F_M15 : Fr [1201, 1207, 1208, 1209, 1219, 1220, 1221, 1222, 1223, 1230, 120000, 120025] M M15 := Fr.step F_M13 (frX11_begins c6) (by decide)
          obtain rfl := Option.some.inj h
          exact F_M15
      · replace h := obind_some h
        obtain ⟨w8, c7, h⟩ := h
        obtain ⟨x19, M21⟩ := w8
        dsimp only at h
        have F_M21 : Fr [1201, 1207, 1208, 1209, 1219, 1220, 1221, 1222, 1223, 1230, 120000, 120025] M M21 := Fr.step F_M (frX11_meets c7) (by decide)
        obtain rfl := Option.some.inj h
        exact F_M21
    · replace h := obind_some h
      obtain ⟨w10, c9, h⟩ := h
      obtain ⟨x22, M24⟩ := w10
      dsimp only at h
      have F_M24 : Fr [1201, 1207, 1208, 1209, 1219, 1220, 1221, 1222, 1223, 1230, 120000, 120025] M M24 := Fr.step F_M (frX11_meets c9) (by decide)
      obtain rfl := Option.some.inj h
      exact F_M24
theorem frX11_copy_l108_n {z1 : Int32} {z2 : Int32} {z3 : Int32} {z4 : Int32} {z5 : Int32} : ∀ (n : Nat) (y6 : Int32) (M : tM) (w : (tM)), fX11_copy_l108 z1 z2 z3 z4 z5 n y6 M = some w → Fr [1231] M w := by
  intro n
  induction n with
  | zero => intro y6 M w h; cases h
  | succ n ih =>
    intro y6 M w h
    have F_M : Fr [1231] M M := Fr.refl
    rw [fX11_copy_l108] at h
    rcases ite_some h with ⟨_, h⟩ | ⟨_, h⟩
    · obtain rfl := Option.some.inj h
      exact F_M
    · replace h := chk_some h
      obtain ⟨_, h⟩ := h
      replace h := chk_some h
      obtain ⟨_, h⟩ := h
      replace h := bnd_some h
      obtain ⟨M35, e1, h⟩ := h
      have F_M35 : Fr [1231] M M35 := by rw [e1]; exact Fr.wL F_M (by decide)
      replace h := bnd_some h
      obtain ⟨x36, e2, h⟩ := h
      exact Fr.trans F_M35 (ih _ _ _ h)
theorem frX11_copy_l108 {z1 : Int32} {z2 : Int32} {z3 : Int32} {z4 : Int32} {z5 : Int32} {n : Nat} {y6 : Int32} {M : tM} {w : (tM)} (h : fX11_copy_l108 z1 z2 z3 z4 z5 n y6 M = some w) : Fr [1231] M w := frX11_copy_l108_n n y6 M w h
theorem frX11_copy_l145_n {z3 : Int32} {z4 : Int32} {z5 : Int32} : ∀ (n : Nat) (y6 : Int32) (M : tM) (w : (tM)), fX11_copy_l145 z3 z4 z5 n y6 M = some w → Fr [1207] M w := by
  intro n
  induction n with
  | zero => intro y6 M w h; cases h
  | succ n ih =>
    intro y6 M w h
    have F_M : Fr [1207] M M := Fr.refl
    rw [fX11_copy_l145] at h
    rcases ite_some h with ⟨_, h⟩ | ⟨_, h⟩
    · obtain rfl := Option.some.inj h
      exact F_M
    · replace h := chk_some h
      obtain ⟨_, h⟩ := h
      replace h := chk_some h
      obtain ⟨_, h⟩ := h
      replace h := bnd_some h
      obtain ⟨M43, e1, h⟩ := h
      have F_M43 : Fr [1207] M M43 := by rw [e1]; exact Fr.wL F_M (by decide)
      replace h := bnd_some h
      obtain ⟨x44, e2, h⟩ := h
      exact Fr.trans F_M43 (ih _ _ _ h)
theorem frX11_copy_l145 {z3 : Int32} {z4 : Int32} {z5 : Int32} {n : Nat} {y6 : Int32} {M : tM} {w : (tM)} (h : fX11_copy_l145 z3 z4 z5 n y6 M = some w) : Fr [1207] M w := frX11_copy_l145_n n y6 M w h
theorem frX11_copy {a1 : Int32} {a2 : Int32} {a3 : Int32} {a4 : Int32} {a5 : Int32} {M : tM} {w : (Int32 × tM)} (h : fX11_copy a1 a2 a3 a4 a5 M = some w) : Fr [1201, 1207, 1208, 1209, 1219, 1220, 1221, 1222, 1223, 1230, 1231, 120000, 120025] M w.2 := by
  have F_M : Fr [1201, 1207, 1208, 1209, 1219, 1220, 1221, 1222, 1223, 1230, 1231, 120000, 120025] M M := Fr.refl
  unfold fX11_copy at h
  replace h := obind_some h
  obtain ⟨x1, c1, h⟩ := h
  rcases ite_some h with ⟨_, h⟩ | ⟨_, h⟩
  · obtain rfl := Option.some.inj h
    exact F_M
  · replace h := obind_some h
    obtain ⟨x4, c2, h⟩ := h
    rcases ite_some h with ⟨_, h⟩ | ⟨_, h⟩
    · obtain rfl := Option.some.inj h
      exact F_M
    · replace h := chk_some h
      obtain ⟨_, h⟩ := h
      rcases ite_some h with ⟨_, h⟩ | ⟨_, h⟩
      · replace h := chk_some h
        obtain ⟨_, h⟩ := h
        rcases ite_some h with ⟨_, h⟩ | ⟨_, h⟩
        · replace h := chk_some h
          obtain ⟨_, h⟩ := h
          rcases ite_some h with ⟨_, h⟩ | ⟨_, h⟩
          · replace h := obind_some h
            obtain ⟨w4, c3, h⟩ := h
            obtain ⟨x16, M18⟩ := w4
            dsimp only at h
            have F_M18 : Fr [1201, 1207, 1208, 1209, 1219, 1220, 1221, 1222, 1223, 1230, 1231, 120000, 120025] M M18 := Fr.step F_M (frX11_meets c3) (by decide)
            obtain rfl := Option.some.inj h
            exact F_M18
          · replace h := chk_some h
            obtain ⟨_, h⟩ := h
            rcases ite_some h with ⟨_, h⟩ | ⟨_, h⟩
            · replace h := chk_some h
              obtain ⟨_, h⟩ := h
              replace h := obind_some h
              obtain ⟨x22, c5, h⟩ := h
              rcases ite_some h with ⟨_, h⟩ | ⟨_, h⟩
              · replace h := obind_some h
                obtain ⟨w7, c6, h⟩ := h
                obtain ⟨x25, M27⟩ := w7
                dsimp only at h
                have F_M27 : Fr [1201, 1207, 1208, 1209, 1219, 1220, 1221, 1222, 1223, 1230, 1231, 120000, 120025] M M27 := Fr.step F_M (frX11_meets c6) (by decide)
                obtain rfl := Option.some.inj h
                exact F_M27
              · replace h := chk_some h
                obtain ⟨_, h⟩ := h
                replace h := obind_some h
                obtain ⟨x29, c8, h⟩ := h
                rcases ite_some h with ⟨_, h⟩ | ⟨_, h⟩
                · replace h := obind_some h
                  obtain ⟨w10, c9, h⟩ := h
                  obtain ⟨x50, M52⟩ := w10
                  dsimp only at h
                  have F_M52 : Fr [1201, 1207, 1208, 1209, 1219, 1220, 1221, 1222, 1223, 1230, 1231, 120000, 120025] M M52 := Fr.step F_M (frX11_meets c9) (by decide)
                  obtain rfl := Option.some.inj h
                  exact F_M52
                · replace h := obind_some h
                  obtain ⟨M39, c11, h⟩ := h
                  have F_M39 : Fr [1201, 1207, 1208, 1209, 1219, 1220, 1221, 1222, 1223, 1230, 1231, 120000, 120025] M M39 := Fr.step F_M (frX11_copy_l108 c11) (by decide)
                  replace h := obind_some h
                  obtain ⟨M47, c12, h⟩ := h
                  have F_M47 : Fr [1201, 1207, 1208, 1209, 1219, 1220, 1221, 1222, 1223, 1230, 1231, 120000, 120025] M M47 := Fr.step F_M39 (frX11_copy_l145 c12) (by decide)
                  replace h := obind_some h
                  obtain ⟨M49, c13, h⟩ := h
                  have F_M49 : Fr [1201, 1207, 1208, 1209, 1219, 1220, 1221, 1222, 1223, 1230, 1231, 120000, 120025] M M49 := Fr.step F_M47 (frX11_begins c13) (by decide)
                  obtain rfl := Option.some.inj h
                  exact F_M49
            · replace h := obind_some h
              obtain ⟨w15, c14, h⟩ := h
              obtain ⟨x53, M55⟩ := w15
              dsimp only at h
              have F_M55 : Fr [1201, 1207, 1208, 1209, 1219, 1220, 1221, 1222, 1223, 1230, 1231, 120000, 120025] M M55 := Fr.step F_M (frX11_meets c14) (by decide)
              obtain rfl := Option.some.inj h
              exact F_M55
        · replace h := obind_some h
          obtain ⟨w17, c16, h⟩ := h
          obtain ⟨x56, M58⟩ := w17
          dsimp only at h
          have F_M58 : Fr [1201, 1207, 1208, 1209, 1219, 1220, 1221, 1222, 1223, 1230, 1231, 120000, 120025] M M58 := Fr.step F_M (frX11_meets c16) (by decide)
          obtain rfl := Option.some.inj h
          exact F_M58
      · replace h := obind_some h
        obtain ⟨w19, c18, h⟩ := h
        obtain ⟨x9, M11⟩ := w19
        dsimp only at h
        have F_M11 : Fr [1201, 1207, 1208, 1209, 1219, 1220, 1221, 1222, 1223, 1230, 1231, 120000, 120025] M M11 := Fr.step F_M (frX11_meets c18) (by decide)
        obtain rfl := Option.some.inj h
        exact F_M11
theorem frX11_tear {a1 : Int32} {M : tM} {w : (Int32 × tM)} (h : fX11_tear a1 M = some w) : Fr [1201, 1206, 1208, 1209, 1219, 1220, 1221, 1222, 1223, 1230, 120000, 120025] M w.2 := by
  have F_M : Fr [1201, 1206, 1208, 1209, 1219, 1220, 1221, 1222, 1223, 1230, 120000, 120025] M M := Fr.refl
  unfold fX11_tear at h
  replace h := obind_some h
  obtain ⟨x1, c1, h⟩ := h
  rcases ite_some h with ⟨_, h⟩ | ⟨_, h⟩
  · obtain rfl := Option.some.inj h
    exact F_M
  · replace h := chk_some h
    obtain ⟨_, h⟩ := h
    rcases ite_some h with ⟨_, h⟩ | ⟨_, h⟩
    · replace h := chk_some h
      obtain ⟨_, h⟩ := h
      rcases ite_some h with ⟨_, h⟩ | ⟨_, h⟩
      · replace h := chk_some h
        obtain ⟨_, h⟩ := h
        replace h := bnd_some h
        obtain ⟨M9, e2, h⟩ := h
        have F_M9 : Fr [1201, 1206, 1208, 1209, 1219, 1220, 1221, 1222, 1223, 1230, 120000, 120025] M M9 := by rw [e2]; exact Fr.wI F_M (by decide)
        replace h := obind_some h
        obtain ⟨M11, c3, h⟩ := h
        have F_M11 : Fr [1201, 1206, 1208, 1209, 1219, 1220, 1221, 1222, 1223, 1230, 120000, 120025] M M11 := Fr.step F_M9 (frX11_begins c3) (by decide)
        obtain rfl := Option.some.inj h
        exact F_M11
      · replace h := obind_some h
        obtain ⟨w5, c4, h⟩ := h
        obtain ⟨x12, M14⟩ := w5
        dsimp only at h
        have F_M14 : Fr [1201, 1206, 1208, 1209, 1219, 1220, 1221, 1222, 1223, 1230, 120000, 120025] M M14 := Fr.step F_M (frX11_meets c4) (by decide)
        obtain rfl := Option.some.inj h
        exact F_M14
    · replace h := obind_some h
      obtain ⟨w7, c6, h⟩ := h
      obtain ⟨x15, M17⟩ := w7
      dsimp only at h
      have F_M17 : Fr [1201, 1206, 1208, 1209, 1219, 1220, 1221, 1222, 1223, 1230, 120000, 120025] M M17 := Fr.step F_M (frX11_meets c6) (by decide)
      obtain rfl := Option.some.inj h
      exact F_M17
theorem frX11_isTied_l74_n {z1 : Int32} {z5 : Int64} {z7 : Int64} {z11 : Int32} : ∀ (n : Nat) (y12 : Int32) (y13 : Int32) (M : tM) (w : (Int32 × tM)), fX11_isTied_l74 z1 z5 z7 z11 n y12 y13 M = some w → Fr [1232, 1233, 1234] M w.2 := by
  intro n
  induction n with
  | zero => intro y12 y13 M w h; cases h
  | succ n ih =>
    intro y12 y13 M w h
    have F_M : Fr [1232, 1233, 1234] M M := Fr.refl
    rw [fX11_isTied_l74] at h
    rcases ite_some h with ⟨_, h⟩ | ⟨_, h⟩
    · obtain rfl := Option.some.inj h
      exact F_M
    · replace h := chk_some h
      obtain ⟨_, h⟩ := h
      replace h := obind_some h
      obtain ⟨w2, b1, h⟩ := h
      have G_w2 : Fr [1232, 1233, 1234] M w2.2 := by
        clear h
        replace h := b1
        clear b1
        rcases ite_some h with ⟨_, h⟩ | ⟨_, h⟩
        · replace h := chk_some h
          obtain ⟨_, h⟩ := h
          replace h := bnd_some h
          obtain ⟨x19, e3, h⟩ := h
          replace h := chk_some h
          obtain ⟨_, h⟩ := h
          replace h := bnd_some h
          obtain ⟨x21, e4, h⟩ := h
          replace h := obind_some h
          obtain ⟨x22, c5, h⟩ := h
          replace h := obind_some h
          obtain ⟨x24, c6, h⟩ := h
          replace h := obind_some h
          obtain ⟨w8, b7, h⟩ := h
          obtain ⟨x27, hq⟩ : ∃ q, q = w8 := ⟨_, rfl⟩
          rw [← hq] at h
          clear hq
          replace h := obind_some h
          obtain ⟨w10, b9, h⟩ := h
          obtain ⟨x36, hq⟩ : ∃ q, q = w10 := ⟨_, rfl⟩
          rw [← hq] at h
          clear hq
          replace h := chk_some h
          obtain ⟨_, h⟩ := h
          replace h := bnd_some h
          obtain ⟨M40, e11, h⟩ := h
          have F_M40 : Fr [1232, 1233, 1234] M M40 := by rw [e11]; exact Fr.wL F_M (by decide)
          replace h := obind_some h
          obtain ⟨w13, b12, h⟩ := h
          obtain ⟨x42, hq⟩ : ∃ q, q = w13 := ⟨_, rfl⟩
          rw [← hq] at h
          clear hq
          replace h := chk_some h
          obtain ⟨_, h⟩ := h
          replace h := bnd_some h
          obtain ⟨M46, e14, h⟩ := h
          have F_M46 : Fr [1232, 1233, 1234] M M46 := by rw [e14]; exact Fr.wL F_M40 (by decide)
          replace h := chk_some h
          obtain ⟨_, h⟩ := h
          replace h := chk_some h
          obtain ⟨_, h⟩ := h
          replace h := bnd_some h
          obtain ⟨M49, e15, h⟩ := h
          have F_M49 : Fr [1232, 1233, 1234] M M49 := by rw [e15]; exact Fr.wI F_M46 (by decide)
          obtain rfl := Option.some.inj h
          exact F_M49
        · obtain rfl := Option.some.inj h
          exact F_M
      obtain ⟨x18, M19⟩ := w2
      dsimp only at h
      have F_M19 : Fr [1232, 1233, 1234] M M19 := G_w2
      replace h := bnd_some h
      obtain ⟨x50, e16, h⟩ := h
      exact Fr.trans F_M19 (ih _ _ _ _ h)
theorem frX11_isTied_l74 {z1 : Int32} {z5 : Int64} {z7 : Int64} {z11 : Int32} {n : Nat} {y12 : Int32} {y13 : Int32} {M : tM} {w : (Int32 × tM)} (h : fX11_isTied_l74 z1 z5 z7 z11 n y12 y13 M = some w) : Fr [1232, 1233, 1234] M w.2 := frX11_isTied_l74_n n y12 y13 M w h
theorem frX11_isTied {a1 : Int32} {a2 : Int32} {a3 : Int32} {a4 : Int32} {M : tM} {w : (Int32 × tM)} (h : fX11_isTied a1 a2 a3 a4 M = some w) : Fr [1232, 1233, 1234] M w.2 := by
  have F_M : Fr [1232, 1233, 1234] M M := Fr.refl
  unfold fX11_isTied at h
  replace h := chk_some h
  obtain ⟨_, h⟩ := h
  replace h := chk_some h
  obtain ⟨_, h⟩ := h
  replace h := bnd_some h
  obtain ⟨x3, e1, h⟩ := h
  replace h := chk_some h
  obtain ⟨_, h⟩ := h
  replace h := chk_some h
  obtain ⟨_, h⟩ := h
  replace h := bnd_some h
  obtain ⟨x6, e2, h⟩ := h
  replace h := obind_some h
  obtain ⟨x7, c3, h⟩ := h
  replace h := chk_some h
  obtain ⟨_, h⟩ := h
  replace h := bnd_some h
  obtain ⟨x10, e4, h⟩ := h
  replace h := chk_some h
  obtain ⟨_, h⟩ := h
  replace h := bnd_some h
  obtain ⟨x12, e5, h⟩ := h
  replace h := chk_some h
  obtain ⟨_, h⟩ := h
  replace h := bnd_some h
  obtain ⟨x14, e6, h⟩ := h
  replace h := obind_some h
  obtain ⟨w8, c7, h⟩ := h
  obtain ⟨x53, M54⟩ := w8
  dsimp only at h
  have F_M54 : Fr [1232, 1233, 1234] M M54 := Fr.step F_M (frX11_isTied_l74 c7) (by decide)
  replace h := obind_some h
  obtain ⟨x75, c9, h⟩ := h
  replace h := chk_some h
  obtain ⟨_, h⟩ := h
  obtain rfl := Option.some.inj h
  exact F_M54
theorem frX11_counts_l9_n : ∀ (n : Nat) (y1 : Int32) (y2 : Int32) (M : tM) (w : (Int32 × tM)), fX11_counts_l9 n y1 y2 M = some w → Fr [1235, 120036] M w.2 := by
  intro n
  induction n with
  | zero => intro y1 y2 M w h; cases h
  | succ n ih =>
    intro y1 y2 M w h
    have F_M : Fr [1235, 120036] M M := Fr.refl
    rw [fX11_counts_l9] at h
    rcases ite_some h with ⟨_, h⟩ | ⟨_, h⟩
    · obtain rfl := Option.some.inj h
      exact F_M
    · replace h := obind_some h
      obtain ⟨x16, c1, h⟩ := h
      replace h := obind_some h
      obtain ⟨w3, b2, h⟩ := h
      obtain ⟨x18, hq⟩ : ∃ q, q = w3 := ⟨_, rfl⟩
      rw [← hq] at h
      clear hq
      replace h := obind_some h
      obtain ⟨w5, b4, h⟩ := h
      obtain ⟨x23, hq⟩ : ∃ q, q = w5 := ⟨_, rfl⟩
      rw [← hq] at h
      clear hq
      replace h := obind_some h
      obtain ⟨w7, b6, h⟩ := h
      obtain ⟨x27, hq⟩ : ∃ q, q = w7 := ⟨_, rfl⟩
      rw [← hq] at h
      clear hq
      replace h := chk_some h
      obtain ⟨_, h⟩ := h
      replace h := bnd_some h
      obtain ⟨M31, e8, h⟩ := h
      have F_M31 : Fr [1235, 120036] M M31 := by rw [e8]; exact Fr.wI F_M (by decide)
      replace h := chk_some h
      obtain ⟨_, h⟩ := h
      replace h := bnd_some h
      obtain ⟨M33, e9, h⟩ := h
      have F_M33 : Fr [1235, 120036] M M33 := by rw [e9]; exact Fr.wIo F_M31 (by decide)
      replace h := bnd_some h
      obtain ⟨x34, e10, h⟩ := h
      exact Fr.trans F_M33 (ih _ _ _ _ h)
theorem frX11_counts_l9 {n : Nat} {y1 : Int32} {y2 : Int32} {M : tM} {w : (Int32 × tM)} (h : fX11_counts_l9 n y1 y2 M = some w) : Fr [1235, 120036] M w.2 := frX11_counts_l9_n n y1 y2 M w h
theorem frX11_counts {M : tM} {w : (Int32 × tM)} (h : fX11_counts M = some w) : Fr [1235, 120036] M w.2 := by
  have F_M : Fr [1235, 120036] M M := Fr.refl
  unfold fX11_counts at h
  replace h := bnd_some h
  obtain ⟨M1, e1, h⟩ := h
  have F_M1 : Fr [1235, 120036] M M1 := by rw [e1]; exact Fr.wIo F_M (by decide)
  replace h := obind_some h
  obtain ⟨w3, c2, h⟩ := h
  obtain ⟨x37, M38⟩ := w3
  dsimp only at h
  have F_M38 : Fr [1235, 120036] M M38 := Fr.step F_M1 (frX11_counts_l9 c2) (by decide)
  rcases ite_some h with ⟨_, h⟩ | ⟨_, h⟩
  · obtain rfl := Option.some.inj h
    exact F_M38
  · rcases ite_some h with ⟨_, h⟩ | ⟨_, h⟩
    · obtain rfl := Option.some.inj h
      exact F_M38
    · obtain rfl := Option.some.inj h
      exact F_M38
theorem frX11_balance_l8_n : ∀ (n : Nat) (y1 : Int32) (M : tM) (w : (tM)), fX11_balance_l8 n y1 M = some w → Fr [1232, 1233, 1234] M w := by
  intro n
  induction n with
  | zero => intro y1 M w h; cases h
  | succ n ih =>
    intro y1 M w h
    have F_M : Fr [1232, 1233, 1234] M M := Fr.refl
    rw [fX11_balance_l8] at h
    rcases ite_some h with ⟨_, h⟩ | ⟨_, h⟩
    · obtain rfl := Option.some.inj h
      exact F_M
    · replace h := chk_some h
      obtain ⟨_, h⟩ := h
      replace h := bnd_some h
      obtain ⟨M4, e1, h⟩ := h
      have F_M4 : Fr [1232, 1233, 1234] M M4 := by rw [e1]; exact Fr.wI F_M (by decide)
      replace h := chk_some h
      obtain ⟨_, h⟩ := h
      replace h := bnd_some h
      obtain ⟨M6, e2, h⟩ := h
      have F_M6 : Fr [1232, 1233, 1234] M M6 := by rw [e2]; exact Fr.wL F_M4 (by decide)
      replace h := chk_some h
      obtain ⟨_, h⟩ := h
      replace h := bnd_some h
      obtain ⟨M8, e3, h⟩ := h
      have F_M8 : Fr [1232, 1233, 1234] M M8 := by rw [e3]; exact Fr.wL F_M6 (by decide)
      replace h := bnd_some h
      obtain ⟨x9, e4, h⟩ := h
      exact Fr.trans F_M8 (ih _ _ _ h)
theorem frX11_balance_l8 {n : Nat} {y1 : Int32} {M : tM} {w : (tM)} (h : fX11_balance_l8 n y1 M = some w) : Fr [1232, 1233, 1234] M w := frX11_balance_l8_n n y1 M w h
theorem frX11_balance_l45_n : ∀ (n : Nat) (y1 : Int32) (M : tM) (w : ((Int32 × tM) ⊕ (tM))), fX11_balance_l45 n y1 M = some w → Fr [1232, 1233, 1234, 120037] M (Sum.elim (fun q => q.2) (fun q => q) w) := by
  intro n
  induction n with
  | zero => intro y1 M w h; cases h
  | succ n ih =>
    intro y1 M w h
    have F_M : Fr [1232, 1233, 1234, 120037] M M := Fr.refl
    rw [fX11_balance_l45] at h
    rcases ite_some h with ⟨_, h⟩ | ⟨_, h⟩
    · obtain rfl := Option.some.inj h
      exact F_M
    · replace h := chk_some h
      obtain ⟨_, h⟩ := h
      replace h := bnd_some h
      obtain ⟨x15, e1, h⟩ := h
      replace h := chk_some h
      obtain ⟨_, h⟩ := h
      replace h := bnd_some h
      obtain ⟨x17, e2, h⟩ := h
      replace h := obind_some h
      obtain ⟨x18, c3, h⟩ := h
      replace h := obind_some h
      obtain ⟨x20, c4, h⟩ := h
      rcases ite_some h with ⟨_, h⟩ | ⟨_, h⟩
      · rcases ite_some h with ⟨_, h⟩ | ⟨_, h⟩
        · replace h := bnd_some h
          obtain ⟨x106, e5, h⟩ := h
          exact Fr.trans F_M (ih _ _ _ h)
        · replace h := obind_some h
          obtain ⟨w7, b6, h⟩ := h
          obtain ⟨x66, hq⟩ : ∃ q, q = w7 := ⟨_, rfl⟩
          rw [← hq] at h
          clear hq
          rcases ite_some h with ⟨_, h⟩ | ⟨_, h⟩
          · rcases ite_some h with ⟨_, h⟩ | ⟨_, h⟩
            · rcases ite_some h with ⟨_, h⟩ | ⟨_, h⟩
              · replace h := bnd_some h
                obtain ⟨M73, e8, h⟩ := h
                have F_M73 : Fr [1232, 1233, 1234, 120037] M M73 := by rw [e8]; exact Fr.wIo F_M (by decide)
                obtain rfl := Option.some.inj h
                exact F_M73
              · replace h := bnd_some h
                obtain ⟨x72, e9, h⟩ := h
                exact Fr.trans F_M (ih _ _ _ h)
            · replace h := obind_some h
              obtain ⟨w11, c10, h⟩ := h
              obtain ⟨x74, M76⟩ := w11
              dsimp only at h
              have F_M76 : Fr [1232, 1233, 1234, 120037] M M76 := Fr.step F_M (frX11_isTied c10) (by decide)
              rcases ite_some h with ⟨_, h⟩ | ⟨_, h⟩
              · obtain rfl := Option.some.inj h
                exact F_M76
              · rcases ite_some h with ⟨_, h⟩ | ⟨_, h⟩
                · replace h := bnd_some h
                  obtain ⟨M80, e12, h⟩ := h
                  have F_M80 : Fr [1232, 1233, 1234, 120037] M M80 := by rw [e12]; exact Fr.wIo F_M76 (by decide)
                  obtain rfl := Option.some.inj h
                  exact F_M80
                · replace h := bnd_some h
                  obtain ⟨x79, e13, h⟩ := h
                  exact Fr.trans F_M76 (ih _ _ _ h)
          · replace h := chk_some h
            obtain ⟨_, h⟩ := h
            replace h := chk_some h
            obtain ⟨_, h⟩ := h
            rcases ite_some h with ⟨_, h⟩ | ⟨_, h⟩
            · replace h := chk_some h
              obtain ⟨_, h⟩ := h
              replace h := chk_some h
              obtain ⟨_, h⟩ := h
              replace h := chk_some h
              obtain ⟨_, h⟩ := h
              replace h := chk_some h
              obtain ⟨_, h⟩ := h
              replace h := obind_some h
              obtain ⟨w15, b14, h⟩ := h
              obtain ⟨x100, hq⟩ : ∃ q, q = w15 := ⟨_, rfl⟩
              rw [← hq] at h
              clear hq
              rcases ite_some h with ⟨_, h⟩ | ⟨_, h⟩
              · replace h := bnd_some h
                obtain ⟨M105, e16, h⟩ := h
                have F_M105 : Fr [1232, 1233, 1234, 120037] M M105 := by rw [e16]; exact Fr.wIo F_M (by decide)
                obtain rfl := Option.some.inj h
                exact F_M105
              · replace h := bnd_some h
                obtain ⟨x104, e17, h⟩ := h
                exact Fr.trans F_M (ih _ _ _ h)
            · rcases ite_some h with ⟨_, h⟩ | ⟨_, h⟩
              · rcases ite_some h with ⟨_, h⟩ | ⟨_, h⟩
                · replace h := bnd_some h
                  obtain ⟨M87, e18, h⟩ := h
                  have F_M87 : Fr [1232, 1233, 1234, 120037] M M87 := by rw [e18]; exact Fr.wIo F_M (by decide)
                  obtain rfl := Option.some.inj h
                  exact F_M87
                · replace h := bnd_some h
                  obtain ⟨x86, e19, h⟩ := h
                  exact Fr.trans F_M (ih _ _ _ h)
              · replace h := obind_some h
                obtain ⟨w21, c20, h⟩ := h
                obtain ⟨x88, M90⟩ := w21
                dsimp only at h
                have F_M90 : Fr [1232, 1233, 1234, 120037] M M90 := Fr.step F_M (frX11_isTied c20) (by decide)
                rcases ite_some h with ⟨_, h⟩ | ⟨_, h⟩
                · obtain rfl := Option.some.inj h
                  exact F_M90
                · rcases ite_some h with ⟨_, h⟩ | ⟨_, h⟩
                  · replace h := bnd_some h
                    obtain ⟨M94, e22, h⟩ := h
                    have F_M94 : Fr [1232, 1233, 1234, 120037] M M94 := by rw [e22]; exact Fr.wIo F_M90 (by decide)
                    obtain rfl := Option.some.inj h
                    exact F_M94
                  · replace h := bnd_some h
                    obtain ⟨x93, e23, h⟩ := h
                    exact Fr.trans F_M90 (ih _ _ _ h)
      · replace h := obind_some h
        obtain ⟨w25, b24, h⟩ := h
        obtain ⟨x24, hq⟩ : ∃ q, q = w25 := ⟨_, rfl⟩
        rw [← hq] at h
        clear hq
        rcases ite_some h with ⟨_, h⟩ | ⟨_, h⟩
        · rcases ite_some h with ⟨_, h⟩ | ⟨_, h⟩
          · rcases ite_some h with ⟨_, h⟩ | ⟨_, h⟩
            · replace h := bnd_some h
              obtain ⟨M31, e26, h⟩ := h
              have F_M31 : Fr [1232, 1233, 1234, 120037] M M31 := by rw [e26]; exact Fr.wIo F_M (by decide)
              obtain rfl := Option.some.inj h
              exact F_M31
            · replace h := bnd_some h
              obtain ⟨x30, e27, h⟩ := h
              exact Fr.trans F_M (ih _ _ _ h)
          · replace h := obind_some h
            obtain ⟨w29, c28, h⟩ := h
            obtain ⟨x32, M34⟩ := w29
            dsimp only at h
            have F_M34 : Fr [1232, 1233, 1234, 120037] M M34 := Fr.step F_M (frX11_isTied c28) (by decide)
            rcases ite_some h with ⟨_, h⟩ | ⟨_, h⟩
            · obtain rfl := Option.some.inj h
              exact F_M34
            · rcases ite_some h with ⟨_, h⟩ | ⟨_, h⟩
              · replace h := bnd_some h
                obtain ⟨M38, e30, h⟩ := h
                have F_M38 : Fr [1232, 1233, 1234, 120037] M M38 := by rw [e30]; exact Fr.wIo F_M34 (by decide)
                obtain rfl := Option.some.inj h
                exact F_M38
              · replace h := bnd_some h
                obtain ⟨x37, e31, h⟩ := h
                exact Fr.trans F_M34 (ih _ _ _ h)
        · replace h := chk_some h
          obtain ⟨_, h⟩ := h
          replace h := chk_some h
          obtain ⟨_, h⟩ := h
          rcases ite_some h with ⟨_, h⟩ | ⟨_, h⟩
          · replace h := chk_some h
            obtain ⟨_, h⟩ := h
            replace h := chk_some h
            obtain ⟨_, h⟩ := h
            replace h := chk_some h
            obtain ⟨_, h⟩ := h
            replace h := chk_some h
            obtain ⟨_, h⟩ := h
            replace h := obind_some h
            obtain ⟨w33, b32, h⟩ := h
            obtain ⟨x58, hq⟩ : ∃ q, q = w33 := ⟨_, rfl⟩
            rw [← hq] at h
            clear hq
            rcases ite_some h with ⟨_, h⟩ | ⟨_, h⟩
            · replace h := bnd_some h
              obtain ⟨M63, e34, h⟩ := h
              have F_M63 : Fr [1232, 1233, 1234, 120037] M M63 := by rw [e34]; exact Fr.wIo F_M (by decide)
              obtain rfl := Option.some.inj h
              exact F_M63
            · replace h := bnd_some h
              obtain ⟨x62, e35, h⟩ := h
              exact Fr.trans F_M (ih _ _ _ h)
          · rcases ite_some h with ⟨_, h⟩ | ⟨_, h⟩
            · rcases ite_some h with ⟨_, h⟩ | ⟨_, h⟩
              · replace h := bnd_some h
                obtain ⟨M45, e36, h⟩ := h
                have F_M45 : Fr [1232, 1233, 1234, 120037] M M45 := by rw [e36]; exact Fr.wIo F_M (by decide)
                obtain rfl := Option.some.inj h
                exact F_M45
              · replace h := bnd_some h
                obtain ⟨x44, e37, h⟩ := h
                exact Fr.trans F_M (ih _ _ _ h)
            · replace h := obind_some h
              obtain ⟨w39, c38, h⟩ := h
              obtain ⟨x46, M48⟩ := w39
              dsimp only at h
              have F_M48 : Fr [1232, 1233, 1234, 120037] M M48 := Fr.step F_M (frX11_isTied c38) (by decide)
              rcases ite_some h with ⟨_, h⟩ | ⟨_, h⟩
              · obtain rfl := Option.some.inj h
                exact F_M48
              · rcases ite_some h with ⟨_, h⟩ | ⟨_, h⟩
                · replace h := bnd_some h
                  obtain ⟨M52, e40, h⟩ := h
                  have F_M52 : Fr [1232, 1233, 1234, 120037] M M52 := by rw [e40]; exact Fr.wIo F_M48 (by decide)
                  obtain rfl := Option.some.inj h
                  exact F_M52
                · replace h := bnd_some h
                  obtain ⟨x51, e41, h⟩ := h
                  exact Fr.trans F_M48 (ih _ _ _ h)
theorem frX11_balance_l45 {n : Nat} {y1 : Int32} {M : tM} {w : ((Int32 × tM) ⊕ (tM))} (h : fX11_balance_l45 n y1 M = some w) : Fr [1232, 1233, 1234, 120037] M (Sum.elim (fun q => q.2) (fun q => q) w) := frX11_balance_l45_n n y1 M w h
theorem frX11_balance {M : tM} {w : (Int32 × tM)} (h : fX11_balance M = some w) : Fr [1232, 1233, 1234, 1235, 120036, 120037] M w.2 := by
  have F_M : Fr [1232, 1233, 1234, 1235, 120036, 120037] M M := Fr.refl
  unfold fX11_balance at h
  replace h := bnd_some h
  obtain ⟨M1, e1, h⟩ := h
  have F_M1 : Fr [1232, 1233, 1234, 1235, 120036, 120037] M M1 := by rw [e1]; exact Fr.wIo F_M (by decide)
  replace h := obind_some h
  obtain ⟨M12, c2, h⟩ := h
  have F_M12 : Fr [1232, 1233, 1234, 1235, 120036, 120037] M M12 := Fr.step F_M1 (frX11_balance_l8 c2) (by decide)
  replace h := obind_some h
  obtain ⟨w4, c3, h⟩ := h
  have F_w := Fr.step F_M12 (frX11_balance_l45 c3) (ks2 := [1232, 1233, 1234, 1235, 120036, 120037]) (by decide)
  rcases w4 with q113 | v0
  · dsimp only at h
    obtain rfl := Option.some.inj h
    exact F_w
  · dsimp only at h
    obtain ⟨M109, hq⟩ : ∃ q, q = v0 := ⟨_, rfl⟩
    rw [← hq] at h
    have F_M109 : Fr [1232, 1233, 1234, 1235, 120036, 120037] M M109 := by rw [hq]; exact F_w
    replace h := obind_some h
    obtain ⟨w6, c5, h⟩ := h
    obtain ⟨x110, M112⟩ := w6
    dsimp only at h
    have F_M112 : Fr [1232, 1233, 1234, 1235, 120036, 120037] M M112 := Fr.step F_M109 (frX11_counts c5) (by decide)
    obtain rfl := Option.some.inj h
    exact F_M112
theorem frX11_round {M : tM} {w : (Int32 × tM)} (h : fX11_round M = some w) : Fr [1232, 1233, 1234, 1235, 120036, 120037] M w.2 := by
  have F_M : Fr [1232, 1233, 1234, 1235, 120036, 120037] M M := Fr.refl
  unfold fX11_round at h
  rcases ite_some h with ⟨_, h⟩ | ⟨_, h⟩
  · obtain rfl := Option.some.inj h
    exact F_M
  · replace h := obind_some h
    obtain ⟨w2, c1, h⟩ := h
    obtain ⟨x2, M4⟩ := w2
    dsimp only at h
    have F_M4 : Fr [1232, 1233, 1234, 1235, 120036, 120037] M M4 := Fr.step F_M (frX11_balance c1) (by decide)
    rcases ite_some h with ⟨_, h⟩ | ⟨_, h⟩
    · obtain rfl := Option.some.inj h
      exact F_M4
    · obtain rfl := Option.some.inj h
      exact F_M4
theorem frX11_firings {a1 : Int32} {M : tM} {w : (Int32 × tM)} (h : fX11_firings a1 M = some w) : Fr [1232, 1233, 1234, 1235, 120036, 120037] M w.2 := by
  have F_M : Fr [1232, 1233, 1234, 1235, 120036, 120037] M M := Fr.refl
  unfold fX11_firings at h
  replace h := obind_some h
  obtain ⟨x1, c1, h⟩ := h
  rcases ite_some h with ⟨_, h⟩ | ⟨_, h⟩
  · obtain rfl := Option.some.inj h
    exact F_M
  · replace h := obind_some h
    obtain ⟨w3, c2, h⟩ := h
    obtain ⟨x4, M6⟩ := w3
    dsimp only at h
    have F_M6 : Fr [1232, 1233, 1234, 1235, 120036, 120037] M M6 := Fr.step F_M (frX11_balance c2) (by decide)
    rcases ite_some h with ⟨_, h⟩ | ⟨_, h⟩
    · replace h := chk_some h
      obtain ⟨_, h⟩ := h
      obtain rfl := Option.some.inj h
      exact F_M6
    · obtain rfl := Option.some.inj h
      exact F_M6
theorem frX11_uneven {M : tM} {w : (Int32 × tM)} (h : fX11_uneven M = some w) : Fr [1232, 1233, 1234, 1235, 120036, 120037] M w.2 := by
  have F_M : Fr [1232, 1233, 1234, 1235, 120036, 120037] M M := Fr.refl
  unfold fX11_uneven at h
  rcases ite_some h with ⟨_, h⟩ | ⟨_, h⟩
  · obtain rfl := Option.some.inj h
    exact F_M
  · replace h := obind_some h
    obtain ⟨w2, c1, h⟩ := h
    obtain ⟨x2, M4⟩ := w2
    dsimp only at h
    have F_M4 : Fr [1232, 1233, 1234, 1235, 120036, 120037] M M4 := Fr.step F_M (frX11_balance c1) (by decide)
    obtain rfl := Option.some.inj h
    exact F_M4
theorem frX11_markFirst_l2_n {z1 : Int32} : ∀ (n : Nat) (y2 : Int32) (M : tM) (w : (tM)), fX11_markFirst_l2 z1 n y2 M = some w → Fr [1238] M w := by
  intro n
  induction n with
  | zero => intro y2 M w h; cases h
  | succ n ih =>
    intro y2 M w h
    have F_M : Fr [1238] M M := Fr.refl
    rw [fX11_markFirst_l2] at h
    rcases ite_some h with ⟨_, h⟩ | ⟨_, h⟩
    · obtain rfl := Option.some.inj h
      exact F_M
    · replace h := chk_some h
      obtain ⟨_, h⟩ := h
      replace h := obind_some h
      obtain ⟨w2, b1, h⟩ := h
      obtain ⟨x4, hq⟩ : ∃ q, q = w2 := ⟨_, rfl⟩
      rw [← hq] at h
      clear hq
      replace h := chk_some h
      obtain ⟨_, h⟩ := h
      replace h := bnd_some h
      obtain ⟨M8, e3, h⟩ := h
      have F_M8 : Fr [1238] M M8 := by rw [e3]; exact Fr.wI F_M (by decide)
      replace h := bnd_some h
      obtain ⟨x9, e4, h⟩ := h
      exact Fr.trans F_M8 (ih _ _ _ h)
theorem frX11_markFirst_l2 {z1 : Int32} {n : Nat} {y2 : Int32} {M : tM} {w : (tM)} (h : fX11_markFirst_l2 z1 n y2 M = some w) : Fr [1238] M w := frX11_markFirst_l2_n n y2 M w h
theorem frX11_markFirst_l45_n : ∀ (n : Nat) (y2 : Int32) (M : tM) (w : (tM)), fX11_markFirst_l45 n y2 M = some w → Fr [1239, 1240] M w := by
  intro n
  induction n with
  | zero => intro y2 M w h; cases h
  | succ n ih =>
    intro y2 M w h
    have F_M : Fr [1239, 1240] M M := Fr.refl
    rw [fX11_markFirst_l45] at h
    rcases ite_some h with ⟨_, h⟩ | ⟨_, h⟩
    · obtain rfl := Option.some.inj h
      exact F_M
    · replace h := chk_some h
      obtain ⟨_, h⟩ := h
      replace h := bnd_some h
      obtain ⟨M15, e1, h⟩ := h
      have F_M15 : Fr [1239, 1240] M M15 := by rw [e1]; exact Fr.wI F_M (by decide)
      replace h := chk_some h
      obtain ⟨_, h⟩ := h
      replace h := chk_some h
      obtain ⟨_, h⟩ := h
      replace h := bnd_some h
      obtain ⟨M18, e2, h⟩ := h
      have F_M18 : Fr [1239, 1240] M M18 := by rw [e2]; exact Fr.wI F_M15 (by decide)
      replace h := bnd_some h
      obtain ⟨x19, e3, h⟩ := h
      exact Fr.trans F_M18 (ih _ _ _ h)
theorem frX11_markFirst_l45 {n : Nat} {y2 : Int32} {M : tM} {w : (tM)} (h : fX11_markFirst_l45 n y2 M = some w) : Fr [1239, 1240] M w := frX11_markFirst_l45_n n y2 M w h
theorem frX11_markFirst {a1 : Int32} {M : tM} {w : (tM)} (h : fX11_markFirst a1 M = some w) : Fr [1238, 1239, 1240] M w := by
  have F_M : Fr [1238, 1239, 1240] M M := Fr.refl
  unfold fX11_markFirst at h
  replace h := obind_some h
  obtain ⟨M12, c1, h⟩ := h
  have F_M12 : Fr [1238, 1239, 1240] M M12 := Fr.step F_M (frX11_markFirst_l2 c1) (by decide)
  replace h := obind_some h
  obtain ⟨M22, c2, h⟩ := h
  have F_M22 : Fr [1238, 1239, 1240] M M22 := Fr.step F_M12 (frX11_markFirst_l45 c2) (by decide)
  obtain rfl := Option.some.inj h
  exact F_M22
theorem frX11_fireMark_l2_n {z1 : Int32} : ∀ (n : Nat) (y2 : Int32) (M : tM) (w : (tM)), fX11_fireMark_l2 z1 n y2 M = some w → Fr [1238] M w := by
  intro n
  induction n with
  | zero => intro y2 M w h; cases h
  | succ n ih =>
    intro y2 M w h
    have F_M : Fr [1238] M M := Fr.refl
    rw [fX11_fireMark_l2] at h
    rcases ite_some h with ⟨_, h⟩ | ⟨_, h⟩
    · obtain rfl := Option.some.inj h
      exact F_M
    · replace h := chk_some h
      obtain ⟨_, h⟩ := h
      replace h := chk_some h
      obtain ⟨_, h⟩ := h
      replace h := obind_some h
      obtain ⟨w2, b1, h⟩ := h
      obtain ⟨x5, hq⟩ : ∃ q, q = w2 := ⟨_, rfl⟩
      rw [← hq] at h
      clear hq
      replace h := chk_some h
      obtain ⟨_, h⟩ := h
      replace h := bnd_some h
      obtain ⟨M9, e3, h⟩ := h
      have F_M9 : Fr [1238] M M9 := by rw [e3]; exact Fr.wI F_M (by decide)
      replace h := chk_some h
      obtain ⟨_, h⟩ := h
      replace h := chk_some h
      obtain ⟨_, h⟩ := h
      replace h := obind_some h
      obtain ⟨w5, b4, h⟩ := h
      obtain ⟨x13, hq⟩ : ∃ q, q = w5 := ⟨_, rfl⟩
      rw [← hq] at h
      clear hq
      replace h := chk_some h
      obtain ⟨_, h⟩ := h
      replace h := bnd_some h
      obtain ⟨M17, e6, h⟩ := h
      have F_M17 : Fr [1238] M M17 := by rw [e6]; exact Fr.wI F_M9 (by decide)
      replace h := bnd_some h
      obtain ⟨x18, e7, h⟩ := h
      exact Fr.trans F_M17 (ih _ _ _ h)
theorem frX11_fireMark_l2 {z1 : Int32} {n : Nat} {y2 : Int32} {M : tM} {w : (tM)} (h : fX11_fireMark_l2 z1 n y2 M = some w) : Fr [1238] M w := frX11_fireMark_l2_n n y2 M w h
theorem frX11_fireMark {a1 : Int32} {M : tM} {w : (tM)} (h : fX11_fireMark a1 M = some w) : Fr [1238, 1239, 1240] M w := by
  have F_M : Fr [1238, 1239, 1240] M M := Fr.refl
  unfold fX11_fireMark at h
  replace h := obind_some h
  obtain ⟨M21, c1, h⟩ := h
  have F_M21 : Fr [1238, 1239, 1240] M M21 := Fr.step F_M (frX11_fireMark_l2 c1) (by decide)
  replace h := chk_some h
  obtain ⟨_, h⟩ := h
  replace h := chk_some h
  obtain ⟨_, h⟩ := h
  replace h := chk_some h
  obtain ⟨_, h⟩ := h
  replace h := chk_some h
  obtain ⟨_, h⟩ := h
  replace h := bnd_some h
  obtain ⟨M26, e2, h⟩ := h
  have F_M26 : Fr [1238, 1239, 1240] M M26 := by rw [e2]; exact Fr.wI F_M21 (by decide)
  replace h := chk_some h
  obtain ⟨_, h⟩ := h
  replace h := chk_some h
  obtain ⟨_, h⟩ := h
  replace h := bnd_some h
  obtain ⟨M29, e3, h⟩ := h
  have F_M29 : Fr [1238, 1239, 1240] M M29 := by rw [e3]; exact Fr.wI F_M26 (by decide)
  obtain rfl := Option.some.inj h
  exact F_M29
theorem frX11_unfireMark_l40_n {z1 : Int32} : ∀ (n : Nat) (y2 : Int32) (M : tM) (w : (tM)), fX11_unfireMark_l40 z1 n y2 M = some w → Fr [1238] M w := by
  intro n
  induction n with
  | zero => intro y2 M w h; cases h
  | succ n ih =>
    intro y2 M w h
    have F_M : Fr [1238] M M := Fr.refl
    rw [fX11_unfireMark_l40] at h
    rcases ite_some h with ⟨_, h⟩ | ⟨_, h⟩
    · obtain rfl := Option.some.inj h
      exact F_M
    · replace h := chk_some h
      obtain ⟨_, h⟩ := h
      replace h := chk_some h
      obtain ⟨_, h⟩ := h
      replace h := obind_some h
      obtain ⟨w2, b1, h⟩ := h
      obtain ⟨x14, hq⟩ : ∃ q, q = w2 := ⟨_, rfl⟩
      rw [← hq] at h
      clear hq
      replace h := chk_some h
      obtain ⟨_, h⟩ := h
      replace h := bnd_some h
      obtain ⟨M18, e3, h⟩ := h
      have F_M18 : Fr [1238] M M18 := by rw [e3]; exact Fr.wI F_M (by decide)
      replace h := chk_some h
      obtain ⟨_, h⟩ := h
      replace h := chk_some h
      obtain ⟨_, h⟩ := h
      replace h := obind_some h
      obtain ⟨w5, b4, h⟩ := h
      obtain ⟨x22, hq⟩ : ∃ q, q = w5 := ⟨_, rfl⟩
      rw [← hq] at h
      clear hq
      replace h := chk_some h
      obtain ⟨_, h⟩ := h
      replace h := bnd_some h
      obtain ⟨M26, e6, h⟩ := h
      have F_M26 : Fr [1238] M M26 := by rw [e6]; exact Fr.wI F_M18 (by decide)
      replace h := bnd_some h
      obtain ⟨x27, e7, h⟩ := h
      exact Fr.trans F_M26 (ih _ _ _ h)
theorem frX11_unfireMark_l40 {z1 : Int32} {n : Nat} {y2 : Int32} {M : tM} {w : (tM)} (h : fX11_unfireMark_l40 z1 n y2 M = some w) : Fr [1238] M w := frX11_unfireMark_l40_n n y2 M w h
theorem frX11_unfireMark {a1 : Int32} {M : tM} {w : (tM)} (h : fX11_unfireMark a1 M = some w) : Fr [1238, 1239, 1240] M w := by
  have F_M : Fr [1238, 1239, 1240] M M := Fr.refl
  unfold fX11_unfireMark at h
  replace h := chk_some h
  obtain ⟨_, h⟩ := h
  replace h := chk_some h
  obtain ⟨_, h⟩ := h
  replace h := chk_some h
  obtain ⟨_, h⟩ := h
  replace h := chk_some h
  obtain ⟨_, h⟩ := h
  replace h := chk_some h
  obtain ⟨_, h⟩ := h
  replace h := bnd_some h
  obtain ⟨M6, e1, h⟩ := h
  have F_M6 : Fr [1238, 1239, 1240] M M6 := by rw [e1]; exact Fr.wI F_M (by decide)
  replace h := chk_some h
  obtain ⟨_, h⟩ := h
  replace h := chk_some h
  obtain ⟨_, h⟩ := h
  replace h := bnd_some h
  obtain ⟨M9, e2, h⟩ := h
  have F_M9 : Fr [1238, 1239, 1240] M M9 := by rw [e2]; exact Fr.wI F_M6 (by decide)
  replace h := obind_some h
  obtain ⟨M30, c3, h⟩ := h
  have F_M30 : Fr [1238, 1239, 1240] M M30 := Fr.step F_M9 (frX11_unfireMark_l40 c3) (by decide)
  obtain rfl := Option.some.inj h
  exact F_M30
theorem frX11_isStuck_l10_n : ∀ (n : Nat) (y2 : Int32) (M : tM) (w : (tM)), fX11_isStuck_l10 n y2 M = some w → Fr [1238, 1239, 1240] M w := by
  intro n
  induction n with
  | zero => intro y2 M w h; cases h
  | succ n ih =>
    intro y2 M w h
    have F_M : Fr [1238, 1239, 1240] M M := Fr.refl
    rw [fX11_isStuck_l10] at h
    rcases ite_some h with ⟨_, h⟩ | ⟨_, h⟩
    · obtain rfl := Option.some.inj h
      exact F_M
    · replace h := obind_some h
      obtain ⟨M7, c1, h⟩ := h
      have F_M7 : Fr [1238, 1239, 1240] M M7 := Fr.step F_M (frX11_fireMark c1) (by decide)
      replace h := obind_some h
      obtain ⟨x8, c2, h⟩ := h
      exact Fr.trans F_M7 (ih _ _ _ h)
theorem frX11_isStuck_l10 {n : Nat} {y2 : Int32} {M : tM} {w : (tM)} (h : fX11_isStuck_l10 n y2 M = some w) : Fr [1238, 1239, 1240] M w := frX11_isStuck_l10_n n y2 M w h
theorem frX11_isStuck {a1 : Int32} {M : tM} {w : (Int32 × tM)} (h : fX11_isStuck a1 M = some w) : Fr [1238, 1239, 1240] M w.2 := by
  have F_M : Fr [1238, 1239, 1240] M M := Fr.refl
  unfold fX11_isStuck at h
  replace h := obind_some h
  obtain ⟨M2, c1, h⟩ := h
  have F_M2 : Fr [1238, 1239, 1240] M M2 := Fr.step F_M (frX11_markFirst c1) (by decide)
  replace h := obind_some h
  obtain ⟨x3, c2, h⟩ := h
  replace h := obind_some h
  obtain ⟨M12, c3, h⟩ := h
  have F_M12 : Fr [1238, 1239, 1240] M M12 := Fr.step F_M2 (frX11_isStuck_l10 c3) (by decide)
  replace h := obind_some h
  obtain ⟨x13, c4, h⟩ := h
  rcases ite_some h with ⟨_, h⟩ | ⟨_, h⟩
  · obtain rfl := Option.some.inj h
    exact F_M12
  · obtain rfl := Option.some.inj h
    exact F_M12
theorem frX11_barred {a1 : Int32} {M : tM} {w : (Int32 × tM)} (h : fX11_barred a1 M = some w) : Fr [1232, 1233, 1234, 1235, 1238, 1239, 1240, 120036, 120037] M w.2 := by
  have F_M : Fr [1232, 1233, 1234, 1235, 1238, 1239, 1240, 120036, 120037] M M := Fr.refl
  unfold fX11_barred at h
  rcases ite_some h with ⟨_, h⟩ | ⟨_, h⟩
  · obtain rfl := Option.some.inj h
    exact F_M
  · replace h := obind_some h
    obtain ⟨w2, c1, h⟩ := h
    obtain ⟨x2, M4⟩ := w2
    dsimp only at h
    have F_M4 : Fr [1232, 1233, 1234, 1235, 1238, 1239, 1240, 120036, 120037] M M4 := Fr.step F_M (frX11_balance c1) (by decide)
    rcases ite_some h with ⟨_, h⟩ | ⟨_, h⟩
    · obtain rfl := Option.some.inj h
      exact F_M4
    · rcases ite_some h with ⟨_, h⟩ | ⟨_, h⟩
      · obtain rfl := Option.some.inj h
        exact F_M4
      · rcases ite_some h with ⟨_, h⟩ | ⟨_, h⟩
        · obtain rfl := Option.some.inj h
          exact F_M4
        · replace h := obind_some h
          obtain ⟨w4, c3, h⟩ := h
          obtain ⟨x8, M10⟩ := w4
          dsimp only at h
          have F_M10 : Fr [1232, 1233, 1234, 1235, 1238, 1239, 1240, 120036, 120037] M M10 := Fr.step F_M4 (frX11_isStuck c3) (by decide)
          rcases ite_some h with ⟨_, h⟩ | ⟨_, h⟩
          · obtain rfl := Option.some.inj h
            exact F_M10
          · obtain rfl := Option.some.inj h
            exact F_M10
theorem frX11_stuck {M : tM} {w : (Int32 × tM)} (h : fX11_stuck M = some w) : Fr [1232, 1233, 1234, 1235, 1238, 1239, 1240, 120036, 120037] M w.2 := by
  have F_M : Fr [1232, 1233, 1234, 1235, 1238, 1239, 1240, 120036, 120037] M M := Fr.refl
  unfold fX11_stuck at h
  replace h := obind_some h
  obtain ⟨w2, c1, h⟩ := h
  obtain ⟨x1, M3⟩ := w2
  dsimp only at h
  have F_M3 : Fr [1232, 1233, 1234, 1235, 1238, 1239, 1240, 120036, 120037] M M3 := Fr.step F_M (frX11_barred c1) (by decide)
  rcases ite_some h with ⟨_, h⟩ | ⟨_, h⟩
  · replace h := obind_some h
    obtain ⟨w4, c3, h⟩ := h
    obtain ⟨x5, M7⟩ := w4
    dsimp only at h
    have F_M7 : Fr [1232, 1233, 1234, 1235, 1238, 1239, 1240, 120036, 120037] M M7 := Fr.step F_M3 (frX11_isStuck c3) (by decide)
    rcases ite_some h with ⟨_, h⟩ | ⟨_, h⟩
    · obtain rfl := Option.some.inj h
      exact F_M7
    · obtain rfl := Option.some.inj h
      exact F_M7
  · obtain rfl := Option.some.inj h
    exact F_M3
theorem frX11_supply_l2_n {z1 : Int32} : ∀ (n : Nat) (y2 : Int32) (M : tM) (w : (tM)), fX11_supply_l2 z1 n y2 M = some w → Fr [1238, 1241] M w := by
  intro n
  induction n with
  | zero => intro y2 M w h; cases h
  | succ n ih =>
    intro y2 M w h
    have F_M : Fr [1238, 1241] M M := Fr.refl
    rw [fX11_supply_l2] at h
    rcases ite_some h with ⟨_, h⟩ | ⟨_, h⟩
    · obtain rfl := Option.some.inj h
      exact F_M
    · replace h := chk_some h
      obtain ⟨_, h⟩ := h
      replace h := obind_some h
      obtain ⟨w2, b1, h⟩ := h
      obtain ⟨x4, hq⟩ : ∃ q, q = w2 := ⟨_, rfl⟩
      rw [← hq] at h
      clear hq
      replace h := obind_some h
      obtain ⟨w4, b3, h⟩ := h
      have G_w4 : Fr [1238, 1241] M w4 := by
        clear h
        replace h := b3
        clear b3
        rcases ite_some h with ⟨_, h⟩ | ⟨_, h⟩
        · obtain rfl := Option.some.inj h
          exact F_M
        · replace h := chk_some h
          obtain ⟨_, h⟩ := h
          replace h := chk_some h
          obtain ⟨_, h⟩ := h
          replace h := bnd_some h
          obtain ⟨M10, e5, h⟩ := h
          have F_M10 : Fr [1238, 1241] M M10 := by rw [e5]; exact Fr.wI F_M (by decide)
          replace h := chk_some h
          obtain ⟨_, h⟩ := h
          replace h := chk_some h
          obtain ⟨_, h⟩ := h
          replace h := bnd_some h
          obtain ⟨M13, e6, h⟩ := h
          have F_M13 : Fr [1238, 1241] M M13 := by rw [e6]; exact Fr.wI F_M10 (by decide)
          obtain rfl := Option.some.inj h
          exact F_M13
      have F_w4 := G_w4
      obtain ⟨M8, hq⟩ : ∃ q, q = w4 := ⟨_, rfl⟩
      rw [← hq] at h
      have F_M8 : Fr [1238, 1241] M M8 := by rw [hq]; exact F_w4
      clear hq
      replace h := bnd_some h
      obtain ⟨x14, e7, h⟩ := h
      exact Fr.trans F_M8 (ih _ _ _ h)
theorem frX11_supply_l2 {z1 : Int32} {n : Nat} {y2 : Int32} {M : tM} {w : (tM)} (h : fX11_supply_l2 z1 n y2 M = some w) : Fr [1238, 1241] M w := frX11_supply_l2_n n y2 M w h
theorem frX11_supply {a1 : Int32} {M : tM} {w : (tM)} (h : fX11_supply a1 M = some w) : Fr [1238, 1241] M w := by
  have F_M : Fr [1238, 1241] M M := Fr.refl
  unfold fX11_supply at h
  replace h := obind_some h
  obtain ⟨M17, c1, h⟩ := h
  have F_M17 : Fr [1238, 1241] M M17 := Fr.step F_M (frX11_supply_l2 c1) (by decide)
  obtain rfl := Option.some.inj h
  exact F_M17
theorem frX11_lacks_l24_n {z1 : Int32} : ∀ (n : Nat) (y3 : Int32) (M : tM) (w : (tM)), fX11_lacks_l24 z1 n y3 M = some w → Fr [1241] M w := by
  intro n
  induction n with
  | zero => intro y3 M w h; cases h
  | succ n ih =>
    intro y3 M w h
    have F_M : Fr [1241] M M := Fr.refl
    rw [fX11_lacks_l24] at h
    rcases ite_some h with ⟨_, h⟩ | ⟨_, h⟩
    · obtain rfl := Option.some.inj h
      exact F_M
    · replace h := chk_some h
      obtain ⟨_, h⟩ := h
      replace h := bnd_some h
      obtain ⟨M10, e1, h⟩ := h
      have F_M10 : Fr [1241] M M10 := by rw [e1]; exact Fr.wI F_M (by decide)
      replace h := bnd_some h
      obtain ⟨x11, e2, h⟩ := h
      exact Fr.trans F_M10 (ih _ _ _ h)
theorem frX11_lacks_l24 {z1 : Int32} {n : Nat} {y3 : Int32} {M : tM} {w : (tM)} (h : fX11_lacks_l24 z1 n y3 M = some w) : Fr [1241] M w := frX11_lacks_l24_n n y3 M w h
theorem frX11_lacks_l50_n {z1 : Int32} : ∀ (n : Nat) (M : tM) (w : (tM)), fX11_lacks_l50 z1 n M = some w → Fr [1238, 1239, 1240, 1241] M w := by
  intro n
  induction n with
  | zero => intro M w h; cases h
  | succ n ih =>
    intro M w h
    have F_M : Fr [1238, 1239, 1240, 1241] M M := Fr.refl
    rw [fX11_lacks_l50] at h
    replace h := obind_some h
    obtain ⟨x17, c1, h⟩ := h
    rcases ite_some h with ⟨_, h⟩ | ⟨_, h⟩
    · obtain rfl := Option.some.inj h
      exact F_M
    · replace h := obind_some h
      obtain ⟨x20, c2, h⟩ := h
      replace h := obind_some h
      obtain ⟨w4, b3, h⟩ := h
      have G_w4 : Fr [1238, 1239, 1240, 1241] M w4 := by
        clear h
        replace h := b3
        clear b3
        rcases ite_some h with ⟨_, h⟩ | ⟨_, h⟩
        · replace h := obind_some h
          obtain ⟨x23, c5, h⟩ := h
          replace h := obind_some h
          obtain ⟨M26, c6, h⟩ := h
          have F_M26 : Fr [1238, 1239, 1240, 1241] M M26 := Fr.step F_M (frX11_supply c6) (by decide)
          obtain rfl := Option.some.inj h
          exact F_M26
        · replace h := obind_some h
          obtain ⟨M28, c7, h⟩ := h
          have F_M28 : Fr [1238, 1239, 1240, 1241] M M28 := Fr.step F_M (frX11_fireMark c7) (by decide)
          obtain rfl := Option.some.inj h
          exact F_M28
      have F_w4 := G_w4
      obtain ⟨M23, hq⟩ : ∃ q, q = w4 := ⟨_, rfl⟩
      rw [← hq] at h
      have F_M23 : Fr [1238, 1239, 1240, 1241] M M23 := by rw [hq]; exact F_w4
      clear hq
      exact Fr.trans F_M23 (ih _ _ h)
theorem frX11_lacks_l50 {z1 : Int32} {n : Nat} {M : tM} {w : (tM)} (h : fX11_lacks_l50 z1 n M = some w) : Fr [1238, 1239, 1240, 1241] M w := frX11_lacks_l50_n n M w h
theorem frX11_lacks_l98_n {z1 : Int32} {z3 : Int32} : ∀ (n : Nat) (y4 : Int32) (M : tM) (w : (tM)), fX11_lacks_l98 z1 z3 n y4 M = some w → Fr [1238, 1239, 1240, 1241] M w := by
  intro n
  induction n with
  | zero => intro y4 M w h; cases h
  | succ n ih =>
    intro y4 M w h
    have F_M : Fr [1238, 1239, 1240, 1241] M M := Fr.refl
    rw [fX11_lacks_l98] at h
    rcases ite_some h with ⟨_, h⟩ | ⟨_, h⟩
    · obtain rfl := Option.some.inj h
      exact F_M
    · replace h := chk_some h
      obtain ⟨_, h⟩ := h
      rcases ite_some h with ⟨_, h⟩ | ⟨_, h⟩
      · obtain rfl := Option.some.inj h
        exact F_M
      · replace h := chk_some h
        obtain ⟨_, h⟩ := h
        replace h := chk_some h
        obtain ⟨_, h⟩ := h
        replace h := bnd_some h
        obtain ⟨M38, e1, h⟩ := h
        have F_M38 : Fr [1238, 1239, 1240, 1241] M M38 := by rw [e1]; exact Fr.wI F_M (by decide)
        replace h := obind_some h
        obtain ⟨w3, c2, h⟩ := h
        obtain ⟨x39, M41⟩ := w3
        dsimp only at h
        have F_M41 : Fr [1238, 1239, 1240, 1241] M M41 := Fr.step F_M38 (frX11_isStuck c2) (by decide)
        rcases ite_some h with ⟨_, h⟩ | ⟨_, h⟩
        · exact Fr.trans F_M41 (ih _ _ _ h)
        · replace h := chk_some h
          obtain ⟨_, h⟩ := h
          replace h := chk_some h
          obtain ⟨_, h⟩ := h
          replace h := bnd_some h
          obtain ⟨M45, e4, h⟩ := h
          have F_M45 : Fr [1238, 1239, 1240, 1241] M M45 := by rw [e4]; exact Fr.wI F_M41 (by decide)
          exact Fr.trans F_M45 (ih _ _ _ h)
theorem frX11_lacks_l98 {z1 : Int32} {z3 : Int32} {n : Nat} {y4 : Int32} {M : tM} {w : (tM)} (h : fX11_lacks_l98 z1 z3 n y4 M = some w) : Fr [1238, 1239, 1240, 1241] M w := frX11_lacks_l98_n n y4 M w h
theorem frX11_lacks_l87_n {z1 : Int32} : ∀ (n : Nat) (y3 : Int32) (M : tM) (w : (tM)), fX11_lacks_l87 z1 n y3 M = some w → Fr [1238, 1239, 1240, 1241] M w := by
  intro n
  induction n with
  | zero => intro y3 M w h; cases h
  | succ n ih =>
    intro y3 M w h
    have F_M : Fr [1238, 1239, 1240, 1241] M M := Fr.refl
    rw [fX11_lacks_l87] at h
    rcases ite_some h with ⟨_, h⟩ | ⟨_, h⟩
    · obtain rfl := Option.some.inj h
      exact F_M
    · replace h := obind_some h
      obtain ⟨M48, c1, h⟩ := h
      have F_M48 : Fr [1238, 1239, 1240, 1241] M M48 := Fr.step F_M (frX11_lacks_l98 c1) (by decide)
      replace h := bnd_some h
      obtain ⟨x49, e2, h⟩ := h
      exact Fr.trans F_M48 (ih _ _ _ h)
theorem frX11_lacks_l87 {z1 : Int32} {n : Nat} {y3 : Int32} {M : tM} {w : (tM)} (h : fX11_lacks_l87 z1 n y3 M = some w) : Fr [1238, 1239, 1240, 1241] M w := frX11_lacks_l87_n n y3 M w h
theorem frX11_lacks {a1 : Int32} {M : tM} {w : (Int32 × tM)} (h : fX11_lacks a1 M = some w) : Fr [1232, 1233, 1234, 1235, 1238, 1239, 1240, 1241, 120036, 120037] M w.2 := by
  have F_M : Fr [1232, 1233, 1234, 1235, 1238, 1239, 1240, 1241, 120036, 120037] M M := Fr.refl
  unfold fX11_lacks at h
  replace h := obind_some h
  obtain ⟨x1, c1, h⟩ := h
  rcases ite_some h with ⟨_, h⟩ | ⟨_, h⟩
  · obtain rfl := Option.some.inj h
    exact F_M
  · replace h := obind_some h
    obtain ⟨w3, c2, h⟩ := h
    obtain ⟨x4, M6⟩ := w3
    dsimp only at h
    have F_M6 : Fr [1232, 1233, 1234, 1235, 1238, 1239, 1240, 1241, 120036, 120037] M M6 := Fr.step F_M (frX11_barred c2) (by decide)
    rcases ite_some h with ⟨_, h⟩ | ⟨_, h⟩
    · replace h := obind_some h
      obtain ⟨M14, c4, h⟩ := h
      have F_M14 : Fr [1232, 1233, 1234, 1235, 1238, 1239, 1240, 1241, 120036, 120037] M M14 := Fr.step F_M6 (frX11_lacks_l24 c4) (by decide)
      replace h := obind_some h
      obtain ⟨M16, c5, h⟩ := h
      have F_M16 : Fr [1232, 1233, 1234, 1235, 1238, 1239, 1240, 1241, 120036, 120037] M M16 := Fr.step F_M14 (frX11_markFirst c5) (by decide)
      replace h := obind_some h
      obtain ⟨M31, c6, h⟩ := h
      have F_M31 : Fr [1232, 1233, 1234, 1235, 1238, 1239, 1240, 1241, 120036, 120037] M M31 := Fr.step F_M16 (frX11_lacks_l50 c6) (by decide)
      replace h := obind_some h
      obtain ⟨M52, c7, h⟩ := h
      have F_M52 : Fr [1232, 1233, 1234, 1235, 1238, 1239, 1240, 1241, 120036, 120037] M M52 := Fr.step F_M31 (frX11_lacks_l87 c7) (by decide)
      replace h := chk_some h
      obtain ⟨_, h⟩ := h
      obtain rfl := Option.some.inj h
      exact F_M52
    · obtain rfl := Option.some.inj h
      exact F_M6
theorem frX11_storeFirst_l2_n : ∀ (n : Nat) (y1 : Int32) (M : tM) (w : (tM)), fX11_storeFirst_l2 n y1 M = some w → Fr [1246] M w := by
  intro n
  induction n with
  | zero => intro y1 M w h; cases h
  | succ n ih =>
    intro y1 M w h
    have F_M : Fr [1246] M M := Fr.refl
    rw [fX11_storeFirst_l2] at h
    rcases ite_some h with ⟨_, h⟩ | ⟨_, h⟩
    · obtain rfl := Option.some.inj h
      exact F_M
    · replace h := chk_some h
      obtain ⟨_, h⟩ := h
      replace h := chk_some h
      obtain ⟨_, h⟩ := h
      replace h := bnd_some h
      obtain ⟨M4, e1, h⟩ := h
      have F_M4 : Fr [1246] M M4 := by rw [e1]; exact Fr.wI F_M (by decide)
      replace h := bnd_some h
      obtain ⟨x5, e2, h⟩ := h
      exact Fr.trans F_M4 (ih _ _ _ h)
theorem frX11_storeFirst_l2 {n : Nat} {y1 : Int32} {M : tM} {w : (tM)} (h : fX11_storeFirst_l2 n y1 M = some w) : Fr [1246] M w := frX11_storeFirst_l2_n n y1 M w h
theorem frX11_storeFirst {M : tM} {w : (tM)} (h : fX11_storeFirst M = some w) : Fr [1246] M w := by
  have F_M : Fr [1246] M M := Fr.refl
  unfold fX11_storeFirst at h
  replace h := obind_some h
  obtain ⟨M8, c1, h⟩ := h
  have F_M8 : Fr [1246] M M8 := Fr.step F_M (frX11_storeFirst_l2 c1) (by decide)
  obtain rfl := Option.some.inj h
  exact F_M8
theorem frX11_storeMore_l2_n : ∀ (n : Nat) (y1 : Int32) (M : tM) (w : (tM)), fX11_storeMore_l2 n y1 M = some w → Fr [1246] M w := by
  intro n
  induction n with
  | zero => intro y1 M w h; cases h
  | succ n ih =>
    intro y1 M w h
    have F_M : Fr [1246] M M := Fr.refl
    rw [fX11_storeMore_l2] at h
    rcases ite_some h with ⟨_, h⟩ | ⟨_, h⟩
    · obtain rfl := Option.some.inj h
      exact F_M
    · replace h := chk_some h
      obtain ⟨_, h⟩ := h
      replace h := chk_some h
      obtain ⟨_, h⟩ := h
      replace h := obind_some h
      obtain ⟨w2, b1, h⟩ := h
      obtain ⟨x5, hq⟩ : ∃ q, q = w2 := ⟨_, rfl⟩
      rw [← hq] at h
      clear hq
      replace h := chk_some h
      obtain ⟨_, h⟩ := h
      replace h := bnd_some h
      obtain ⟨M9, e3, h⟩ := h
      have F_M9 : Fr [1246] M M9 := by rw [e3]; exact Fr.wI F_M (by decide)
      replace h := bnd_some h
      obtain ⟨x10, e4, h⟩ := h
      exact Fr.trans F_M9 (ih _ _ _ h)
theorem frX11_storeMore_l2 {n : Nat} {y1 : Int32} {M : tM} {w : (tM)} (h : fX11_storeMore_l2 n y1 M = some w) : Fr [1246] M w := frX11_storeMore_l2_n n y1 M w h
theorem frX11_storeMore {M : tM} {w : (tM)} (h : fX11_storeMore M = some w) : Fr [1246] M w := by
  have F_M : Fr [1246] M M := Fr.refl
  unfold fX11_storeMore at h
  replace h := obind_some h
  obtain ⟨M13, c1, h⟩ := h
  have F_M13 : Fr [1246] M M13 := Fr.step F_M (frX11_storeMore_l2 c1) (by decide)
  obtain rfl := Option.some.inj h
  exact F_M13
theorem frX11_settle_l7_n {z1 : Int32} : ∀ (n : Nat) (y2 : Int32) (M : tM) (w : (tM)), fX11_settle_l7 z1 n y2 M = some w → Fr [1242] M w := by
  intro n
  induction n with
  | zero => intro y2 M w h; cases h
  | succ n ih =>
    intro y2 M w h
    have F_M : Fr [1242] M M := Fr.refl
    rw [fX11_settle_l7] at h
    rcases ite_some h with ⟨_, h⟩ | ⟨_, h⟩
    · obtain rfl := Option.some.inj h
      exact F_M
    · replace h := chk_some h
      obtain ⟨_, h⟩ := h
      replace h := chk_some h
      obtain ⟨_, h⟩ := h
      replace h := bnd_some h
      obtain ⟨M5, e1, h⟩ := h
      have F_M5 : Fr [1242] M M5 := by rw [e1]; exact Fr.wI F_M (by decide)
      replace h := bnd_some h
      obtain ⟨x6, e2, h⟩ := h
      exact Fr.trans F_M5 (ih _ _ _ h)
theorem frX11_settle_l7 {z1 : Int32} {n : Nat} {y2 : Int32} {M : tM} {w : (tM)} (h : fX11_settle_l7 z1 n y2 M = some w) : Fr [1242] M w := frX11_settle_l7_n n y2 M w h
theorem frX11_settle_l32_n : ∀ (n : Nat) (y2 : Int32) (M : tM) (w : (tM)), fX11_settle_l32 n y2 M = some w → Fr [1244] M w := by
  intro n
  induction n with
  | zero => intro y2 M w h; cases h
  | succ n ih =>
    intro y2 M w h
    have F_M : Fr [1244] M M := Fr.refl
    rw [fX11_settle_l32] at h
    rcases ite_some h with ⟨_, h⟩ | ⟨_, h⟩
    · obtain rfl := Option.some.inj h
      exact F_M
    · replace h := chk_some h
      obtain ⟨_, h⟩ := h
      replace h := chk_some h
      obtain ⟨_, h⟩ := h
      replace h := bnd_some h
      obtain ⟨M13, e1, h⟩ := h
      have F_M13 : Fr [1244] M M13 := by rw [e1]; exact Fr.wI F_M (by decide)
      replace h := bnd_some h
      obtain ⟨x14, e2, h⟩ := h
      exact Fr.trans F_M13 (ih _ _ _ h)
theorem frX11_settle_l32 {n : Nat} {y2 : Int32} {M : tM} {w : (tM)} (h : fX11_settle_l32 n y2 M = some w) : Fr [1244] M w := frX11_settle_l32_n n y2 M w h
theorem frX11_settle {a1 : Int32} {M : tM} {w : (Int32 × tM)} (h : fX11_settle a1 M = some w) : Fr [1230, 1242, 1244, 120043] M w.2 := by
  have F_M : Fr [1230, 1242, 1244, 120043] M M := Fr.refl
  unfold fX11_settle at h
  replace h := bnd_some h
  obtain ⟨M1, e1, h⟩ := h
  have F_M1 : Fr [1230, 1242, 1244, 120043] M M1 := by rw [e1]; exact Fr.wIo F_M (by decide)
  replace h := obind_some h
  obtain ⟨M9, c2, h⟩ := h
  have F_M9 : Fr [1230, 1242, 1244, 120043] M M9 := Fr.step F_M1 (frX11_settle_l7 c2) (by decide)
  replace h := obind_some h
  obtain ⟨M17, c3, h⟩ := h
  have F_M17 : Fr [1230, 1242, 1244, 120043] M M17 := Fr.step F_M9 (frX11_settle_l32 c3) (by decide)
  replace h := obind_some h
  obtain ⟨M19, c4, h⟩ := h
  have F_M19 : Fr [1230, 1242, 1244, 120043] M M19 := Fr.step F_M17 (frX11_threadsBegin c4) (by decide)
  replace h := obind_some h
  obtain ⟨x20, c5, h⟩ := h
  obtain rfl := Option.some.inj h
  exact F_M19
theorem frX11_schedule_l34_n {z1 : Int32} : ∀ (n : Nat) (y3 : Int32) (M : tM) (w : (tM)), fX11_schedule_l34 z1 n y3 M = some w → Fr [1247] M w := by
  intro n
  induction n with
  | zero => intro y3 M w h; cases h
  | succ n ih =>
    intro y3 M w h
    have F_M : Fr [1247] M M := Fr.refl
    rw [fX11_schedule_l34] at h
    rcases ite_some h with ⟨_, h⟩ | ⟨_, h⟩
    · obtain rfl := Option.some.inj h
      exact F_M
    · replace h := chk_some h
      obtain ⟨_, h⟩ := h
      replace h := bnd_some h
      obtain ⟨M14, e1, h⟩ := h
      have F_M14 : Fr [1247] M M14 := by rw [e1]; exact Fr.wI F_M (by decide)
      replace h := bnd_some h
      obtain ⟨x15, e2, h⟩ := h
      exact Fr.trans F_M14 (ih _ _ _ h)
theorem frX11_schedule_l34 {z1 : Int32} {n : Nat} {y3 : Int32} {M : tM} {w : (tM)} (h : fX11_schedule_l34 z1 n y3 M = some w) : Fr [1247] M w := frX11_schedule_l34_n n y3 M w h
theorem frX11_schedule_l57_n {z1 : Int32} : ∀ (n : Nat) (y3 : Int32) (M : tM) (w : (tM)), fX11_schedule_l57 z1 n y3 M = some w → Fr [1238, 1239, 1240, 1245, 1246, 1247] M w := by
  intro n
  induction n with
  | zero => intro y3 M w h; cases h
  | succ n ih =>
    intro y3 M w h
    have F_M : Fr [1238, 1239, 1240, 1245, 1246, 1247] M M := Fr.refl
    rw [fX11_schedule_l57] at h
    rcases ite_some h with ⟨_, h⟩ | ⟨_, h⟩
    · obtain rfl := Option.some.inj h
      exact F_M
    · replace h := obind_some h
      obtain ⟨x20, c1, h⟩ := h
      replace h := obind_some h
      obtain ⟨M23, c2, h⟩ := h
      have F_M23 : Fr [1238, 1239, 1240, 1245, 1246, 1247] M M23 := Fr.step F_M (frX11_fireMark c2) (by decide)
      replace h := chk_some h
      obtain ⟨_, h⟩ := h
      replace h := bnd_some h
      obtain ⟨M25, e3, h⟩ := h
      have F_M25 : Fr [1238, 1239, 1240, 1245, 1246, 1247] M M25 := by rw [e3]; exact Fr.wI F_M23 (by decide)
      replace h := chk_some h
      obtain ⟨_, h⟩ := h
      replace h := bnd_some h
      obtain ⟨M27, e4, h⟩ := h
      have F_M27 : Fr [1238, 1239, 1240, 1245, 1246, 1247] M M27 := by rw [e4]; exact Fr.wI F_M25 (by decide)
      replace h := obind_some h
      obtain ⟨M29, c5, h⟩ := h
      have F_M29 : Fr [1238, 1239, 1240, 1245, 1246, 1247] M M29 := Fr.step F_M27 (frX11_storeMore c5) (by decide)
      replace h := bnd_some h
      obtain ⟨x30, e6, h⟩ := h
      exact Fr.trans F_M29 (ih _ _ _ h)
theorem frX11_schedule_l57 {z1 : Int32} {n : Nat} {y3 : Int32} {M : tM} {w : (tM)} (h : fX11_schedule_l57 z1 n y3 M = some w) : Fr [1238, 1239, 1240, 1245, 1246, 1247] M w := frX11_schedule_l57_n n y3 M w h
theorem frX11_schedule {a1 : Int32} {M : tM} {w : (Int32 × tM)} (h : fX11_schedule a1 M = some w) : Fr [1230, 1232, 1233, 1234, 1235, 1238, 1239, 1240, 1242, 1244, 1245, 1246, 1247, 120036, 120037, 120043] M w.2 := by
  have F_M : Fr [1230, 1232, 1233, 1234, 1235, 1238, 1239, 1240, 1242, 1244, 1245, 1246, 1247, 120036, 120037, 120043] M M := Fr.refl
  unfold fX11_schedule at h
  replace h := obind_some h
  obtain ⟨x1, c1, h⟩ := h
  rcases ite_some h with ⟨_, h⟩ | ⟨_, h⟩
  · obtain rfl := Option.some.inj h
    exact F_M
  · replace h := obind_some h
    obtain ⟨w3, c2, h⟩ := h
    obtain ⟨x4, M6⟩ := w3
    dsimp only at h
    have F_M6 : Fr [1230, 1232, 1233, 1234, 1235, 1238, 1239, 1240, 1242, 1244, 1245, 1246, 1247, 120036, 120037, 120043] M M6 := Fr.step F_M (frX11_barred c2) (by decide)
    rcases ite_some h with ⟨_, h⟩ | ⟨_, h⟩
    · replace h := obind_some h
      obtain ⟨M9, c4, h⟩ := h
      have F_M9 : Fr [1230, 1232, 1233, 1234, 1235, 1238, 1239, 1240, 1242, 1244, 1245, 1246, 1247, 120036, 120037, 120043] M M9 := Fr.step F_M6 (frX11_markFirst c4) (by decide)
      replace h := obind_some h
      obtain ⟨M11, c5, h⟩ := h
      have F_M11 : Fr [1230, 1232, 1233, 1234, 1235, 1238, 1239, 1240, 1242, 1244, 1245, 1246, 1247, 120036, 120037, 120043] M M11 := Fr.step F_M9 (frX11_storeFirst c5) (by decide)
      replace h := obind_some h
      obtain ⟨M18, c6, h⟩ := h
      have F_M18 : Fr [1230, 1232, 1233, 1234, 1235, 1238, 1239, 1240, 1242, 1244, 1245, 1246, 1247, 120036, 120037, 120043] M M18 := Fr.step F_M11 (frX11_schedule_l34 c6) (by decide)
      replace h := obind_some h
      obtain ⟨M33, c7, h⟩ := h
      have F_M33 : Fr [1230, 1232, 1233, 1234, 1235, 1238, 1239, 1240, 1242, 1244, 1245, 1246, 1247, 120036, 120037, 120043] M M33 := Fr.step F_M18 (frX11_schedule_l57 c7) (by decide)
      replace h := obind_some h
      obtain ⟨w9, c8, h⟩ := h
      obtain ⟨x34, M36⟩ := w9
      dsimp only at h
      have F_M36 : Fr [1230, 1232, 1233, 1234, 1235, 1238, 1239, 1240, 1242, 1244, 1245, 1246, 1247, 120036, 120037, 120043] M M36 := Fr.step F_M33 (frX11_settle c8) (by decide)
      obtain rfl := Option.some.inj h
      exact F_M36
    · obtain rfl := Option.some.inj h
      exact F_M6
theorem frX11_bringStores_l2_n {z1 : Int32} : ∀ (n : Nat) (y2 : Int32) (M : tM) (w : (tM)), fX11_bringStores_l2 z1 n y2 M = some w → Fr [1246] M w := by
  intro n
  induction n with
  | zero => intro y2 M w h; cases h
  | succ n ih =>
    intro y2 M w h
    have F_M : Fr [1246] M M := Fr.refl
    rw [fX11_bringStores_l2] at h
    rcases ite_some h with ⟨_, h⟩ | ⟨_, h⟩
    · obtain rfl := Option.some.inj h
      exact F_M
    · replace h := chk_some h
      obtain ⟨_, h⟩ := h
      replace h := chk_some h
      obtain ⟨_, h⟩ := h
      replace h := bnd_some h
      obtain ⟨M4, e1, h⟩ := h
      have F_M4 : Fr [1246] M M4 := by rw [e1]; exact Fr.wI F_M (by decide)
      replace h := bnd_some h
      obtain ⟨x5, e2, h⟩ := h
      exact Fr.trans F_M4 (ih _ _ _ h)
theorem frX11_bringStores_l2 {z1 : Int32} {n : Nat} {y2 : Int32} {M : tM} {w : (tM)} (h : fX11_bringStores_l2 z1 n y2 M = some w) : Fr [1246] M w := frX11_bringStores_l2_n n y2 M w h
theorem frX11_bringStores {a1 : Int32} {M : tM} {w : (tM)} (h : fX11_bringStores a1 M = some w) : Fr [1246] M w := by
  have F_M : Fr [1246] M M := Fr.refl
  unfold fX11_bringStores at h
  replace h := obind_some h
  obtain ⟨M8, c1, h⟩ := h
  have F_M8 : Fr [1246] M M8 := Fr.step F_M (frX11_bringStores_l2 c1) (by decide)
  obtain rfl := Option.some.inj h
  exact F_M8
theorem frX11_keepStores_l2_n {z1 : Int32} : ∀ (n : Nat) (y2 : Int32) (M : tM) (w : (tM)), fX11_keepStores_l2 z1 n y2 M = some w → Fr [1251] M w := by
  intro n
  induction n with
  | zero => intro y2 M w h; cases h
  | succ n ih =>
    intro y2 M w h
    have F_M : Fr [1251] M M := Fr.refl
    rw [fX11_keepStores_l2] at h
    rcases ite_some h with ⟨_, h⟩ | ⟨_, h⟩
    · obtain rfl := Option.some.inj h
      exact F_M
    · replace h := chk_some h
      obtain ⟨_, h⟩ := h
      replace h := chk_some h
      obtain ⟨_, h⟩ := h
      replace h := bnd_some h
      obtain ⟨M4, e1, h⟩ := h
      have F_M4 : Fr [1251] M M4 := by rw [e1]; exact Fr.wI F_M (by decide)
      replace h := bnd_some h
      obtain ⟨x5, e2, h⟩ := h
      exact Fr.trans F_M4 (ih _ _ _ h)
theorem frX11_keepStores_l2 {z1 : Int32} {n : Nat} {y2 : Int32} {M : tM} {w : (tM)} (h : fX11_keepStores_l2 z1 n y2 M = some w) : Fr [1251] M w := frX11_keepStores_l2_n n y2 M w h
theorem frX11_keepStores {a1 : Int32} {M : tM} {w : (tM)} (h : fX11_keepStores a1 M = some w) : Fr [1251] M w := by
  have F_M : Fr [1251] M M := Fr.refl
  unfold fX11_keepStores at h
  replace h := obind_some h
  obtain ⟨M8, c1, h⟩ := h
  have F_M8 : Fr [1251] M M8 := Fr.step F_M (frX11_keepStores_l2 c1) (by decide)
  obtain rfl := Option.some.inj h
  exact F_M8
theorem frX11_keepBest_l2_n : ∀ (n : Nat) (y1 : Int32) (M : tM) (w : (tM)), fX11_keepBest_l2 n y1 M = some w → Fr [1252] M w := by
  intro n
  induction n with
  | zero => intro y1 M w h; cases h
  | succ n ih =>
    intro y1 M w h
    have F_M : Fr [1252] M M := Fr.refl
    rw [fX11_keepBest_l2] at h
    rcases ite_some h with ⟨_, h⟩ | ⟨_, h⟩
    · obtain rfl := Option.some.inj h
      exact F_M
    · replace h := chk_some h
      obtain ⟨_, h⟩ := h
      replace h := chk_some h
      obtain ⟨_, h⟩ := h
      replace h := bnd_some h
      obtain ⟨M4, e1, h⟩ := h
      have F_M4 : Fr [1252] M M4 := by rw [e1]; exact Fr.wI F_M (by decide)
      replace h := bnd_some h
      obtain ⟨x5, e2, h⟩ := h
      exact Fr.trans F_M4 (ih _ _ _ h)
theorem frX11_keepBest_l2 {n : Nat} {y1 : Int32} {M : tM} {w : (tM)} (h : fX11_keepBest_l2 n y1 M = some w) : Fr [1252] M w := frX11_keepBest_l2_n n y1 M w h
theorem frX11_keepBest_l30_n : ∀ (n : Nat) (y1 : Int32) (M : tM) (w : (tM)), fX11_keepBest_l30 n y1 M = some w → Fr [1253] M w := by
  intro n
  induction n with
  | zero => intro y1 M w h; cases h
  | succ n ih =>
    intro y1 M w h
    have F_M : Fr [1253] M M := Fr.refl
    rw [fX11_keepBest_l30] at h
    rcases ite_some h with ⟨_, h⟩ | ⟨_, h⟩
    · obtain rfl := Option.some.inj h
      exact F_M
    · replace h := chk_some h
      obtain ⟨_, h⟩ := h
      replace h := chk_some h
      obtain ⟨_, h⟩ := h
      replace h := bnd_some h
      obtain ⟨M12, e1, h⟩ := h
      have F_M12 : Fr [1253] M M12 := by rw [e1]; exact Fr.wI F_M (by decide)
      replace h := bnd_some h
      obtain ⟨x13, e2, h⟩ := h
      exact Fr.trans F_M12 (ih _ _ _ h)
theorem frX11_keepBest_l30 {n : Nat} {y1 : Int32} {M : tM} {w : (tM)} (h : fX11_keepBest_l30 n y1 M = some w) : Fr [1253] M w := frX11_keepBest_l30_n n y1 M w h
