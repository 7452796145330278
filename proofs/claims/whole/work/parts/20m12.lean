theorem wcX11_421 : tCB RX11 421 yX11_shared cX11_shared 8 (some .long) 1 ∧ Cond.methodLink RX11 421 yX11_shared ∈ tgd ∧ Cond.instanceMethod yX11_shared ∈ tgd ∧ Cond.selects RX11 yX11_shared yX11_shared ∈ tgd := ⟨⟨(tgd_t 1797 (by decide +kernel) (by decide +kernel)), (tgd_t 10 (by decide +kernel) (by decide +kernel)), by decide, by decide +kernel⟩, (tgd_t 1794 (by decide +kernel) (by decide +kernel)), (tgd_t 1796 (by decide +kernel) (by decide +kernel)), (tgd_p 103 (by decide +kernel) (by decide +kernel))⟩
theorem wcX11_424 : tCB RX11 424 yX11_delayed cX11_delayed 7 (some .long) 1 ∧ Cond.methodLink RX11 424 yX11_delayed ∈ tgd ∧ Cond.instanceMethod yX11_delayed ∈ tgd ∧ Cond.selects RX11 yX11_delayed yX11_delayed ∈ tgd := ⟨⟨(tgd_t 1801 (by decide +kernel) (by decide +kernel)), (tgd_t 10 (by decide +kernel) (by decide +kernel)), by decide, by decide +kernel⟩, (tgd_t 1798 (by decide +kernel) (by decide +kernel)), (tgd_t 1800 (by decide +kernel) (by decide +kernel)), (tgd_p 104 (by decide +kernel) (by decide +kernel))⟩
abbrev iX11_works : tY := (RX11, cX11_works, 2, some .long, "works")
abbrev rmX11_works : Room := { frames := 4, cells := 0, slots := 0, locals := 94 }
def fX11_works (a1 : Int32) (M : tM) : Option (Int64 × tM) :=
  chk (inb a1 (mN M 1203 0)) <|
  bnd (mI M 1203 0 (a1.toNatClampNeg)) fun x2 =>
  if x2.toInt < 0 ∨ 4 < x2.toInt then (
  (fX11_delayed a1 M).bind fun (x4, M6) =>
  some ((x4, M6))
  ) else (
  if x2 = 0 then (
  (fX11_fixed a1 M).bind fun (x7, M9) =>
  some ((x7, M9))
  ) else (
  if x2 = 1 then (
  (fX11_scaled a1 M).bind fun (x11, M13) =>
  some ((x11, M13))
  ) else (
  if x2 = 2 then (
  (fX11_body 3 M).bind fun M16 =>
  chk (inb a1 (mN M16 1220 0)) <|
  (fX11_scaled a1 M16).bind fun (x18, M20) =>
  chk (inb a1 (mN M20 1220 0)) <|
  bnd (sL M20 1220 0 (a1.toNatClampNeg) ((mL M16 1220 0 (a1.toNatClampNeg)) + x18)) fun M22 =>
  chk (inb a1 (mN M22 1220 0)) <|
  some ((mL M22 1220 0 (a1.toNatClampNeg), M22))
  ) else (
  if x2 = 3 then (
  (fX11_shared a1 M).bind fun (x25, M27) =>
  some ((x25, M27))
  ) else (
  if x2 = 4 then (
  (fX11_body 5 M).bind fun M30 =>
  (fX11_fixed a1 M30).bind fun (x31, M33) =>
  chk (inb a1 (mN M33 1219 0)) <|
  some ((x31 + ((mI M33 1219 0 (a1.toNatClampNeg)).toInt64), M33))
  ) else (
  none))))))
set_option maxHeartbeats 4000000 in
set_option maxRecDepth 100000 in
theorem okX11_works {g : tG} {a1 : Int32} {M : tM} {v : Int64} {Mz : tM} (h : fX11_works a1 M = some ((v, Mz))) : TMet g yX11_works (Cond.code yX11_works cX11_works 2 (some .long) :: tgd) rmX11_works [tr 11 0, ti a1] M (some (tl v)) Mz 0 0 := by
  have key : TW g iX11_works rmX11_works 0 0 (some (tl v)) Mz 0 0 0 [(0, tr 11 0), (1, ti a1)] [] M := by
    rw [fX11_works] at h
    refine tm_aload_n dX11_works_0 rfl rfl ?_
    refine tm_get kX11 rfl (j := 3) (by decide) wfX11_13 dX11_works_1 (v := tr 1203 0) rfl ?_
    refine tm_iload_n dX11_works_4 rfl rfl ?_
    obtain ⟨b1, h⟩ := chk_some h
    refine tm_iald rfl dX11_works_5 (inb_vp b1) ?_
    obtain ⟨x2, ex2, h⟩ := bnd_some h
    refine tm_nmI ex2 ?_
    by_cases c3 : x2.toInt < 0 ∨ 4 < x2.toInt
    · rw [if_pos c3] at h
      refine tm_tableOut (tgt := 103) dX11_works_6 c3 (by decide) ?_
      refine tm_aload_n dX11_works_103 rfl rfl ?_
      refine tm_iload_n dX11_works_104 rfl rfl ?_
      obtain ⟨⟨x4, M6⟩, hc5, h⟩ := obind_some h
      dsimp only at h
      refine tm_callV kX11 rfl (avs := [ti a1]) (st := []) (okX11_delayed hc5) wcX11_424.1 wcX11_424.2.1 wcX11_424.2.2.1 wcX11_424.2.2.2 ⟨rfl, rfl, Nat.le_of_ble_eq_true rfl, Nat.le_of_ble_eq_true rfl⟩ rfl (Nat.le_of_ble_eq_true rfl) ⟨Nat.zero_le _, Nat.zero_le _⟩ dX11_works_105 ?_
      obtain ⟨rfl, rfl⟩ := pj2 h
      exact tm_lret rfl dX11_works_108
    · rw [if_neg c3] at h
      by_cases c10 : x2 = 0
      · rw [if_pos c10] at h
        subst c10
        refine tm_tableIn (tgt := 40) dX11_works_6 (by decide) (by decide) rfl (by decide) ?_
        refine tm_aload_n dX11_works_40 rfl rfl ?_
        refine tm_iload_n dX11_works_41 rfl rfl ?_
        obtain ⟨⟨x7, M9⟩, hc8, h⟩ := obind_some h
        dsimp only at h
        refine tm_callV kX11 rfl (avs := [ti a1]) (st := []) (okX11_fixed hc8) wcX11_412.1 wcX11_412.2.1 wcX11_412.2.2.1 wcX11_412.2.2.2 ⟨rfl, rfl, Nat.le_of_ble_eq_true rfl, Nat.le_of_ble_eq_true rfl⟩ rfl (Nat.le_of_ble_eq_true rfl) ⟨Nat.zero_le _, Nat.zero_le _⟩ dX11_works_42 ?_
        obtain ⟨rfl, rfl⟩ := pj2 h
        exact tm_lret rfl dX11_works_45
      · rw [if_neg c10] at h
        by_cases c14 : x2 = 1
        · rw [if_pos c14] at h
          subst c14
          refine tm_tableIn (tgt := 46) dX11_works_6 (by decide) (by decide) rfl (by decide) ?_
          refine tm_aload_n dX11_works_46 rfl rfl ?_
          refine tm_iload_n dX11_works_47 rfl rfl ?_
          obtain ⟨⟨x11, M13⟩, hc12, h⟩ := obind_some h
          dsimp only at h
          refine tm_callV kX11 rfl (avs := [ti a1]) (st := []) (okX11_scaled hc12) wcX11_415.1 wcX11_415.2.1 wcX11_415.2.2.1 wcX11_415.2.2.2 ⟨rfl, rfl, Nat.le_of_ble_eq_true rfl, Nat.le_of_ble_eq_true rfl⟩ rfl (Nat.le_of_ble_eq_true rfl) ⟨Nat.zero_le _, Nat.zero_le _⟩ dX11_works_48 ?_
          obtain ⟨rfl, rfl⟩ := pj2 h
          exact tm_lret rfl dX11_works_51
        · rw [if_neg c14] at h
          by_cases c24 : x2 = 2
          · rw [if_pos c24] at h
            subst c24
            refine tm_tableIn (tgt := 52) dX11_works_6 (by decide) (by decide) rfl (by decide) ?_
            refine tm_aload_n dX11_works_52 rfl rfl ?_
            refine tm_iconst (v := 3) dX11_works_53 (by decide) ?_
            obtain ⟨M16, hc15, h⟩ := obind_some h
            refine tm_callV kX11 rfl (avs := [ti 3]) (st := []) (okX11_body hc15) wcX11_405.1 wcX11_405.2.1 wcX11_405.2.2.1 wcX11_405.2.2.2 ⟨rfl, rfl, Nat.le_of_ble_eq_true rfl, Nat.le_of_ble_eq_true rfl⟩ rfl (Nat.le_of_ble_eq_true rfl) ⟨Nat.zero_le _, Nat.zero_le _⟩ dX11_works_54 ?_
            refine tm_aload_n dX11_works_57 rfl rfl ?_
            refine tm_get kX11 rfl (j := 20) (by decide) wfX11_62 dX11_works_58 (v := tr 1220 0) rfl ?_
            refine tm_iload_n dX11_works_61 rfl rfl ?_
            refine tm_dup2 dX11_works_62 rfl rfl ?_
            obtain ⟨b17, h⟩ := chk_some h
            refine tm_lald rfl dX11_works_63 (inb_vp b17) ?_
            refine tm_aload_n dX11_works_64 rfl rfl ?_
            refine tm_iload_n dX11_works_65 rfl rfl ?_
            obtain ⟨⟨x18, M20⟩, hc19, h⟩ := obind_some h
            dsimp only at h
            refine tm_callV kX11 rfl (avs := [ti a1]) (st := [tl (mL M16 1220 0 (a1.toNatClampNeg)), ti a1, tr 1220 0]) (okX11_scaled hc19) wcX11_415.1 wcX11_415.2.1 wcX11_415.2.2.1 wcX11_415.2.2.2 ⟨rfl, rfl, Nat.le_of_ble_eq_true rfl, Nat.le_of_ble_eq_true rfl⟩ rfl (Nat.le_of_ble_eq_true rfl) ⟨Nat.zero_le _, Nat.zero_le _⟩ dX11_works_66 ?_
            refine tm_ladd dX11_works_69 ?_
            obtain ⟨b21, h⟩ := chk_some h
            obtain ⟨M22, eM22, h⟩ := bnd_some h
            refine tm_last rfl dX11_works_70 (inb_vp b21) ?_
            refine tm_nmM eM22 ?_
            refine tm_aload_n dX11_works_71 rfl rfl ?_
            refine tm_get kX11 rfl (j := 20) (by decide) wfX11_62 dX11_works_72 (v := tr 1220 0) rfl ?_
            refine tm_iload_n dX11_works_75 rfl rfl ?_
            obtain ⟨b23, h⟩ := chk_some h
            refine tm_lald rfl dX11_works_76 (inb_vp b23) ?_
            obtain ⟨rfl, rfl⟩ := pj2 h
            exact tm_lret rfl dX11_works_77
          · rw [if_neg c24] at h
            by_cases c28 : x2 = 3
            · rw [if_pos c28] at h
              subst c28
              refine tm_tableIn (tgt := 78) dX11_works_6 (by decide) (by decide) rfl (by decide) ?_
              refine tm_aload_n dX11_works_78 rfl rfl ?_
              refine tm_iload_n dX11_works_79 rfl rfl ?_
              obtain ⟨⟨x25, M27⟩, hc26, h⟩ := obind_some h
              dsimp only at h
              refine tm_callV kX11 rfl (avs := [ti a1]) (st := []) (okX11_shared hc26) wcX11_421.1 wcX11_421.2.1 wcX11_421.2.2.1 wcX11_421.2.2.2 ⟨rfl, rfl, Nat.le_of_ble_eq_true rfl, Nat.le_of_ble_eq_true rfl⟩ rfl (Nat.le_of_ble_eq_true rfl) ⟨Nat.zero_le _, Nat.zero_le _⟩ dX11_works_80 ?_
              obtain ⟨rfl, rfl⟩ := pj2 h
              exact tm_lret rfl dX11_works_83
            · rw [if_neg c28] at h
              by_cases c35 : x2 = 4
              · rw [if_pos c35] at h
                subst c35
                refine tm_tableIn (tgt := 84) dX11_works_6 (by decide) (by decide) rfl (by decide) ?_
                refine tm_aload_n dX11_works_84 rfl rfl ?_
                refine tm_iconst (v := 5) dX11_works_85 (by decide) ?_
                obtain ⟨M30, hc29, h⟩ := obind_some h
                refine tm_callV kX11 rfl (avs := [ti 5]) (st := []) (okX11_body hc29) wcX11_405.1 wcX11_405.2.1 wcX11_405.2.2.1 wcX11_405.2.2.2 ⟨rfl, rfl, Nat.le_of_ble_eq_true rfl, Nat.le_of_ble_eq_true rfl⟩ rfl (Nat.le_of_ble_eq_true rfl) ⟨Nat.zero_le _, Nat.zero_le _⟩ dX11_works_86 ?_
                refine tm_aload_n dX11_works_89 rfl rfl ?_
                refine tm_iload_n dX11_works_90 rfl rfl ?_
                obtain ⟨⟨x31, M33⟩, hc32, h⟩ := obind_some h
                dsimp only at h
                refine tm_callV kX11 rfl (avs := [ti a1]) (st := []) (okX11_fixed hc32) wcX11_412.1 wcX11_412.2.1 wcX11_412.2.2.1 wcX11_412.2.2.2 ⟨rfl, rfl, Nat.le_of_ble_eq_true rfl, Nat.le_of_ble_eq_true rfl⟩ rfl (Nat.le_of_ble_eq_true rfl) ⟨Nat.zero_le _, Nat.zero_le _⟩ dX11_works_91 ?_
                refine tm_aload_n dX11_works_94 rfl rfl ?_
                refine tm_get kX11 rfl (j := 19) (by decide) wfX11_59 dX11_works_95 (v := tr 1219 0) rfl ?_
                refine tm_iload_n dX11_works_98 rfl rfl ?_
                obtain ⟨b34, h⟩ := chk_some h
                refine tm_iald rfl dX11_works_99 (inb_vp b34) ?_
                refine tm_i2l dX11_works_100 ?_
                refine tm_ladd dX11_works_101 ?_
                obtain ⟨rfl, rfl⟩ := pj2 h
                exact tm_lret rfl dX11_works_102
              · rw [if_neg c35] at h
                cases h
  exact TMet.of (by decide) (Nat.le_of_ble_eq_true rfl) key
theorem wfX11_74 : Cond.fieldLink RX11 74 "EvenFlowModel" "givenThings" "[J" ∈ tgd := (tgd_t 1249 (by decide +kernel) (by decide +kernel))
abbrev iX11_moves : tY := (RX11, cX11_moves, 7, none, "moves")
abbrev rmX11_moves : Room := { frames := 0, cells := 0, slots := 0, locals := 0 }
def fX11_moves_l45 (z1 : Int32) (z2 : Int64) (z4 : Int32) (z5 : Int32) : Nat → Int32 → tM → Option (tM)
  | 0, _, _ => none
  | n + 1, y6, M =>
    chk (inb z4 (mN M 1221 0)) <|
    if (mI M 1221 0 (z4.toNatClampNeg)) ≤ y6 then (
    some M
    ) else (
    chk (inb ((450 * z4) + y6) (mN M 1222 0)) <|
    chk (inb (((450 * z4) + y6) - z5) (mN M 1222 0)) <|
    bnd (sL M 1222 0 ((((450 * z4) + y6) - z5).toNatClampNeg) (mL M 1222 0 (((450 * z4) + y6).toNatClampNeg))) fun M11 =>
    bnd (y6 + 1) fun x12 =>
    fX11_moves_l45 z1 z2 z4 z5 n x12 M11
    )
def fX11_moves_l3 (z1 : Int32) (z2 : Int64) : Nat → Int32 → tM → Option (tM)
  | 0, _, _ => none
  | n + 1, y4, M =>
    if (mI M 11 0 12) ≤ y4 then (
    some M
    ) else (
    chk (inb y4 (mN M 1214 0)) <|
    Option.bind (α := tM) (
    if (mI M 1214 0 (y4.toNatClampNeg)) = z1 then (
    chk (inb z1 (mN M 1219 0)) <|
    chk (inb ((4 * y4) + (mI M 1219 0 (z1.toNatClampNeg))) (mN M 1216 0)) <|
    bnd (mI M 1216 0 (((4 * y4) + (mI M 1219 0 (z1.toNatClampNeg))).toNatClampNeg)) fun x6 =>
    Option.bind (fX11_moves_l45 z1 z2 y4 x6 FU x6 M) fun M15 =>
    chk (inb y4 (mN M15 1221 0)) <|
    chk (inb y4 (mN M15 1221 0)) <|
    bnd (sI M15 1221 0 (y4.toNatClampNeg) ((mI M15 1221 0 (y4.toNatClampNeg)) - x6)) fun M18 =>
    some M18
    ) else (
    some M
    )
    ) fun M4 =>
    bnd (y4 + 1) fun x19 =>
    fX11_moves_l3 z1 z2 n x19 M4
    )
def fX11_moves_l127 (z1 : Int32) (z2 : Int64) (z4 : Int32) : Nat → Int32 → tM → Option (tM)
  | 0, _, _ => none
  | n + 1, y5, M =>
    chk (inb z1 (mN M 1219 0)) <|
    chk (inb ((4 * z4) + (mI M 1219 0 (z1.toNatClampNeg))) (mN M 1215 0)) <|
    if (mI M 1215 0 (((4 * z4) + (mI M 1219 0 (z1.toNatClampNeg))).toNatClampNeg)) ≤ y5 then (
    some M
    ) else (
    chk (inb z4 (mN M 1213 0)) <|
    if (mI M 1213 0 (z4.toNatClampNeg)) = z1 then (
    chk (inb z4 (mN M 1221 0)) <|
    chk (inb ((450 * z4) + (mI M 1221 0 (z4.toNatClampNeg))) (mN M 1222 0)) <|
    bnd (sL M 1222 0 (((450 * z4) + (mI M 1221 0 (z4.toNatClampNeg))).toNatClampNeg) (z2 + (y5.toInt64))) fun M31 =>
    chk (inb z4 (mN M31 1221 0)) <|
    chk (inb z4 (mN M31 1221 0)) <|
    bnd (sI M31 1221 0 (z4.toNatClampNeg) ((mI M31 1221 0 (z4.toNatClampNeg)) + 1)) fun M34 =>
    chk (inb z4 (mN M34 1223 0)) <|
    Option.bind (α := tM) (
    if 200 ≤ (mI M34 1223 0 (z4.toNatClampNeg)) then (
    some M34
    ) else (
    chk (inb z4 (mN M34 1223 0)) <|
    chk (inb ((200 * z4) + (mI M34 1223 0 (z4.toNatClampNeg))) (mN M34 1224 0)) <|
    bnd (sL M34 1224 0 (((200 * z4) + (mI M34 1223 0 (z4.toNatClampNeg))).toNatClampNeg) (z2 + (y5.toInt64))) fun M39 =>
    some M39
    )
    ) fun M37 =>
    chk (inb z4 (mN M37 1223 0)) <|
    chk (inb z4 (mN M37 1223 0)) <|
    bnd (sI M37 1223 0 (z4.toNatClampNeg) ((mI M37 1223 0 (z4.toNatClampNeg)) + 1)) fun M42 =>
    bnd (y5 + 1) fun x43 =>
    fX11_moves_l127 z1 z2 z4 n x43 M42
    ) else (
    some M
    )
    )
def fX11_moves_l115 (z1 : Int32) (z2 : Int64) : Nat → Int32 → tM → Option (tM)
  | 0, _, _ => none
  | n + 1, y4, M =>
    if (mI M 11 0 12) ≤ y4 then (
    some M
    ) else (
    Option.bind (fX11_moves_l127 z1 z2 y4 FU 0 M) fun M46 =>
    bnd (y4 + 1) fun x47 =>
    fX11_moves_l115 z1 z2 n x47 M46
    )
def fX11_moves (a1 : Int32) (a2 : Int64) (M : tM) : Option (tM) :=
  Option.bind (fX11_moves_l3 a1 a2 FU 0 M) fun M22 =>
  Option.bind (fX11_moves_l115 a1 a2 FU 0 M22) fun M50 =>
  chk (inb a1 (mN M50 1219 0)) <|
  chk (inb a1 (mN M50 1205 0)) <|
  chk (nz4 (mI M50 1205 0 (a1.toNatClampNeg))) <|
  chk (inb a1 (mN M50 1219 0)) <|
  bnd (sI M50 1219 0 (a1.toNatClampNeg) (((mI M50 1219 0 (a1.toNatClampNeg)) + 1) - ((mI M50 1219 0 (a1.toNatClampNeg)) + 1) / (mI M50 1205 0 (a1.toNatClampNeg)) * (mI M50 1205 0 (a1.toNatClampNeg)))) fun M55 =>
  bnd (sI M55 11 0 25 ((mI M55 11 0 25) + 1)) fun M56 =>
  some M56
set_option maxHeartbeats 4000000 in
set_option maxRecDepth 100000 in
theorem okX11_moves_l45 {g : tG} (z1 : Int32) (z2 : Int64) (z4 : Int32) (z5 : Int32) {r : Option tV} {Mz : tM} : ∀ (n : Nat) (y6 : Int32) (M : tM) (w : tM), fX11_moves_l45 z1 z2 z4 z5 n y6 M = some w → (∀ (Mw : tM), Mw = w → TW g iX11_moves rmX11_moves 0 0 r Mz 0 0 94 [(0, tr 11 0), (1, ti z1), (2, tl z2), (4, ti z4), (5, ti z5)] [] Mw) → TW g iX11_moves rmX11_moves 0 0 r Mz 0 0 45 [(0, tr 11 0), (1, ti z1), (2, tl z2), (4, ti z4), (5, ti z5), (6, ti y6)] [] M := by
  intro n
  induction n with
  | zero => intro y6 M w h; cases h
  | succ n ih =>
    intro y6 M w h J
    rw [fX11_moves_l45] at h
    refine tm_iload dX11_moves_45 rfl ?_
    refine tm_aload_n dX11_moves_47 rfl rfl ?_
    refine tm_get kX11 rfl (j := 21) (by decide) wfX11_65 dX11_moves_48 (v := tr 1221 0) rfl ?_
    refine tm_iload dX11_moves_51 rfl ?_
    obtain ⟨b7, h⟩ := chk_some h
    refine tm_iald rfl dX11_moves_53 (inb_vp b7) ?_
    refine tm_icmp_ge (tgt := 94) dX11_moves_54 (by decide) (fun c8 => ?_) (fun c8 => ?_)
    · rw [if_pos c8] at h
      obtain rfl := Option.some.inj h
      refine tm_lcp [0, 1, 2, 4, 5] rfl ?_
      exact J _ rfl
    · rw [if_neg c8] at h
      refine tm_aload_n dX11_moves_57 rfl rfl ?_
      refine tm_get kX11 rfl (j := 22) (by decide) wfX11_68 dX11_moves_58 (v := tr 1222 0) rfl ?_
      refine tm_sipush (v := 450) dX11_moves_61 (by decide) ?_
      refine tm_iload dX11_moves_64 rfl ?_
      refine tm_imul dX11_moves_66 ?_
      refine tm_iload dX11_moves_67 rfl ?_
      refine tm_iadd dX11_moves_69 ?_
      refine tm_iload dX11_moves_70 rfl ?_
      refine tm_isub dX11_moves_72 ?_
      refine tm_aload_n dX11_moves_73 rfl rfl ?_
      refine tm_get kX11 rfl (j := 22) (by decide) wfX11_68 dX11_moves_74 (v := tr 1222 0) rfl ?_
      refine tm_sipush (v := 450) dX11_moves_77 (by decide) ?_
      refine tm_iload dX11_moves_80 rfl ?_
      refine tm_imul dX11_moves_82 ?_
      refine tm_iload dX11_moves_83 rfl ?_
      refine tm_iadd dX11_moves_85 ?_
      obtain ⟨b9, h⟩ := chk_some h
      refine tm_lald rfl dX11_moves_86 (inb_vp b9) ?_
      obtain ⟨b10, h⟩ := chk_some h
      obtain ⟨M11, eM11, h⟩ := bnd_some h
      refine tm_last rfl dX11_moves_87 (inb_vp b10) ?_
      refine tm_nmM eM11 ?_
      obtain ⟨x12, ex12, h⟩ := bnd_some h
      refine tm_iinc (v := x12) (lc' := [(6, ti x12), (0, tr 11 0), (1, ti z1), (2, tl z2), (4, ti z4), (5, ti z5)]) dX11_moves_88 rfl (by rw [ex12]; rfl) (by decide) rfl ?_
      refine tm_goto (tgt := 45) dX11_moves_91 (by decide) ?_
      refine tm_lcp [0, 1, 2, 4, 5, 6] rfl ?_
      exact ih x12 M11 _ h J
set_option maxHeartbeats 4000000 in
set_option maxRecDepth 100000 in
theorem okX11_moves_l3 {g : tG} (z1 : Int32) (z2 : Int64) {r : Option tV} {Mz : tM} : ∀ (n : Nat) (y4 : Int32) (M : tM) (w : tM), fX11_moves_l3 z1 z2 n y4 M = some w → (∀ (Mw : tM), Mw = w → TW g iX11_moves rmX11_moves 0 0 r Mz 0 0 112 [(0, tr 11 0), (1, ti z1), (2, tl z2)] [] Mw) → TW g iX11_moves rmX11_moves 0 0 r Mz 0 0 3 [(0, tr 11 0), (1, ti z1), (2, tl z2), (4, ti y4)] [] M := by
  intro n
  induction n with
  | zero => intro y4 M w h; cases h
  | succ n ih =>
    intro y4 M w h J
    rw [fX11_moves_l3] at h
    refine tm_iload dX11_moves_3 rfl ?_
    refine tm_aload_n dX11_moves_5 rfl rfl ?_
    refine tm_get kX11 rfl (j := 12) (by decide) wfX11_209 dX11_moves_6 (v := ti (mI M 11 0 12)) rfl ?_
    refine tm_icmp_ge (tgt := 112) dX11_moves_9 (by decide) (fun c1 => ?_) (fun c1 => ?_)
    · rw [if_pos c1] at h
      obtain rfl := Option.some.inj h
      refine tm_lcp [0, 1, 2] rfl ?_
      exact J _ rfl
    · rw [if_neg c1] at h
      refine tm_aload_n dX11_moves_12 rfl rfl ?_
      refine tm_get kX11 rfl (j := 14) (by decide) wfX11_44 dX11_moves_13 (v := tr 1214 0) rfl ?_
      refine tm_iload dX11_moves_16 rfl ?_
      obtain ⟨b2, h⟩ := chk_some h
      refine tm_iald rfl dX11_moves_18 (inb_vp b2) ?_
      refine tm_iload_n dX11_moves_19 rfl rfl ?_
      obtain ⟨M4, hE5, h⟩ := obind_some h
      have J6 : TW g iX11_moves rmX11_moves 0 0 r Mz 0 0 106 [(0, tr 11 0), (1, ti z1), (2, tl z2), (4, ti y4)] [] M4 := by
        obtain ⟨x19, ex19, h⟩ := bnd_some h
        refine tm_iinc (v := x19) (lc' := [(4, ti x19), (0, tr 11 0), (1, ti z1), (2, tl z2)]) dX11_moves_106 rfl (by rw [ex19]; rfl) (by decide) rfl ?_
        refine tm_goto (tgt := 3) dX11_moves_109 (by decide) ?_
        refine tm_lcp [0, 1, 2, 4] rfl ?_
        exact ih x19 M4 _ h J
      refine tm_icmp_ne (tgt := 106) dX11_moves_20 (by decide) (fun c3 => ?_) (fun c3 => ?_)
      · rw [if_neg c3] at hE5
        obtain rfl := Option.some.inj hE5
        refine tm_lcp [0, 1, 2, 4] rfl ?_
        exact J6
      · rw [if_pos c3] at hE5
        refine tm_aload_n dX11_moves_23 rfl rfl ?_
        refine tm_get kX11 rfl (j := 16) (by decide) wfX11_50 dX11_moves_24 (v := tr 1216 0) rfl ?_
        refine tm_iconst (v := 4) dX11_moves_27 (by decide) ?_
        refine tm_iload dX11_moves_28 rfl ?_
        refine tm_imul dX11_moves_30 ?_
        refine tm_aload_n dX11_moves_31 rfl rfl ?_
        refine tm_get kX11 rfl (j := 19) (by decide) wfX11_59 dX11_moves_32 (v := tr 1219 0) rfl ?_
        refine tm_iload_n dX11_moves_35 rfl rfl ?_
        obtain ⟨b4, hE5⟩ := chk_some hE5
        refine tm_iald rfl dX11_moves_36 (inb_vp b4) ?_
        refine tm_iadd dX11_moves_37 ?_
        obtain ⟨b5, hE5⟩ := chk_some hE5
        refine tm_iald rfl dX11_moves_38 (inb_vp b5) ?_
        obtain ⟨x6, ex6, hE5⟩ := bnd_some hE5
        refine tm_nmI ex6 ?_
        refine tm_istore (lc' := [(5, ti x6), (0, tr 11 0), (1, ti z1), (2, tl z2), (4, ti y4)]) dX11_moves_39 (by decide) rfl ?_
        refine tm_iload dX11_moves_41 rfl ?_
        refine tm_istore (lc' := [(6, ti x6), (5, ti x6), (0, tr 11 0), (1, ti z1), (2, tl z2), (4, ti y4)]) dX11_moves_43 (by decide) rfl ?_
        obtain ⟨w13, hE14, hE5⟩ := obind_some hE5
        refine tm_lcp [0, 1, 2, 4, 5, 6] rfl ?_
        refine okX11_moves_l45 z1 z2 y4 x6 FU x6 M _ hE14 (fun M15 e => ?_)
        subst e
        refine tm_aload_n dX11_moves_94 rfl rfl ?_
        refine tm_get kX11 rfl (j := 21) (by decide) wfX11_65 dX11_moves_95 (v := tr 1221 0) rfl ?_
        refine tm_iload dX11_moves_98 rfl ?_
        refine tm_dup2 dX11_moves_100 rfl rfl ?_
        obtain ⟨b16, hE5⟩ := chk_some hE5
        refine tm_iald rfl dX11_moves_101 (inb_vp b16) ?_
        refine tm_iload dX11_moves_102 rfl ?_
        refine tm_isub dX11_moves_104 ?_
        obtain ⟨b17, hE5⟩ := chk_some hE5
        obtain ⟨M18, eM18, hE5⟩ := bnd_some hE5
        refine tm_iast rfl dX11_moves_105 (inb_vp b17) ?_
        refine tm_nmM eM18 ?_
        obtain rfl := Option.some.inj hE5
        refine tm_lcp [0, 1, 2, 4] rfl ?_
        exact J6
set_option maxHeartbeats 4000000 in
set_option maxRecDepth 100000 in
theorem okX11_moves_l127 {g : tG} (z1 : Int32) (z2 : Int64) (z4 : Int32) {r : Option tV} {Mz : tM} : ∀ (n : Nat) (y5 : Int32) (M : tM) (w : tM), fX11_moves_l127 z1 z2 z4 n y5 M = some w → (∀ (Mw : tM), Mw = w → TW g iX11_moves rmX11_moves 0 0 r Mz 0 0 248 [(0, tr 11 0), (1, ti z1), (2, tl z2), (4, ti z4)] [] Mw) → TW g iX11_moves rmX11_moves 0 0 r Mz 0 0 127 [(0, tr 11 0), (1, ti z1), (2, tl z2), (4, ti z4), (5, ti y5)] [] M := by
  intro n
  induction n with
  | zero => intro y5 M w h; cases h
  | succ n ih =>
    intro y5 M w h J
    rw [fX11_moves_l127] at h
    refine tm_iload dX11_moves_127 rfl ?_
    refine tm_aload_n dX11_moves_129 rfl rfl ?_
    refine tm_get kX11 rfl (j := 15) (by decide) wfX11_47 dX11_moves_130 (v := tr 1215 0) rfl ?_
    refine tm_iconst (v := 4) dX11_moves_133 (by decide) ?_
    refine tm_iload dX11_moves_134 rfl ?_
    refine tm_imul dX11_moves_136 ?_
    refine tm_aload_n dX11_moves_137 rfl rfl ?_
    refine tm_get kX11 rfl (j := 19) (by decide) wfX11_59 dX11_moves_138 (v := tr 1219 0) rfl ?_
    refine tm_iload_n dX11_moves_141 rfl rfl ?_
    obtain ⟨b24, h⟩ := chk_some h
    refine tm_iald rfl dX11_moves_142 (inb_vp b24) ?_
    refine tm_iadd dX11_moves_143 ?_
    obtain ⟨b25, h⟩ := chk_some h
    refine tm_iald rfl dX11_moves_144 (inb_vp b25) ?_
    refine tm_icmp_ge (tgt := 248) dX11_moves_145 (by decide) (fun c26 => ?_) (fun c26 => ?_)
    · rw [if_pos c26] at h
      obtain rfl := Option.some.inj h
      refine tm_lcp [0, 1, 2, 4] rfl ?_
      exact J _ rfl
    · rw [if_neg c26] at h
      refine tm_aload_n dX11_moves_148 rfl rfl ?_
      refine tm_get kX11 rfl (j := 13) (by decide) wfX11_41 dX11_moves_149 (v := tr 1213 0) rfl ?_
      refine tm_iload dX11_moves_152 rfl ?_
      obtain ⟨b27, h⟩ := chk_some h
      refine tm_iald rfl dX11_moves_154 (inb_vp b27) ?_
      refine tm_iload_n dX11_moves_155 rfl rfl ?_
      refine tm_icmp_ne (tgt := 248) dX11_moves_156 (by decide) (fun c28 => ?_) (fun c28 => ?_)
      · rw [if_neg c28] at h
        obtain rfl := Option.some.inj h
        refine tm_lcp [0, 1, 2, 4] rfl ?_
        exact J _ rfl
      · rw [if_pos c28] at h
        refine tm_aload_n dX11_moves_159 rfl rfl ?_
        refine tm_get kX11 rfl (j := 22) (by decide) wfX11_68 dX11_moves_160 (v := tr 1222 0) rfl ?_
        refine tm_sipush (v := 450) dX11_moves_163 (by decide) ?_
        refine tm_iload dX11_moves_166 rfl ?_
        refine tm_imul dX11_moves_168 ?_
        refine tm_aload_n dX11_moves_169 rfl rfl ?_
        refine tm_get kX11 rfl (j := 21) (by decide) wfX11_65 dX11_moves_170 (v := tr 1221 0) rfl ?_
        refine tm_iload dX11_moves_173 rfl ?_
        obtain ⟨b29, h⟩ := chk_some h
        refine tm_iald rfl dX11_moves_175 (inb_vp b29) ?_
        refine tm_iadd dX11_moves_176 ?_
        refine tm_lload_n dX11_moves_177 rfl rfl ?_
        refine tm_iload dX11_moves_178 rfl ?_
        refine tm_i2l dX11_moves_180 ?_
        refine tm_ladd dX11_moves_181 ?_
        obtain ⟨b30, h⟩ := chk_some h
        obtain ⟨M31, eM31, h⟩ := bnd_some h
        refine tm_last rfl dX11_moves_182 (inb_vp b30) ?_
        refine tm_nmM eM31 ?_
        refine tm_aload_n dX11_moves_183 rfl rfl ?_
        refine tm_get kX11 rfl (j := 21) (by decide) wfX11_65 dX11_moves_184 (v := tr 1221 0) rfl ?_
        refine tm_iload dX11_moves_187 rfl ?_
        refine tm_dup2 dX11_moves_189 rfl rfl ?_
        obtain ⟨b32, h⟩ := chk_some h
        refine tm_iald rfl dX11_moves_190 (inb_vp b32) ?_
        refine tm_iconst (v := 1) dX11_moves_191 (by decide) ?_
        refine tm_iadd dX11_moves_192 ?_
        obtain ⟨b33, h⟩ := chk_some h
        obtain ⟨M34, eM34, h⟩ := bnd_some h
        refine tm_iast rfl dX11_moves_193 (inb_vp b33) ?_
        refine tm_nmM eM34 ?_
        refine tm_aload_n dX11_moves_194 rfl rfl ?_
        refine tm_get kX11 rfl (j := 23) (by decide) wfX11_71 dX11_moves_195 (v := tr 1223 0) rfl ?_
        refine tm_iload dX11_moves_198 rfl ?_
        obtain ⟨b35, h⟩ := chk_some h
        refine tm_iald rfl dX11_moves_200 (inb_vp b35) ?_
        refine tm_sipush (v := 200) dX11_moves_201 (by decide) ?_
        obtain ⟨M37, hE38, h⟩ := obind_some h
        have J39 : TW g iX11_moves rmX11_moves 0 0 r Mz 0 0 231 [(0, tr 11 0), (1, ti z1), (2, tl z2), (4, ti z4), (5, ti y5)] [] M37 := by
          refine tm_aload_n dX11_moves_231 rfl rfl ?_
          refine tm_get kX11 rfl (j := 23) (by decide) wfX11_71 dX11_moves_232 (v := tr 1223 0) rfl ?_
          refine tm_iload dX11_moves_235 rfl ?_
          refine tm_dup2 dX11_moves_237 rfl rfl ?_
          obtain ⟨b40, h⟩ := chk_some h
          refine tm_iald rfl dX11_moves_238 (inb_vp b40) ?_
          refine tm_iconst (v := 1) dX11_moves_239 (by decide) ?_
          refine tm_iadd dX11_moves_240 ?_
          obtain ⟨b41, h⟩ := chk_some h
          obtain ⟨M42, eM42, h⟩ := bnd_some h
          refine tm_iast rfl dX11_moves_241 (inb_vp b41) ?_
          refine tm_nmM eM42 ?_
          obtain ⟨x43, ex43, h⟩ := bnd_some h
          refine tm_iinc (v := x43) (lc' := [(5, ti x43), (0, tr 11 0), (1, ti z1), (2, tl z2), (4, ti z4)]) dX11_moves_242 rfl (by rw [ex43]; rfl) (by decide) rfl ?_
          refine tm_goto (tgt := 127) dX11_moves_245 (by decide) ?_
          refine tm_lcp [0, 1, 2, 4, 5] rfl ?_
          exact ih x43 M42 _ h J
        refine tm_icmp_ge (tgt := 231) dX11_moves_204 (by decide) (fun c36 => ?_) (fun c36 => ?_)
        · rw [if_pos c36] at hE38
          obtain rfl := Option.some.inj hE38
          refine tm_lcp [0, 1, 2, 4, 5] rfl ?_
          exact J39
        · rw [if_neg c36] at hE38
          refine tm_aload_n dX11_moves_207 rfl rfl ?_
          refine tm_get kX11 rfl (j := 24) (by decide) wfX11_74 dX11_moves_208 (v := tr 1224 0) rfl ?_
          refine tm_sipush (v := 200) dX11_moves_211 (by decide) ?_
          refine tm_iload dX11_moves_214 rfl ?_
          refine tm_imul dX11_moves_216 ?_
          refine tm_aload_n dX11_moves_217 rfl rfl ?_
          refine tm_get kX11 rfl (j := 23) (by decide) wfX11_71 dX11_moves_218 (v := tr 1223 0) rfl ?_
          refine tm_iload dX11_moves_221 rfl ?_
          obtain ⟨b37, hE38⟩ := chk_some hE38
          refine tm_iald rfl dX11_moves_223 (inb_vp b37) ?_
          refine tm_iadd dX11_moves_224 ?_
          refine tm_lload_n dX11_moves_225 rfl rfl ?_
          refine tm_iload dX11_moves_226 rfl ?_
          refine tm_i2l dX11_moves_228 ?_
          refine tm_ladd dX11_moves_229 ?_
          obtain ⟨b38, hE38⟩ := chk_some hE38
          obtain ⟨M39, eM39, hE38⟩ := bnd_some hE38
          refine tm_last rfl dX11_moves_230 (inb_vp b38) ?_
          refine tm_nmM eM39 ?_
          obtain rfl := Option.some.inj hE38
          refine tm_lcp [0, 1, 2, 4, 5] rfl ?_
          exact J39
set_option maxHeartbeats 4000000 in
set_option maxRecDepth 100000 in
theorem okX11_moves_l115 {g : tG} (z1 : Int32) (z2 : Int64) {r : Option tV} {Mz : tM} : ∀ (n : Nat) (y4 : Int32) (M : tM) (w : tM), fX11_moves_l115 z1 z2 n y4 M = some w → (∀ (Mw : tM), Mw = w → TW g iX11_moves rmX11_moves 0 0 r Mz 0 0 254 [(0, tr 11 0), (1, ti z1)] [] Mw) → TW g iX11_moves rmX11_moves 0 0 r Mz 0 0 115 [(0, tr 11 0), (1, ti z1), (2, tl z2), (4, ti y4)] [] M := by
  intro n
  induction n with
  | zero => intro y4 M w h; cases h
  | succ n ih =>
    intro y4 M w h J
    rw [fX11_moves_l115] at h
    refine tm_iload dX11_moves_115 rfl ?_
    refine tm_aload_n dX11_moves_117 rfl rfl ?_
    refine tm_get kX11 rfl (j := 12) (by decide) wfX11_209 dX11_moves_118 (v := ti (mI M 11 0 12)) rfl ?_
    refine tm_icmp_ge (tgt := 254) dX11_moves_121 (by decide) (fun c23 => ?_) (fun c23 => ?_)
    · rw [if_pos c23] at h
      obtain rfl := Option.some.inj h
      refine tm_lcp [0, 1] rfl ?_
      exact J _ rfl
    · rw [if_neg c23] at h
      refine tm_iconst (v := 0) dX11_moves_124 (by decide) ?_
      refine tm_istore (lc' := [(5, ti 0), (0, tr 11 0), (1, ti z1), (2, tl z2), (4, ti y4)]) dX11_moves_125 (by decide) rfl ?_
      obtain ⟨w44, hE45, h⟩ := obind_some h
      refine tm_lcp [0, 1, 2, 4, 5] rfl ?_
      refine okX11_moves_l127 z1 z2 y4 FU 0 M _ hE45 (fun M46 e => ?_)
      subst e
      obtain ⟨x47, ex47, h⟩ := bnd_some h
      refine tm_iinc (v := x47) (lc' := [(4, ti x47), (0, tr 11 0), (1, ti z1), (2, tl z2)]) dX11_moves_248 rfl (by rw [ex47]; rfl) (by decide) rfl ?_
      refine tm_goto (tgt := 115) dX11_moves_251 (by decide) ?_
      refine tm_lcp [0, 1, 2, 4] rfl ?_
      exact ih x47 M46 _ h J
set_option maxHeartbeats 4000000 in
set_option maxRecDepth 100000 in
theorem okX11_moves {g : tG} {a1 : Int32} {a2 : Int64} {M : tM} {Mz : tM} (h : fX11_moves a1 a2 M = some Mz) : TMet g yX11_moves (Cond.code yX11_moves cX11_moves 7 (none) :: tgd) rmX11_moves [tr 11 0, ti a1, tl a2] M none Mz 0 0 := by
  have key : TW g iX11_moves rmX11_moves 0 0 none Mz 0 0 0 [(0, tr 11 0), (1, ti a1), (2, tl a2)] [] M := by
    rw [fX11_moves] at h
    refine tm_iconst (v := 0) dX11_moves_0 (by decide) ?_
    refine tm_istore (lc' := [(4, ti 0), (0, tr 11 0), (1, ti a1), (2, tl a2)]) dX11_moves_1 (by decide) rfl ?_
    obtain ⟨w20, hE21, h⟩ := obind_some h
    refine tm_lcp [0, 1, 2, 4] rfl ?_
    refine okX11_moves_l3 a1 a2 FU 0 M _ hE21 (fun M22 e => ?_)
    subst e
    refine tm_iconst (v := 0) dX11_moves_112 (by decide) ?_
    refine tm_istore (lc' := [(4, ti 0), (0, tr 11 0), (1, ti a1), (2, tl a2)]) dX11_moves_113 (by decide) rfl ?_
    obtain ⟨w48, hE49, h⟩ := obind_some h
    refine tm_lcp [0, 1, 2, 4] rfl ?_
    refine okX11_moves_l115 a1 a2 FU 0 M22 _ hE49 (fun M50 e => ?_)
    subst e
    refine tm_aload_n dX11_moves_254 rfl rfl ?_
    refine tm_get kX11 rfl (j := 19) (by decide) wfX11_59 dX11_moves_255 (v := tr 1219 0) rfl ?_
    refine tm_iload_n dX11_moves_258 rfl rfl ?_
    refine tm_aload_n dX11_moves_259 rfl rfl ?_
    refine tm_get kX11 rfl (j := 19) (by decide) wfX11_59 dX11_moves_260 (v := tr 1219 0) rfl ?_
    refine tm_iload_n dX11_moves_263 rfl rfl ?_
    obtain ⟨b51, h⟩ := chk_some h
    refine tm_iald rfl dX11_moves_264 (inb_vp b51) ?_
    refine tm_iconst (v := 1) dX11_moves_265 (by decide) ?_
    refine tm_iadd dX11_moves_266 ?_
    refine tm_aload_n dX11_moves_267 rfl rfl ?_
    refine tm_get kX11 rfl (j := 5) (by decide) wfX11_20 dX11_moves_268 (v := tr 1205 0) rfl ?_
    refine tm_iload_n dX11_moves_271 rfl rfl ?_
    obtain ⟨b52, h⟩ := chk_some h
    refine tm_iald rfl dX11_moves_272 (inb_vp b52) ?_
    obtain ⟨b53, h⟩ := chk_some h
    refine tm_irem dX11_moves_273 (nz4_ne b53) ?_
    obtain ⟨b54, h⟩ := chk_some h
    obtain ⟨M55, eM55, h⟩ := bnd_some h
    refine tm_iast rfl dX11_moves_274 (inb_vp b54) ?_
    refine tm_nmM eM55 ?_
    refine tm_aload_n dX11_moves_275 rfl rfl ?_
    refine tm_dup dX11_moves_276 rfl ?_
    refine tm_get kX11 rfl (j := 25) (by decide) wfX11_212 dX11_moves_277 (v := ti (mI M55 11 0 25)) rfl ?_
    refine tm_iconst (v := 1) dX11_moves_280 (by decide) ?_
    refine tm_iadd dX11_moves_281 ?_
    obtain ⟨M56, eM56, h⟩ := bnd_some h
    refine tm_put kX11 rfl (j := 25) (by decide) wfX11_212 rfl dX11_moves_282 (fun _ => ⟨rfl, rfl⟩) (tPut_I ((mI M55 11 0 25) + 1) rfl) ?_
    refine tm_nmM eM56 ?_
    obtain rfl := Option.some.inj h
    exact tm_vret rfl dX11_moves_285
  exact TMet.of (by decide) (Nat.le_of_ble_eq_true rfl) key
theorem wcX11_427 : tCB RX11 427 yX11_isRoom cX11_isRoom 5 (some .boolean) 1 ∧ Cond.methodLink RX11 427 yX11_isRoom ∈ tgd ∧ Cond.instanceMethod yX11_isRoom ∈ tgd ∧ Cond.selects RX11 yX11_isRoom yX11_isRoom ∈ tgd := ⟨⟨(tgd_t 1773 (by decide +kernel) (by decide +kernel)), (tgd_t 10 (by decide +kernel) (by decide +kernel)), by decide, by decide +kernel⟩, (tgd_t 1770 (by decide +kernel) (by decide +kernel)), (tgd_t 1772 (by decide +kernel) (by decide +kernel)), (tgd_p 97 (by decide +kernel) (by decide +kernel))⟩
theorem wcX11_430 : tCB RX11 430 yX11_works cX11_works 2 (some .long) 1 ∧ Cond.methodLink RX11 430 yX11_works ∈ tgd ∧ Cond.instanceMethod yX11_works ∈ tgd ∧ Cond.selects RX11 yX11_works yX11_works ∈ tgd := ⟨⟨(tgd_t 1777 (by decide +kernel) (by decide +kernel)), (tgd_t 10 (by decide +kernel) (by decide +kernel)), by decide, by decide +kernel⟩, (tgd_t 1774 (by decide +kernel) (by decide +kernel)), (tgd_t 1776 (by decide +kernel) (by decide +kernel)), (tgd_p 98 (by decide +kernel) (by decide +kernel))⟩
theorem wcX11_436 : tCB RX11 436 yX11_moves cX11_moves 7 (none) 2 ∧ Cond.methodLink RX11 436 yX11_moves ∈ tgd ∧ Cond.instanceMethod yX11_moves ∈ tgd ∧ Cond.selects RX11 yX11_moves yX11_moves ∈ tgd := ⟨⟨(tgd_t 1805 (by decide +kernel) (by decide +kernel)), (tgd_t 10 (by decide +kernel) (by decide +kernel)), by decide, by decide +kernel⟩, (tgd_t 1802 (by decide +kernel) (by decide +kernel)), (tgd_t 1804 (by decide +kernel) (by decide +kernel)), (tgd_p 105 (by decide +kernel) (by decide +kernel))⟩
theorem wfX11_433 : Cond.fieldLink RX11 433 "EvenFlowModel" "gave" "J" ∈ tgd := (tgd_t 1251 (by decide +kernel) (by decide +kernel))
abbrev iX11_fires : tY := (RX11, cX11_fires, 4, some .int, "fires")
abbrev rmX11_fires : Room := { frames := 5, cells := 0, slots := 0, locals := 115 }
def fX11_fires (a1 : Int32) (M : tM) : Option (Int32 × tM) :=
  (fX11_isRoom a1 M).bind fun x1 =>
  if x1 = 0 then (
  some (((-4), M))
  ) else (
  bnd (sI M 11 0 28 0) fun M4 =>
  bnd (sI M4 11 0 76 0) fun M5 =>
  (fX11_works a1 M5).bind fun (x6, M8) =>
  if (mI M8 11 0 76) ≤ 0 then (
  bnd (sL M8 11 0 26 x6) fun M10 =>
  (fX11_moves a1 x6 M10).bind fun M12 =>
  some ((1, M12))
  ) else (
  (fX11_meets (mI M8 11 0 76) M8).bind fun (x13, M15) =>
  some ((x13, M15))
  )
  )
set_option maxHeartbeats 4000000 in
set_option maxRecDepth 100000 in
theorem okX11_fires {g : tG} {a1 : Int32} {M : tM} {v : Int32} {Mz : tM} (h : fX11_fires a1 M = some ((v, Mz))) : TMet g yX11_fires (Cond.code yX11_fires cX11_fires 4 (some .int) :: tgd) rmX11_fires [tr 11 0, ti a1] M (some (ti v)) Mz 0 0 := by
  have key : TW g iX11_fires rmX11_fires 0 0 (some (ti v)) Mz 0 0 0 [(0, tr 11 0), (1, ti a1)] [] M := by
    rw [fX11_fires] at h
    refine tm_aload_n dX11_fires_0 rfl rfl ?_
    refine tm_iload_n dX11_fires_1 rfl rfl ?_
    obtain ⟨x1, hc2, h⟩ := obind_some h
    refine tm_callV kX11 rfl (avs := [ti a1]) (st := []) (okX11_isRoom hc2) wcX11_427.1 wcX11_427.2.1 wcX11_427.2.2.1 wcX11_427.2.2.2 ⟨rfl, rfl, Nat.le_of_ble_eq_true rfl, Nat.le_of_ble_eq_true rfl⟩ rfl (Nat.le_of_ble_eq_true rfl) ⟨Nat.zero_le _, Nat.zero_le _⟩ dX11_fires_2 ?_
    refine tm_if_ne (tgt := 11) dX11_fires_5 (by decide) (fun c3 => ?_) (fun c3 => ?_)
    · rw [if_neg c3] at h
      refine tm_aload_n dX11_fires_11 rfl rfl ?_
      refine tm_iconst (v := 0) dX11_fires_12 (by decide) ?_
      obtain ⟨M4, eM4, h⟩ := bnd_some h
      refine tm_put kX11 rfl (j := 28) (by decide) wfX11_402 rfl dX11_fires_13 (fun _ => ⟨rfl, rfl⟩) (tPut_I 0 rfl) ?_
      refine tm_nmM eM4 ?_
      refine tm_aload_n dX11_fires_16 rfl rfl ?_
      refine tm_iconst (v := 0) dX11_fires_17 (by decide) ?_
      obtain ⟨M5, eM5, h⟩ := bnd_some h
      refine tm_put kX11 rfl (j := 76) (by decide) wfX11_418 rfl dX11_fires_18 (fun _ => ⟨rfl, rfl⟩) (tPut_I 0 rfl) ?_
      refine tm_nmM eM5 ?_
      refine tm_aload_n dX11_fires_21 rfl rfl ?_
      refine tm_iload_n dX11_fires_22 rfl rfl ?_
      obtain ⟨⟨x6, M8⟩, hc7, h⟩ := obind_some h
      dsimp only at h
      refine tm_callV kX11 rfl (avs := [ti a1]) (st := []) (okX11_works hc7) wcX11_430.1 wcX11_430.2.1 wcX11_430.2.2.1 wcX11_430.2.2.2 ⟨rfl, rfl, Nat.le_of_ble_eq_true rfl, Nat.le_of_ble_eq_true rfl⟩ rfl (Nat.le_of_ble_eq_true rfl) ⟨Nat.zero_le _, Nat.zero_le _⟩ dX11_fires_23 ?_
      refine tm_lstore_n (lc' := [(2, tl x6), (0, tr 11 0), (1, ti a1)]) dX11_fires_26 rfl (by decide) rfl ?_
      refine tm_aload_n dX11_fires_27 rfl rfl ?_
      refine tm_get kX11 rfl (j := 76) (by decide) wfX11_418 dX11_fires_28 (v := ti (mI M8 11 0 76)) rfl ?_
      refine tm_if_le (tgt := 43) dX11_fires_31 (by decide) (fun c9 => ?_) (fun c9 => ?_)
      · rw [if_pos c9] at h
        refine tm_aload_n dX11_fires_43 rfl rfl ?_
        refine tm_lload_n dX11_fires_44 rfl rfl ?_
        obtain ⟨M10, eM10, h⟩ := bnd_some h
        refine tm_put kX11 rfl (j := 26) (by decide) wfX11_433 rfl dX11_fires_45 (fun _ => ⟨rfl, rfl⟩) (tPut_L x6 rfl) ?_
        refine tm_nmM eM10 ?_
        refine tm_aload_n dX11_fires_48 rfl rfl ?_
        refine tm_iload_n dX11_fires_49 rfl rfl ?_
        refine tm_lload_n dX11_fires_50 rfl rfl ?_
        obtain ⟨M12, hc11, h⟩ := obind_some h
        refine tm_callV kX11 rfl (avs := [ti a1, tl x6]) (st := []) (okX11_moves hc11) wcX11_436.1 wcX11_436.2.1 wcX11_436.2.2.1 wcX11_436.2.2.2 ⟨rfl, rfl, Nat.le_of_ble_eq_true rfl, Nat.le_of_ble_eq_true rfl⟩ rfl (Nat.le_of_ble_eq_true rfl) ⟨Nat.zero_le _, Nat.zero_le _⟩ dX11_fires_51 ?_
        refine tm_iconst (v := 1) dX11_fires_54 (by decide) ?_
        obtain ⟨rfl, rfl⟩ := pj2 h
        exact tm_iret rfl dX11_fires_55
      · rw [if_neg c9] at h
        refine tm_aload_n dX11_fires_34 rfl rfl ?_
        refine tm_aload_n dX11_fires_35 rfl rfl ?_
        refine tm_get kX11 rfl (j := 76) (by decide) wfX11_418 dX11_fires_36 (v := ti (mI M8 11 0 76)) rfl ?_
        obtain ⟨⟨x13, M15⟩, hc14, h⟩ := obind_some h
        dsimp only at h
        refine tm_callV kX11 rfl (avs := [ti (mI M8 11 0 76)]) (st := []) (okX11_meets hc14) wcX11_221.1 wcX11_221.2.1 wcX11_221.2.2.1 wcX11_221.2.2.2 ⟨rfl, rfl, Nat.le_of_ble_eq_true rfl, Nat.le_of_ble_eq_true rfl⟩ rfl (Nat.le_of_ble_eq_true rfl) ⟨Nat.zero_le _, Nat.zero_le _⟩ dX11_fires_39 ?_
        obtain ⟨rfl, rfl⟩ := pj2 h
        exact tm_iret rfl dX11_fires_42
    · rw [if_pos c3] at h
      refine tm_bipush (v := (-4)) dX11_fires_8 (by decide) ?_
      obtain ⟨rfl, rfl⟩ := pj2 h
      exact tm_iret rfl dX11_fires_10
  exact TMet.of (by decide) (Nat.le_of_ble_eq_true rfl) key
theorem wcX11_440 : tCB RX11 440 yX11_fires cX11_fires 4 (some .int) 1 ∧ Cond.methodLink RX11 440 yX11_fires ∈ tgd ∧ Cond.instanceMethod yX11_fires ∈ tgd ∧ Cond.selects RX11 yX11_fires yX11_fires ∈ tgd := ⟨⟨(tgd_t 1769 (by decide +kernel) (by decide +kernel)), (tgd_t 10 (by decide +kernel) (by decide +kernel)), by decide, by decide +kernel⟩, (tgd_t 1766 (by decide +kernel) (by decide +kernel)), (tgd_t 1768 (by decide +kernel) (by decide +kernel)), (tgd_p 96 (by decide +kernel) (by decide +kernel))⟩
abbrev iX11_fire : tY := (RX11, cX11_fire, 2, some .int, "fire")
abbrev rmX11_fire : Room := { frames := 6, cells := 0, slots := 0, locals := 138 }
def fX11_fire (a1 : Int32) (M : tM) : Option (Int32 × tM) :=
  (fX11_isPart a1 M).bind fun x1 =>
  if x1 = 0 then (
  some (((-1), M))
  ) else (
  if (mI M 11 0 25) = 5000 then (
  some (((-4), M))
  ) else (
  (fX11_mayFire a1 M).bind fun x5 =>
  if x5 = 0 then (
  some ((0, M))
  ) else (
  (fX11_fires a1 M).bind fun (x8, M10) =>
  some ((x8, M10))
  )
  )
  )
set_option maxHeartbeats 4000000 in
set_option maxRecDepth 100000 in
theorem okX11_fire {g : tG} {a1 : Int32} {M : tM} {v : Int32} {Mz : tM} (h : fX11_fire a1 M = some ((v, Mz))) : TMet g yX11_fire (Cond.code yX11_fire cX11_fire 2 (some .int) :: tgd) rmX11_fire [tr 11 0, ti a1] M (some (ti v)) Mz 0 0 := by
  have key : TW g iX11_fire rmX11_fire 0 0 (some (ti v)) Mz 0 0 0 [(0, tr 11 0), (1, ti a1)] [] M := by
    rw [fX11_fire] at h
    refine tm_aload_n dX11_fire_0 rfl rfl ?_
    refine tm_iload_n dX11_fire_1 rfl rfl ?_
    obtain ⟨x1, hc2, h⟩ := obind_some h
    refine tm_callV kX11 rfl (avs := [ti a1]) (st := []) (okX11_isPart hc2) wcX11_228.1 wcX11_228.2.1 wcX11_228.2.2.1 wcX11_228.2.2.2 ⟨rfl, rfl, Nat.le_of_ble_eq_true rfl, Nat.le_of_ble_eq_true rfl⟩ rfl (Nat.le_of_ble_eq_true rfl) ⟨Nat.zero_le _, Nat.zero_le _⟩ dX11_fire_2 ?_
    refine tm_if_ne (tgt := 10) dX11_fire_5 (by decide) (fun c3 => ?_) (fun c3 => ?_)
    · rw [if_neg c3] at h
      refine tm_aload_n dX11_fire_10 rfl rfl ?_
      refine tm_get kX11 rfl (j := 25) (by decide) wfX11_212 dX11_fire_11 (v := ti (mI M 11 0 25)) rfl ?_
      refine tm_sipush (v := 5000) dX11_fire_14 (by decide) ?_
      refine tm_icmp_ne (tgt := 25) dX11_fire_17 (by decide) (fun c4 => ?_) (fun c4 => ?_)
      · rw [if_neg c4] at h
        refine tm_aload_n dX11_fire_25 rfl rfl ?_
        refine tm_iload_n dX11_fire_26 rfl rfl ?_
        obtain ⟨x5, hc6, h⟩ := obind_some h
        refine tm_callV kX11 rfl (avs := [ti a1]) (st := []) (okX11_mayFire hc6) wcX11_399.1 wcX11_399.2.1 wcX11_399.2.2.1 wcX11_399.2.2.2 ⟨rfl, rfl, Nat.le_of_ble_eq_true rfl, Nat.le_of_ble_eq_true rfl⟩ rfl (Nat.le_of_ble_eq_true rfl) ⟨Nat.zero_le _, Nat.zero_le _⟩ dX11_fire_27 ?_
        refine tm_if_ne (tgt := 37) dX11_fire_30 (by decide) (fun c7 => ?_) (fun c7 => ?_)
        · rw [if_neg c7] at h
          refine tm_aload_n dX11_fire_37 rfl rfl ?_
          refine tm_iload_n dX11_fire_38 rfl rfl ?_
          obtain ⟨⟨x8, M10⟩, hc9, h⟩ := obind_some h
          dsimp only at h
          refine tm_callV kX11 rfl (avs := [ti a1]) (st := []) (okX11_fires hc9) wcX11_440.1 wcX11_440.2.1 wcX11_440.2.2.1 wcX11_440.2.2.2 ⟨rfl, rfl, Nat.le_of_ble_eq_true rfl, Nat.le_of_ble_eq_true rfl⟩ rfl (Nat.le_of_ble_eq_true rfl) ⟨Nat.zero_le _, Nat.zero_le _⟩ dX11_fire_39 ?_
          obtain ⟨rfl, rfl⟩ := pj2 h
          exact tm_iret rfl dX11_fire_42
        · rw [if_pos c7] at h
          refine tm_iconst (v := 0) dX11_fire_33 (by decide) ?_
          refine tm_goto (tgt := 42) dX11_fire_34 (by decide) ?_
          obtain ⟨rfl, rfl⟩ := pj2 h
          exact tm_iret rfl dX11_fire_42
      · rw [if_pos c4] at h
        refine tm_bipush (v := (-4)) dX11_fire_20 (by decide) ?_
        refine tm_goto (tgt := 42) dX11_fire_22 (by decide) ?_
        obtain ⟨rfl, rfl⟩ := pj2 h
        exact tm_iret rfl dX11_fire_42
    · rw [if_pos c3] at h
      refine tm_iconst (v := (-1)) dX11_fire_8 (by decide) ?_
      obtain ⟨rfl, rfl⟩ := pj2 h
      exact tm_iret rfl dX11_fire_9
  exact TMet.of (by decide) (Nat.le_of_ble_eq_true rfl) key
abbrev iX11_gave : tY := (RX11, cX11_gave, 1, some .long, "gave")
abbrev rmX11_gave : Room := { frames := 0, cells := 0, slots := 0, locals := 0 }
def fX11_gave  (M : tM) : Option (Int64) :=
  some (mL M 11 0 26)
set_option maxHeartbeats 4000000 in
set_option maxRecDepth 100000 in
theorem okX11_gave {g : tG}  {M : tM} {v : Int64} (h : fX11_gave  M = some v) : TMet g yX11_gave (Cond.code yX11_gave cX11_gave 1 (some .long) :: tgd) rmX11_gave [tr 11 0] M (some (tl v)) M 0 0 := by
  have key : TW g iX11_gave rmX11_gave 0 0 (some (tl v)) M 0 0 0 [(0, tr 11 0)] [] M := by
    rw [fX11_gave] at h
    refine tm_aload_n dX11_gave_0 rfl rfl ?_
    refine tm_get kX11 rfl (j := 26) (by decide) wfX11_433 dX11_gave_1 (v := tl (mL M 11 0 26)) rfl ?_
    obtain rfl := Option.some.inj h
    exact tm_lret rfl dX11_gave_4
  exact TMet.of (by decide) (Nat.le_of_ble_eq_true rfl) key
abbrev iX11_trace : tY := (RX11, cX11_trace, 2, some .int, "trace")
abbrev rmX11_trace : Room := { frames := 1, cells := 0, slots := 0, locals := 22 }
def fX11_trace (a1 : Int32) (M : tM) : Option (Int32) :=
  (fX11_in a1 0 ((mI M 11 0 28) - 1) M).bind fun x1 =>
  if x1 = 0 then (
  some (-9)
  ) else (
  chk (inb a1 (mN M 1227 0)) <|
  some (mI M 1227 0 (a1.toNatClampNeg))
  )
set_option maxHeartbeats 4000000 in
set_option maxRecDepth 100000 in
theorem okX11_trace {g : tG} {a1 : Int32} {M : tM} {v : Int32} (h : fX11_trace a1 M = some v) : TMet g yX11_trace (Cond.code yX11_trace cX11_trace 2 (some .int) :: tgd) rmX11_trace [tr 11 0, ti a1] M (some (ti v)) M 0 0 := by
  have key : TW g iX11_trace rmX11_trace 0 0 (some (ti v)) M 0 0 0 [(0, tr 11 0), (1, ti a1)] [] M := by
    rw [fX11_trace] at h
    refine tm_iload_n dX11_trace_0 rfl rfl ?_
    refine tm_iconst (v := 0) dX11_trace_1 (by decide) ?_
    refine tm_aload_n dX11_trace_2 rfl rfl ?_
    refine tm_get kX11 rfl (j := 28) (by decide) wfX11_402 dX11_trace_3 (v := ti (mI M 11 0 28)) rfl ?_
    refine tm_iconst (v := 1) dX11_trace_6 (by decide) ?_
    refine tm_isub dX11_trace_7 ?_
    obtain ⟨x1, hc2, h⟩ := obind_some h
    refine tm_callS (avs := [ti a1, ti 0, ti ((mI M 11 0 28) - 1)]) (st := []) (okX11_in hc2) wcX11_205.1 wcX11_205.2.1 wcX11_205.2.2 ⟨rfl, rfl, Nat.le_of_ble_eq_true rfl, Nat.le_of_ble_eq_true rfl⟩ rfl (Nat.le_of_ble_eq_true rfl) ⟨Nat.zero_le _, Nat.zero_le _⟩ dX11_trace_8 ?_
    refine tm_if_eq (tgt := 23) dX11_trace_11 (by decide) (fun c3 => ?_) (fun c3 => ?_)
    · rw [if_pos c3] at h
      refine tm_bipush (v := (-9)) dX11_trace_23 (by decide) ?_
      obtain rfl := Option.some.inj h
      exact tm_iret rfl dX11_trace_25
    · rw [if_neg c3] at h
      refine tm_aload_n dX11_trace_14 rfl rfl ?_
      refine tm_get kX11 rfl (j := 27) (by decide) wfX11_77 dX11_trace_15 (v := tr 1227 0) rfl ?_
      refine tm_iload_n dX11_trace_18 rfl rfl ?_
      obtain ⟨b4, h⟩ := chk_some h
      refine tm_iald rfl dX11_trace_19 (inb_vp b4) ?_
      refine tm_goto (tgt := 25) dX11_trace_20 (by decide) ?_
      obtain rfl := Option.some.inj h
      exact tm_iret rfl dX11_trace_25
  exact TMet.of (by decide) (Nat.le_of_ble_eq_true rfl) key
abbrev iX11_deal : tY := (RX11, cX11_deal, 4, some .int, "deal")
abbrev rmX11_deal : Room := { frames := 2, cells := 0, slots := 0, locals := 43 }
def fX11_deal (a1 : Int32) (a2 : Int32) (M : tM) : Option (Int32 × tM) :=
  (fX11_isPart a1 M).bind fun x1 =>
  if x1 = 0 then (
  some (((-1), M))
  ) else (
  (fX11_in a2 0 3 M).bind fun x4 =>
  if x4 = 0 then (
  some (((-1), M))
  ) else (
  chk (inb a1 (mN M 1211 0)) <|
  bnd (mI M 1211 0 (a1.toNatClampNeg)) fun x8 =>
  chk (inb a1 (mN M 1211 0)) <|
  bnd (sI M 1211 0 (a1.toNatClampNeg) a2) fun M10 =>
  (fX11_threadsBegin M10).bind fun M12 =>
  some ((x8, M12))
  )
  )
set_option maxHeartbeats 4000000 in
set_option maxRecDepth 100000 in
theorem okX11_deal {g : tG} {a1 : Int32} {a2 : Int32} {M : tM} {v : Int32} {Mz : tM} (h : fX11_deal a1 a2 M = some ((v, Mz))) : TMet g yX11_deal (Cond.code yX11_deal cX11_deal 4 (some .int) :: tgd) rmX11_deal [tr 11 0, ti a1, ti a2] M (some (ti v)) Mz 0 0 := by
  have key : TW g iX11_deal rmX11_deal 0 0 (some (ti v)) Mz 0 0 0 [(0, tr 11 0), (1, ti a1), (2, ti a2)] [] M := by
    rw [fX11_deal] at h
    refine tm_aload_n dX11_deal_0 rfl rfl ?_
    refine tm_iload_n dX11_deal_1 rfl rfl ?_
    obtain ⟨x1, hc2, h⟩ := obind_some h
    refine tm_callV kX11 rfl (avs := [ti a1]) (st := []) (okX11_isPart hc2) wcX11_228.1 wcX11_228.2.1 wcX11_228.2.2.1 wcX11_228.2.2.2 ⟨rfl, rfl, Nat.le_of_ble_eq_true rfl, Nat.le_of_ble_eq_true rfl⟩ rfl (Nat.le_of_ble_eq_true rfl) ⟨Nat.zero_le _, Nat.zero_le _⟩ dX11_deal_2 ?_
    refine tm_if_eq (tgt := 17) dX11_deal_5 (by decide) (fun c3 => ?_) (fun c3 => ?_)
    · rw [if_pos c3] at h
      refine tm_iconst (v := (-1)) dX11_deal_17 (by decide) ?_
      obtain ⟨rfl, rfl⟩ := pj2 h
      exact tm_iret rfl dX11_deal_18
    · rw [if_neg c3] at h
      refine tm_iload_n dX11_deal_8 rfl rfl ?_
      refine tm_iconst (v := 0) dX11_deal_9 (by decide) ?_
      refine tm_iconst (v := 3) dX11_deal_10 (by decide) ?_
      obtain ⟨x4, hc5, h⟩ := obind_some h
      refine tm_callS (avs := [ti a2, ti 0, ti 3]) (st := []) (okX11_in hc5) wcX11_205.1 wcX11_205.2.1 wcX11_205.2.2 ⟨rfl, rfl, Nat.le_of_ble_eq_true rfl, Nat.le_of_ble_eq_true rfl⟩ rfl (Nat.le_of_ble_eq_true rfl) ⟨Nat.zero_le _, Nat.zero_le _⟩ dX11_deal_11 ?_
      refine tm_if_ne (tgt := 19) dX11_deal_14 (by decide) (fun c6 => ?_) (fun c6 => ?_)
      · rw [if_neg c6] at h
        refine tm_aload_n dX11_deal_19 rfl rfl ?_
        refine tm_get kX11 rfl (j := 11) (by decide) wfX11_38 dX11_deal_20 (v := tr 1211 0) rfl ?_
        refine tm_iload_n dX11_deal_23 rfl rfl ?_
        obtain ⟨b7, h⟩ := chk_some h
        refine tm_iald rfl dX11_deal_24 (inb_vp b7) ?_
        obtain ⟨x8, ex8, h⟩ := bnd_some h
        refine tm_nmI ex8 ?_
        refine tm_istore_n (lc' := [(3, ti x8), (0, tr 11 0), (1, ti a1), (2, ti a2)]) dX11_deal_25 rfl (by decide) rfl ?_
        refine tm_aload_n dX11_deal_26 rfl rfl ?_
        refine tm_get kX11 rfl (j := 11) (by decide) wfX11_38 dX11_deal_27 (v := tr 1211 0) rfl ?_
        refine tm_iload_n dX11_deal_30 rfl rfl ?_
        refine tm_iload_n dX11_deal_31 rfl rfl ?_
        obtain ⟨b9, h⟩ := chk_some h
        obtain ⟨M10, eM10, h⟩ := bnd_some h
        refine tm_iast rfl dX11_deal_32 (inb_vp b9) ?_
        refine tm_nmM eM10 ?_
        refine tm_aload_n dX11_deal_33 rfl rfl ?_
        obtain ⟨M12, hc11, h⟩ := obind_some h
        refine tm_callV kX11 rfl (avs := []) (st := []) (okX11_threadsBegin hc11) wcX11_215.1 wcX11_215.2.1 wcX11_215.2.2.1 wcX11_215.2.2.2 ⟨rfl, rfl, Nat.le_of_ble_eq_true rfl, Nat.le_of_ble_eq_true rfl⟩ rfl (Nat.le_of_ble_eq_true rfl) ⟨Nat.zero_le _, Nat.zero_le _⟩ dX11_deal_34 ?_
        refine tm_iload_n dX11_deal_37 rfl rfl ?_
        obtain ⟨rfl, rfl⟩ := pj2 h
        exact tm_iret rfl dX11_deal_38
      · rw [if_pos c6] at h
        refine tm_iconst (v := (-1)) dX11_deal_17 (by decide) ?_
        obtain ⟨rfl, rfl⟩ := pj2 h
        exact tm_iret rfl dX11_deal_18
  exact TMet.of (by decide) (Nat.le_of_ble_eq_true rfl) key
abbrev iX11_go : tY := (RX11, cX11_go, 6, some .int, "go")
abbrev rmX11_go : Room := { frames := 6, cells := 0, slots := 0, locals := 138 }
def fX11_go_l15 (z1 : Int32) (M : tM) : Nat → Int32 → Int32 → Option (Int32)
  | 0, _, _ => none
  | n + 1, y2, y3 =>
    if (mI M 11 0 2) ≤ y3 then (
    some y2
    ) else (
    Option.bind (α := Int32) (
    if y2 = 0 then (
    chk (inb y3 (mN M 1211 0)) <|
    if (mI M 1211 0 (y3.toNatClampNeg)) = z1 then (
    some 1
    ) else (
    some 0
    )
    ) else (
    some 1
    )
    ) fun x6 =>
    bnd (y3 + 1) fun x9 =>
    fX11_go_l15 z1 M n x6 x9
    )
def fX11_go_l80 (z1 : Int32) (M : tM) : Nat → Int32 → Option (Int32)
  | 0, _ => none
  | n + 1, y3 =>
    chk (inb y3 (mN M 1242 0)) <|
    chk (inb (mI M 1242 0 (y3.toNatClampNeg)) (mN M 1211 0)) <|
    if (mI M 1211 0 ((mI M 1242 0 (y3.toNatClampNeg)).toNatClampNeg)) = z1 then (
    some y3
    ) else (
    chk (nz4 (mI M 11 0 43)) <|
    bnd ((y3 + 1) - (y3 + 1) / (mI M 11 0 43) * (mI M 11 0 43)) fun x22 =>
    fX11_go_l80 z1 M n x22
    )
def fX11_go (a1 : Int32) (M : tM) : Option (Int32 × tM) :=
  (fX11_in a1 0 3 M).bind fun x1 =>
  if x1 = 0 then (
  some (((-1), M))
  ) else (
  Option.bind (fX11_go_l15 a1 M FU 0 0) fun x12 =>
  if (mI M 11 0 43) < 0 then (
  some (((-4), M))
  ) else (
  if x12 = 0 then (
  some (((-4), M))
  ) else (
  if (mI M 11 0 25) = 5000 then (
  some (((-4), M))
  ) else (
  chk (inb a1 (mN M 1230 0)) <|
  bnd (mI M 1230 0 (a1.toNatClampNeg)) fun x17 =>
  Option.bind (fX11_go_l80 a1 M FU x17) fun x25 =>
  chk (inb x25 (mN M 1242 0)) <|
  bnd (mI M 1242 0 (x25.toNatClampNeg)) fun x27 =>
  (fX11_mayFire x27 M).bind fun x28 =>
  if x28 = 0 then (
  some (((-9), M))
  ) else (
  (fX11_fires x27 M).bind fun (x31, M33) =>
  if x31 = 1 then (
  chk (nz4 (mI M33 11 0 43)) <|
  chk (inb a1 (mN M33 1230 0)) <|
  bnd (sI M33 1230 0 (a1.toNatClampNeg) ((x25 + 1) - (x25 + 1) / (mI M33 11 0 43) * (mI M33 11 0 43))) fun M37 =>
  some ((x27, M37))
  ) else (
  some ((x31, M33))
  )
  )
  )
  )
  )
  )
set_option maxHeartbeats 4000000 in
set_option maxRecDepth 100000 in
theorem okX11_go_l15 {g : tG} (z1 : Int32) (M : tM) {r : Option tV} {Mz : tM} : ∀ (n : Nat) (y2 : Int32) (y3 : Int32) (w : Int32), fX11_go_l15 z1 M n y2 y3 = some w → (∀ (w2 : Int32), w2 = w → TW g iX11_go rmX11_go 0 0 r Mz 0 0 49 [(0, tr 11 0), (1, ti z1), (2, ti w2)] [] M) → TW g iX11_go rmX11_go 0 0 r Mz 0 0 15 [(0, tr 11 0), (1, ti z1), (2, ti y2), (3, ti y3)] [] M := by
  intro n
  induction n with
  | zero => intro y2 y3 w h; cases h
  | succ n ih =>
    intro y2 y3 w h J
    rw [fX11_go_l15] at h
    refine tm_iload_n dX11_go_15 rfl rfl ?_
    refine tm_aload_n dX11_go_16 rfl rfl ?_
    refine tm_get kX11 rfl (j := 2) (by decide) wfX11_202 dX11_go_17 (v := ti (mI M 11 0 2)) rfl ?_
    refine tm_icmp_ge (tgt := 49) dX11_go_20 (by decide) (fun c4 => ?_) (fun c4 => ?_)
    · rw [if_pos c4] at h
      obtain rfl := Option.some.inj h
      refine tm_lcp [0, 1, 2] rfl ?_
      exact J _ rfl
    · rw [if_neg c4] at h
      refine tm_iload_n dX11_go_23 rfl rfl ?_
      obtain ⟨x6, hE7, h⟩ := obind_some h
      have J8 : TW g iX11_go rmX11_go 0 0 r Mz 0 0 42 [(0, tr 11 0), (1, ti z1), (3, ti y3)] [ti x6] M := by
        refine tm_istore_n (lc' := [(2, ti x6), (0, tr 11 0), (1, ti z1), (3, ti y3)]) dX11_go_42 rfl (by decide) rfl ?_
        obtain ⟨x9, ex9, h⟩ := bnd_some h
        refine tm_iinc (v := x9) (lc' := [(3, ti x9), (2, ti x6), (0, tr 11 0), (1, ti z1)]) dX11_go_43 rfl (by rw [ex9]; rfl) (by decide) rfl ?_
        refine tm_goto (tgt := 15) dX11_go_46 (by decide) ?_
        refine tm_lcp [0, 1, 2, 3] rfl ?_
        exact ih x6 x9 _ h J
      refine tm_if_ne (tgt := 37) dX11_go_24 (by decide) (fun c5 => ?_) (fun c5 => ?_)
      · rw [if_neg c5] at hE7
        refine tm_iconst (v := 1) dX11_go_37 (by decide) ?_
        refine tm_goto (tgt := 42) dX11_go_38 (by decide) ?_
        obtain rfl := Option.some.inj hE7
        refine tm_lcp [0, 1, 3] rfl ?_
        exact J8
      · rw [if_pos c5] at hE7
        refine tm_aload_n dX11_go_27 rfl rfl ?_
        refine tm_get kX11 rfl (j := 11) (by decide) wfX11_38 dX11_go_28 (v := tr 1211 0) rfl ?_
        refine tm_iload_n dX11_go_31 rfl rfl ?_
        obtain ⟨b6, hE7⟩ := chk_some hE7
        refine tm_iald rfl dX11_go_32 (inb_vp b6) ?_
        refine tm_iload_n dX11_go_33 rfl rfl ?_
        refine tm_icmp_ne (tgt := 41) dX11_go_34 (by decide) (fun c7 => ?_) (fun c7 => ?_)
        · rw [if_neg c7] at hE7
          refine tm_iconst (v := 0) dX11_go_41 (by decide) ?_
          obtain rfl := Option.some.inj hE7
          refine tm_lcp [0, 1, 3] rfl ?_
          exact J8
        · rw [if_pos c7] at hE7
          refine tm_iconst (v := 1) dX11_go_37 (by decide) ?_
          refine tm_goto (tgt := 42) dX11_go_38 (by decide) ?_
          obtain rfl := Option.some.inj hE7
          refine tm_lcp [0, 1, 3] rfl ?_
          exact J8
set_option maxHeartbeats 4000000 in
set_option maxRecDepth 100000 in
theorem okX11_go_l80 {g : tG} (z1 : Int32) (M : tM) {r : Option tV} {Mz : tM} : ∀ (n : Nat) (y3 : Int32) (w : Int32), fX11_go_l80 z1 M n y3 = some w → (∀ (w3 : Int32), w3 = w → TW g iX11_go rmX11_go 0 0 r Mz 0 0 107 [(0, tr 11 0), (1, ti z1), (3, ti w3)] [] M) → TW g iX11_go rmX11_go 0 0 r Mz 0 0 80 [(0, tr 11 0), (1, ti z1), (3, ti y3)] [] M := by
  intro n
  induction n with
  | zero => intro y3 w h; cases h
  | succ n ih =>
    intro y3 w h J
    rw [fX11_go_l80] at h
    refine tm_aload_n dX11_go_80 rfl rfl ?_
    refine tm_get kX11 rfl (j := 11) (by decide) wfX11_38 dX11_go_81 (v := tr 1211 0) rfl ?_
    refine tm_aload_n dX11_go_84 rfl rfl ?_
    refine tm_get kX11 rfl (j := 42) (by decide) wfX11_110 dX11_go_85 (v := tr 1242 0) rfl ?_
    refine tm_iload_n dX11_go_88 rfl rfl ?_
    obtain ⟨b18, h⟩ := chk_some h
    refine tm_iald rfl dX11_go_89 (inb_vp b18) ?_
    obtain ⟨b19, h⟩ := chk_some h
    refine tm_iald rfl dX11_go_90 (inb_vp b19) ?_
    refine tm_iload_n dX11_go_91 rfl rfl ?_
    refine tm_icmp_eq (tgt := 107) dX11_go_92 (by decide) (fun c20 => ?_) (fun c20 => ?_)
    · rw [if_pos c20] at h
      obtain rfl := Option.some.inj h
      refine tm_lcp [0, 1, 3] rfl ?_
      exact J _ rfl
    · rw [if_neg c20] at h
      refine tm_iload_n dX11_go_95 rfl rfl ?_
      refine tm_iconst (v := 1) dX11_go_96 (by decide) ?_
      refine tm_iadd dX11_go_97 ?_
      refine tm_aload_n dX11_go_98 rfl rfl ?_
      refine tm_get kX11 rfl (j := 43) (by decide) wfX11_113 dX11_go_99 (v := ti (mI M 11 0 43)) rfl ?_
      obtain ⟨b21, h⟩ := chk_some h
      refine tm_irem dX11_go_102 (nz4_ne b21) ?_
      obtain ⟨x22, ex22, h⟩ := bnd_some h
      refine tm_nmI ex22 ?_
      refine tm_istore_n (lc' := [(3, ti x22), (0, tr 11 0), (1, ti z1)]) dX11_go_103 rfl (by decide) rfl ?_
      refine tm_goto (tgt := 80) dX11_go_104 (by decide) ?_
      refine tm_lcp [0, 1, 3] rfl ?_
      exact ih x22 _ h J
set_option maxHeartbeats 4000000 in
set_option maxRecDepth 100000 in
theorem okX11_go {g : tG} {a1 : Int32} {M : tM} {v : Int32} {Mz : tM} (h : fX11_go a1 M = some ((v, Mz))) : TMet g yX11_go (Cond.code yX11_go cX11_go 6 (some .int) :: tgd) rmX11_go [tr 11 0, ti a1] M (some (ti v)) Mz 0 0 := by
  have key : TW g iX11_go rmX11_go 0 0 (some (ti v)) Mz 0 0 0 [(0, tr 11 0), (1, ti a1)] [] M := by
    rw [fX11_go] at h
    refine tm_iload_n dX11_go_0 rfl rfl ?_
    refine tm_iconst (v := 0) dX11_go_1 (by decide) ?_
    refine tm_iconst (v := 3) dX11_go_2 (by decide) ?_
    obtain ⟨x1, hc2, h⟩ := obind_some h
    refine tm_callS (avs := [ti a1, ti 0, ti 3]) (st := []) (okX11_in hc2) wcX11_205.1 wcX11_205.2.1 wcX11_205.2.2 ⟨rfl, rfl, Nat.le_of_ble_eq_true rfl, Nat.le_of_ble_eq_true rfl⟩ rfl (Nat.le_of_ble_eq_true rfl) ⟨Nat.zero_le _, Nat.zero_le _⟩ dX11_go_3 ?_
    refine tm_if_ne (tgt := 11) dX11_go_6 (by decide) (fun c3 => ?_) (fun c3 => ?_)
    · rw [if_neg c3] at h
      refine tm_iconst (v := 0) dX11_go_11 (by decide) ?_
      refine tm_istore_n (lc' := [(2, ti 0), (0, tr 11 0), (1, ti a1)]) dX11_go_12 rfl (by decide) rfl ?_
      refine tm_iconst (v := 0) dX11_go_13 (by decide) ?_
      refine tm_istore_n (lc' := [(3, ti 0), (2, ti 0), (0, tr 11 0), (1, ti a1)]) dX11_go_14 rfl (by decide) rfl ?_
      obtain ⟨w10, hE11, h⟩ := obind_some h
      refine tm_lcp [0, 1, 2, 3] rfl ?_
      refine okX11_go_l15 a1 M FU 0 0 _ hE11 (fun x12 e => ?_)
      subst e
      refine tm_aload_n dX11_go_49 rfl rfl ?_
      refine tm_get kX11 rfl (j := 43) (by decide) wfX11_113 dX11_go_50 (v := ti (mI M 11 0 43)) rfl ?_
      refine tm_if_lt (tgt := 70) dX11_go_53 (by decide) (fun c13 => ?_) (fun c13 => ?_)
      · rw [if_pos c13] at h
        refine tm_bipush (v := (-4)) dX11_go_70 (by decide) ?_
        obtain ⟨rfl, rfl⟩ := pj2 h
        exact tm_iret rfl dX11_go_72
      · rw [if_neg c13] at h
        refine tm_iload_n dX11_go_56 rfl rfl ?_
        refine tm_if_eq (tgt := 70) dX11_go_57 (by decide) (fun c14 => ?_) (fun c14 => ?_)
        · rw [if_pos c14] at h
          refine tm_bipush (v := (-4)) dX11_go_70 (by decide) ?_
          obtain ⟨rfl, rfl⟩ := pj2 h
          exact tm_iret rfl dX11_go_72
        · rw [if_neg c14] at h
          refine tm_aload_n dX11_go_60 rfl rfl ?_
          refine tm_get kX11 rfl (j := 25) (by decide) wfX11_212 dX11_go_61 (v := ti (mI M 11 0 25)) rfl ?_
          refine tm_sipush (v := 5000) dX11_go_64 (by decide) ?_
          refine tm_icmp_ne (tgt := 73) dX11_go_67 (by decide) (fun c15 => ?_) (fun c15 => ?_)
          · rw [if_neg c15] at h
            refine tm_aload_n dX11_go_73 rfl rfl ?_
            refine tm_get kX11 rfl (j := 30) (by decide) wfX11_80 dX11_go_74 (v := tr 1230 0) rfl ?_
            refine tm_iload_n dX11_go_77 rfl rfl ?_
            obtain ⟨b16, h⟩ := chk_some h
            refine tm_iald rfl dX11_go_78 (inb_vp b16) ?_
            obtain ⟨x17, ex17, h⟩ := bnd_some h
            refine tm_nmI ex17 ?_
            refine tm_istore_n (lc' := [(3, ti x17), (0, tr 11 0), (1, ti a1), (2, ti x12)]) dX11_go_79 rfl (by decide) rfl ?_
            obtain ⟨w23, hE24, h⟩ := obind_some h
            refine tm_lcp [0, 1, 3] rfl ?_
            refine okX11_go_l80 a1 M FU x17 _ hE24 (fun x25 e => ?_)
            subst e
            refine tm_aload_n dX11_go_107 rfl rfl ?_
            refine tm_get kX11 rfl (j := 42) (by decide) wfX11_110 dX11_go_108 (v := tr 1242 0) rfl ?_
            refine tm_iload_n dX11_go_111 rfl rfl ?_
            obtain ⟨b26, h⟩ := chk_some h
            refine tm_iald rfl dX11_go_112 (inb_vp b26) ?_
            obtain ⟨x27, ex27, h⟩ := bnd_some h
            refine tm_nmI ex27 ?_
            refine tm_istore (lc' := [(4, ti x27), (0, tr 11 0), (1, ti a1), (3, ti x25)]) dX11_go_113 (by decide) rfl ?_
            refine tm_aload_n dX11_go_115 rfl rfl ?_
            refine tm_iload dX11_go_116 rfl ?_
            obtain ⟨x28, hc29, h⟩ := obind_some h
            refine tm_callV kX11 rfl (avs := [ti x27]) (st := []) (okX11_mayFire hc29) wcX11_399.1 wcX11_399.2.1 wcX11_399.2.2.1 wcX11_399.2.2.2 ⟨rfl, rfl, Nat.le_of_ble_eq_true rfl, Nat.le_of_ble_eq_true rfl⟩ rfl (Nat.le_of_ble_eq_true rfl) ⟨Nat.zero_le _, Nat.zero_le _⟩ dX11_go_118 ?_
            refine tm_if_ne (tgt := 127) dX11_go_121 (by decide) (fun c30 => ?_) (fun c30 => ?_)
            · rw [if_neg c30] at h
              refine tm_aload_n dX11_go_127 rfl rfl ?_
              refine tm_iload dX11_go_128 rfl ?_
              obtain ⟨⟨x31, M33⟩, hc32, h⟩ := obind_some h
              dsimp only at h
              refine tm_callV kX11 rfl (avs := [ti x27]) (st := []) (okX11_fires hc32) wcX11_440.1 wcX11_440.2.1 wcX11_440.2.2.1 wcX11_440.2.2.2 ⟨rfl, rfl, Nat.le_of_ble_eq_true rfl, Nat.le_of_ble_eq_true rfl⟩ rfl (Nat.le_of_ble_eq_true rfl) ⟨Nat.zero_le _, Nat.zero_le _⟩ dX11_go_130 ?_
              refine tm_istore (lc' := [(5, ti x31), (4, ti x27), (0, tr 11 0), (1, ti a1), (3, ti x25)]) dX11_go_133 (by decide) rfl ?_
              refine tm_iload dX11_go_135 rfl ?_
              refine tm_iconst (v := 1) dX11_go_137 (by decide) ?_
              refine tm_icmp_ne (tgt := 158) dX11_go_138 (by decide) (fun c34 => ?_) (fun c34 => ?_)
              · rw [if_neg c34] at h
                refine tm_iload dX11_go_158 rfl ?_
                obtain ⟨rfl, rfl⟩ := pj2 h
                exact tm_iret rfl dX11_go_160
              · rw [if_pos c34] at h
                refine tm_aload_n dX11_go_141 rfl rfl ?_
                refine tm_get kX11 rfl (j := 30) (by decide) wfX11_80 dX11_go_142 (v := tr 1230 0) rfl ?_
                refine tm_iload_n dX11_go_145 rfl rfl ?_
                refine tm_iload_n dX11_go_146 rfl rfl ?_
                refine tm_iconst (v := 1) dX11_go_147 (by decide) ?_
                refine tm_iadd dX11_go_148 ?_
                refine tm_aload_n dX11_go_149 rfl rfl ?_
                refine tm_get kX11 rfl (j := 43) (by decide) wfX11_113 dX11_go_150 (v := ti (mI M33 11 0 43)) rfl ?_
                obtain ⟨b35, h⟩ := chk_some h
                refine tm_irem dX11_go_153 (nz4_ne b35) ?_
                obtain ⟨b36, h⟩ := chk_some h
                obtain ⟨M37, eM37, h⟩ := bnd_some h
                refine tm_iast rfl dX11_go_154 (inb_vp b36) ?_
                refine tm_nmM eM37 ?_
                refine tm_iload dX11_go_155 rfl ?_
                obtain ⟨rfl, rfl⟩ := pj2 h
                exact tm_iret rfl dX11_go_157
            · rw [if_pos c30] at h
              refine tm_bipush (v := (-9)) dX11_go_124 (by decide) ?_
              obtain ⟨rfl, rfl⟩ := pj2 h
              exact tm_iret rfl dX11_go_126
          · rw [if_pos c15] at h
            refine tm_bipush (v := (-4)) dX11_go_70 (by decide) ?_
            obtain ⟨rfl, rfl⟩ := pj2 h
            exact tm_iret rfl dX11_go_72
    · rw [if_pos c3] at h
      refine tm_iconst (v := (-1)) dX11_go_9 (by decide) ?_
      obtain ⟨rfl, rfl⟩ := pj2 h
      exact tm_iret rfl dX11_go_10
  exact TMet.of (by decide) (Nat.le_of_ble_eq_true rfl) key
