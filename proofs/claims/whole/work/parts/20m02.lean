abbrev iX11_tear : tY := (RX11, cX11_tear, 2, some .int, "tear")
abbrev rmX11_tear : Room := { frames := 2, cells := 0, slots := 0, locals := 43 }
def fX11_tear (a1 : Int32) (M : tM) : Option (Int32 × tM) :=
  (fX11_isPart a1 M).bind fun x1 =>
  if x1 = 0 then (
  some (((-1), M))
  ) else (
  chk (inb a1 (mN M 1203 0)) <|
  if (mI M 1203 0 (a1.toNatClampNeg)) = 5 then (
  chk (inb a1 (mN M 1206 0)) <|
  if 0 ≤ (mI M 1206 0 (a1.toNatClampNeg)) then (
  chk (inb a1 (mN M 1206 0)) <|
  bnd (sI M 1206 0 (a1.toNatClampNeg) (-9)) fun M9 =>
  (fX11_begins M9).bind fun M11 =>
  some ((1, M11))
  ) else (
  (fX11_meets 1 M).bind fun (x12, M14) =>
  some ((x12, M14))
  )
  ) else (
  (fX11_meets 3 M).bind fun (x15, M17) =>
  some ((x15, M17))
  )
  )
set_option maxHeartbeats 4000000 in
set_option maxRecDepth 100000 in
theorem okX11_tear {g : tG} {a1 : Int32} {M : tM} {v : Int32} {Mz : tM} (h : fX11_tear a1 M = some ((v, Mz))) : TMet g yX11_tear (Cond.code yX11_tear cX11_tear 2 (some .int) :: tgd) rmX11_tear [tr 11 0, ti a1] M (some (ti v)) Mz 0 0 := by
  have key : TW g iX11_tear rmX11_tear 0 0 (some (ti v)) Mz 0 0 0 [(0, tr 11 0), (1, ti a1)] [] M := by
    rw [fX11_tear] at h
    refine tm_aload_n dX11_tear_0 rfl rfl ?_
    refine tm_iload_n dX11_tear_1 rfl rfl ?_
    obtain ⟨x1, hc2, h⟩ := obind_some h
    refine tm_callV kX11 rfl (avs := [ti a1]) (st := []) (okX11_isPart hc2) wcX11_228.1 wcX11_228.2.1 wcX11_228.2.2.1 wcX11_228.2.2.2 ⟨rfl, rfl, Nat.le_of_ble_eq_true rfl, Nat.le_of_ble_eq_true rfl⟩ rfl (Nat.le_of_ble_eq_true rfl) ⟨Nat.zero_le _, Nat.zero_le _⟩ dX11_tear_2 ?_
    refine tm_if_ne (tgt := 10) dX11_tear_5 (by decide) (fun c3 => ?_) (fun c3 => ?_)
    · rw [if_neg c3] at h
      refine tm_aload_n dX11_tear_10 rfl rfl ?_
      refine tm_get kX11 rfl (j := 3) (by decide) wfX11_13 dX11_tear_11 (v := tr 1203 0) rfl ?_
      refine tm_iload_n dX11_tear_14 rfl rfl ?_
      obtain ⟨b4, h⟩ := chk_some h
      refine tm_iald rfl dX11_tear_15 (inb_vp b4) ?_
      refine tm_iconst (v := 5) dX11_tear_16 (by decide) ?_
      refine tm_icmp_eq (tgt := 26) dX11_tear_17 (by decide) (fun c5 => ?_) (fun c5 => ?_)
      · rw [if_pos c5] at h
        refine tm_aload_n dX11_tear_26 rfl rfl ?_
        refine tm_get kX11 rfl (j := 6) (by decide) wfX11_23 dX11_tear_27 (v := tr 1206 0) rfl ?_
        refine tm_iload_n dX11_tear_30 rfl rfl ?_
        obtain ⟨b6, h⟩ := chk_some h
        refine tm_iald rfl dX11_tear_31 (inb_vp b6) ?_
        refine tm_if_ge (tgt := 41) dX11_tear_32 (by decide) (fun c7 => ?_) (fun c7 => ?_)
        · rw [if_pos c7] at h
          refine tm_aload_n dX11_tear_41 rfl rfl ?_
          refine tm_get kX11 rfl (j := 6) (by decide) wfX11_23 dX11_tear_42 (v := tr 1206 0) rfl ?_
          refine tm_iload_n dX11_tear_45 rfl rfl ?_
          refine tm_bipush (v := (-9)) dX11_tear_46 (by decide) ?_
          obtain ⟨b8, h⟩ := chk_some h
          obtain ⟨M9, eM9, h⟩ := bnd_some h
          refine tm_iast rfl dX11_tear_48 (inb_vp b8) ?_
          refine tm_nmM eM9 ?_
          refine tm_aload_n dX11_tear_49 rfl rfl ?_
          obtain ⟨M11, hc10, h⟩ := obind_some h
          refine tm_callV kX11 rfl (avs := []) (st := []) (okX11_begins hc10) wcX11_218.1 wcX11_218.2.1 wcX11_218.2.2.1 wcX11_218.2.2.2 ⟨rfl, rfl, Nat.le_of_ble_eq_true rfl, Nat.le_of_ble_eq_true rfl⟩ rfl (Nat.le_of_ble_eq_true rfl) ⟨Nat.zero_le _, Nat.zero_le _⟩ dX11_tear_50 ?_
          refine tm_iconst (v := 1) dX11_tear_53 (by decide) ?_
          obtain ⟨rfl, rfl⟩ := pj2 h
          exact tm_iret rfl dX11_tear_54
        · rw [if_neg c7] at h
          refine tm_aload_n dX11_tear_35 rfl rfl ?_
          refine tm_iconst (v := 1) dX11_tear_36 (by decide) ?_
          obtain ⟨⟨x12, M14⟩, hc13, h⟩ := obind_some h
          dsimp only at h
          refine tm_callV kX11 rfl (avs := [ti 1]) (st := []) (okX11_meets hc13) wcX11_221.1 wcX11_221.2.1 wcX11_221.2.2.1 wcX11_221.2.2.2 ⟨rfl, rfl, Nat.le_of_ble_eq_true rfl, Nat.le_of_ble_eq_true rfl⟩ rfl (Nat.le_of_ble_eq_true rfl) ⟨Nat.zero_le _, Nat.zero_le _⟩ dX11_tear_37 ?_
          obtain ⟨rfl, rfl⟩ := pj2 h
          exact tm_iret rfl dX11_tear_40
      · rw [if_neg c5] at h
        refine tm_aload_n dX11_tear_20 rfl rfl ?_
        refine tm_iconst (v := 3) dX11_tear_21 (by decide) ?_
        obtain ⟨⟨x15, M17⟩, hc16, h⟩ := obind_some h
        dsimp only at h
        refine tm_callV kX11 rfl (avs := [ti 3]) (st := []) (okX11_meets hc16) wcX11_221.1 wcX11_221.2.1 wcX11_221.2.2.1 wcX11_221.2.2.2 ⟨rfl, rfl, Nat.le_of_ble_eq_true rfl, Nat.le_of_ble_eq_true rfl⟩ rfl (Nat.le_of_ble_eq_true rfl) ⟨Nat.zero_le _, Nat.zero_le _⟩ dX11_tear_22 ?_
        obtain ⟨rfl, rfl⟩ := pj2 h
        exact tm_iret rfl dX11_tear_25
    · rw [if_pos c3] at h
      refine tm_iconst (v := (-1)) dX11_tear_8 (by decide) ?_
      obtain ⟨rfl, rfl⟩ := pj2 h
      exact tm_iret rfl dX11_tear_9
  exact TMet.of (by decide) (Nat.le_of_ble_eq_true rfl) key
abbrev iX11_tells : tY := (RX11, cX11_tells, 3, some .int, "tells")
abbrev rmX11_tells : Room := { frames := 0, cells := 0, slots := 0, locals := 0 }
def fX11_tells (a1 : Int32) (a2 : Int32) (M : tM) : Option (Int32) :=
  if a2 = 0 then (
  chk (inb a1 (mN M 1203 0)) <|
  some (mI M 1203 0 (a1.toNatClampNeg))
  ) else (
  if a2 = 1 then (
  chk (inb a1 (mN M 1205 0)) <|
  some (mI M 1205 0 (a1.toNatClampNeg))
  ) else (
  if a2 = 2 then (
  chk (inb a1 (mN M 1210 0)) <|
  some (mI M 1210 0 (a1.toNatClampNeg))
  ) else (
  if a2 = 3 then (
  chk (inb a1 (mN M 1211 0)) <|
  some (mI M 1211 0 (a1.toNatClampNeg))
  ) else (
  chk (inb a1 (mN M 1206 0)) <|
  some (mI M 1206 0 (a1.toNatClampNeg))
  )
  )
  )
  )
set_option maxHeartbeats 4000000 in
set_option maxRecDepth 100000 in
theorem okX11_tells {g : tG} {a1 : Int32} {a2 : Int32} {M : tM} {v : Int32} (h : fX11_tells a1 a2 M = some v) : TMet g yX11_tells (Cond.code yX11_tells cX11_tells 3 (some .int) :: tgd) rmX11_tells [tr 11 0, ti a1, ti a2] M (some (ti v)) M 0 0 := by
  have key : TW g iX11_tells rmX11_tells 0 0 (some (ti v)) M 0 0 0 [(0, tr 11 0), (1, ti a1), (2, ti a2)] [] M := by
    rw [fX11_tells] at h
    refine tm_iload_n dX11_tells_0 rfl rfl ?_
    refine tm_if_ne (tgt := 13) dX11_tells_1 (by decide) (fun c1 => ?_) (fun c1 => ?_)
    · rw [if_neg c1] at h
      refine tm_iload_n dX11_tells_13 rfl rfl ?_
      refine tm_iconst (v := 1) dX11_tells_14 (by decide) ?_
      refine tm_icmp_ne (tgt := 27) dX11_tells_15 (by decide) (fun c2 => ?_) (fun c2 => ?_)
      · rw [if_neg c2] at h
        refine tm_iload_n dX11_tells_27 rfl rfl ?_
        refine tm_iconst (v := 2) dX11_tells_28 (by decide) ?_
        refine tm_icmp_ne (tgt := 41) dX11_tells_29 (by decide) (fun c3 => ?_) (fun c3 => ?_)
        · rw [if_neg c3] at h
          refine tm_iload_n dX11_tells_41 rfl rfl ?_
          refine tm_iconst (v := 3) dX11_tells_42 (by decide) ?_
          refine tm_icmp_ne (tgt := 55) dX11_tells_43 (by decide) (fun c4 => ?_) (fun c4 => ?_)
          · rw [if_neg c4] at h
            refine tm_aload_n dX11_tells_55 rfl rfl ?_
            refine tm_get kX11 rfl (j := 6) (by decide) wfX11_23 dX11_tells_56 (v := tr 1206 0) rfl ?_
            refine tm_iload_n dX11_tells_59 rfl rfl ?_
            obtain ⟨b5, h⟩ := chk_some h
            refine tm_iald rfl dX11_tells_60 (inb_vp b5) ?_
            obtain rfl := Option.some.inj h
            exact tm_iret rfl dX11_tells_61
          · rw [if_pos c4] at h
            refine tm_aload_n dX11_tells_46 rfl rfl ?_
            refine tm_get kX11 rfl (j := 11) (by decide) wfX11_38 dX11_tells_47 (v := tr 1211 0) rfl ?_
            refine tm_iload_n dX11_tells_50 rfl rfl ?_
            obtain ⟨b6, h⟩ := chk_some h
            refine tm_iald rfl dX11_tells_51 (inb_vp b6) ?_
            refine tm_goto (tgt := 61) dX11_tells_52 (by decide) ?_
            obtain rfl := Option.some.inj h
            exact tm_iret rfl dX11_tells_61
        · rw [if_pos c3] at h
          refine tm_aload_n dX11_tells_32 rfl rfl ?_
          refine tm_get kX11 rfl (j := 10) (by decide) wfX11_35 dX11_tells_33 (v := tr 1210 0) rfl ?_
          refine tm_iload_n dX11_tells_36 rfl rfl ?_
          obtain ⟨b7, h⟩ := chk_some h
          refine tm_iald rfl dX11_tells_37 (inb_vp b7) ?_
          refine tm_goto (tgt := 61) dX11_tells_38 (by decide) ?_
          obtain rfl := Option.some.inj h
          exact tm_iret rfl dX11_tells_61
      · rw [if_pos c2] at h
        refine tm_aload_n dX11_tells_18 rfl rfl ?_
        refine tm_get kX11 rfl (j := 5) (by decide) wfX11_20 dX11_tells_19 (v := tr 1205 0) rfl ?_
        refine tm_iload_n dX11_tells_22 rfl rfl ?_
        obtain ⟨b8, h⟩ := chk_some h
        refine tm_iald rfl dX11_tells_23 (inb_vp b8) ?_
        refine tm_goto (tgt := 61) dX11_tells_24 (by decide) ?_
        obtain rfl := Option.some.inj h
        exact tm_iret rfl dX11_tells_61
    · rw [if_pos c1] at h
      refine tm_aload_n dX11_tells_4 rfl rfl ?_
      refine tm_get kX11 rfl (j := 3) (by decide) wfX11_13 dX11_tells_5 (v := tr 1203 0) rfl ?_
      refine tm_iload_n dX11_tells_8 rfl rfl ?_
      obtain ⟨b9, h⟩ := chk_some h
      refine tm_iald rfl dX11_tells_9 (inb_vp b9) ?_
      refine tm_goto (tgt := 61) dX11_tells_10 (by decide) ?_
      obtain rfl := Option.some.inj h
      exact tm_iret rfl dX11_tells_61
  exact TMet.of (by decide) (Nat.le_of_ble_eq_true rfl) key
theorem wcX11_238 : tCB RX11 238 yX11_tells cX11_tells 3 (some .int) 2 ∧ Cond.methodLink RX11 238 yX11_tells ∈ tgd ∧ Cond.instanceMethod yX11_tells ∈ tgd ∧ Cond.selects RX11 yX11_tells yX11_tells ∈ tgd := ⟨⟨(tgd_t 1527 (by decide +kernel) (by decide +kernel)), (tgd_t 10 (by decide +kernel) (by decide +kernel)), by decide, by decide +kernel⟩, (tgd_t 1524 (by decide +kernel) (by decide +kernel)), (tgd_t 1526 (by decide +kernel) (by decide +kernel)), (tgd_p 60 (by decide +kernel) (by decide +kernel))⟩
abbrev iX11_told : tY := (RX11, cX11_told, 3, some .int, "told")
abbrev rmX11_told : Room := { frames := 2, cells := 0, slots := 0, locals := 43 }
def fX11_told (a1 : Int32) (a2 : Int32) (M : tM) : Option (Int32) :=
  (fX11_isPart a1 M).bind fun x1 =>
  if x1 = 0 then (
  some (-1)
  ) else (
  (fX11_in a2 0 4 M).bind fun x4 =>
  if x4 = 0 then (
  some (-1)
  ) else (
  (fX11_tells a1 a2 M).bind fun x7 =>
  some x7
  )
  )
set_option maxHeartbeats 4000000 in
set_option maxRecDepth 100000 in
theorem okX11_told {g : tG} {a1 : Int32} {a2 : Int32} {M : tM} {v : Int32} (h : fX11_told a1 a2 M = some v) : TMet g yX11_told (Cond.code yX11_told cX11_told 3 (some .int) :: tgd) rmX11_told [tr 11 0, ti a1, ti a2] M (some (ti v)) M 0 0 := by
  have key : TW g iX11_told rmX11_told 0 0 (some (ti v)) M 0 0 0 [(0, tr 11 0), (1, ti a1), (2, ti a2)] [] M := by
    rw [fX11_told] at h
    refine tm_aload_n dX11_told_0 rfl rfl ?_
    refine tm_iload_n dX11_told_1 rfl rfl ?_
    obtain ⟨x1, hc2, h⟩ := obind_some h
    refine tm_callV kX11 rfl (avs := [ti a1]) (st := []) (okX11_isPart hc2) wcX11_228.1 wcX11_228.2.1 wcX11_228.2.2.1 wcX11_228.2.2.2 ⟨rfl, rfl, Nat.le_of_ble_eq_true rfl, Nat.le_of_ble_eq_true rfl⟩ rfl (Nat.le_of_ble_eq_true rfl) ⟨Nat.zero_le _, Nat.zero_le _⟩ dX11_told_2 ?_
    refine tm_if_eq (tgt := 17) dX11_told_5 (by decide) (fun c3 => ?_) (fun c3 => ?_)
    · rw [if_pos c3] at h
      refine tm_iconst (v := (-1)) dX11_told_17 (by decide) ?_
      refine tm_goto (tgt := 27) dX11_told_18 (by decide) ?_
      obtain rfl := Option.some.inj h
      exact tm_iret rfl dX11_told_27
    · rw [if_neg c3] at h
      refine tm_iload_n dX11_told_8 rfl rfl ?_
      refine tm_iconst (v := 0) dX11_told_9 (by decide) ?_
      refine tm_iconst (v := 4) dX11_told_10 (by decide) ?_
      obtain ⟨x4, hc5, h⟩ := obind_some h
      refine tm_callS (avs := [ti a2, ti 0, ti 4]) (st := []) (okX11_in hc5) wcX11_205.1 wcX11_205.2.1 wcX11_205.2.2 ⟨rfl, rfl, Nat.le_of_ble_eq_true rfl, Nat.le_of_ble_eq_true rfl⟩ rfl (Nat.le_of_ble_eq_true rfl) ⟨Nat.zero_le _, Nat.zero_le _⟩ dX11_told_11 ?_
      refine tm_if_ne (tgt := 21) dX11_told_14 (by decide) (fun c6 => ?_) (fun c6 => ?_)
      · rw [if_neg c6] at h
        refine tm_aload_n dX11_told_21 rfl rfl ?_
        refine tm_iload_n dX11_told_22 rfl rfl ?_
        refine tm_iload_n dX11_told_23 rfl rfl ?_
        obtain ⟨x7, hc8, h⟩ := obind_some h
        refine tm_callV kX11 rfl (avs := [ti a1, ti a2]) (st := []) (okX11_tells hc8) wcX11_238.1 wcX11_238.2.1 wcX11_238.2.2.1 wcX11_238.2.2.2 ⟨rfl, rfl, Nat.le_of_ble_eq_true rfl, Nat.le_of_ble_eq_true rfl⟩ rfl (Nat.le_of_ble_eq_true rfl) ⟨Nat.zero_le _, Nat.zero_le _⟩ dX11_told_24 ?_
        obtain rfl := Option.some.inj h
        exact tm_iret rfl dX11_told_27
      · rw [if_pos c6] at h
        refine tm_iconst (v := (-1)) dX11_told_17 (by decide) ?_
        refine tm_goto (tgt := 27) dX11_told_18 (by decide) ?_
        obtain rfl := Option.some.inj h
        exact tm_iret rfl dX11_told_27
  exact TMet.of (by decide) (Nat.le_of_ble_eq_true rfl) key
abbrev iX11_above : tY := (RX11, cX11_above, 1, some .int, "above")
abbrev rmX11_above : Room := { frames := 0, cells := 0, slots := 0, locals := 0 }
def fX11_above (a1 : Int32) (M : tM) : Option (Int32) :=
  if a1 = 0 then (
  some (-9)
  ) else (
  if a1 = 2 then (
  some 1
  ) else (
  if a1 = 3 then (
  some 1
  ) else (
  some 0
  )
  )
  )
set_option maxHeartbeats 4000000 in
set_option maxRecDepth 100000 in
theorem okX11_above {g : tG} {a1 : Int32} {M : tM} {v : Int32} (h : fX11_above a1 M = some v) : TMet g yX11_above (Cond.code yX11_above cX11_above 1 (some .int) :: tgd) rmX11_above [ti a1] M (some (ti v)) M 0 0 := by
  have key : TW g iX11_above rmX11_above 0 0 (some (ti v)) M 0 0 0 [(0, ti a1)] [] M := by
    rw [fX11_above] at h
    refine tm_iload_n dX11_above_0 rfl rfl ?_
    refine tm_if_ne (tgt := 9) dX11_above_1 (by decide) (fun c1 => ?_) (fun c1 => ?_)
    · rw [if_neg c1] at h
      refine tm_iload_n dX11_above_9 rfl rfl ?_
      refine tm_iconst (v := 2) dX11_above_10 (by decide) ?_
      refine tm_icmp_eq (tgt := 19) dX11_above_11 (by decide) (fun c2 => ?_) (fun c2 => ?_)
      · rw [if_pos c2] at h
        refine tm_iconst (v := 1) dX11_above_19 (by decide) ?_
        refine tm_goto (tgt := 24) dX11_above_20 (by decide) ?_
        obtain rfl := Option.some.inj h
        exact tm_iret rfl dX11_above_24
      · rw [if_neg c2] at h
        refine tm_iload_n dX11_above_14 rfl rfl ?_
        refine tm_iconst (v := 3) dX11_above_15 (by decide) ?_
        refine tm_icmp_ne (tgt := 23) dX11_above_16 (by decide) (fun c3 => ?_) (fun c3 => ?_)
        · rw [if_neg c3] at h
          refine tm_iconst (v := 0) dX11_above_23 (by decide) ?_
          obtain rfl := Option.some.inj h
          exact tm_iret rfl dX11_above_24
        · rw [if_pos c3] at h
          refine tm_iconst (v := 1) dX11_above_19 (by decide) ?_
          refine tm_goto (tgt := 24) dX11_above_20 (by decide) ?_
          obtain rfl := Option.some.inj h
          exact tm_iret rfl dX11_above_24
    · rw [if_pos c1] at h
      refine tm_bipush (v := (-9)) dX11_above_4 (by decide) ?_
      refine tm_goto (tgt := 24) dX11_above_6 (by decide) ?_
      obtain rfl := Option.some.inj h
      exact tm_iret rfl dX11_above_24
  exact TMet.of (by decide) (Nat.le_of_ble_eq_true rfl) key
theorem wcX11_242 : tCB RX11 242 yX11_above cX11_above 1 (some .int) 1 ∧ Cond.methodLink RX11 242 yX11_above ∈ tgd ∧ Cond.static yX11_above ∈ tgd := ⟨⟨(tgd_t 1534 (by decide +kernel) (by decide +kernel)), (tgd_t 10 (by decide +kernel) (by decide +kernel)), by decide, by decide +kernel⟩, (tgd_t 1532 (by decide +kernel) (by decide +kernel)), (tgd_t 1533 (by decide +kernel) (by decide +kernel))⟩
abbrev iX11_is : tY := (RX11, cX11_is, 4, some .int, "is")
abbrev rmX11_is : Room := { frames := 2, cells := 0, slots := 0, locals := 43 }
def fX11_is_l26 (z2 : Int32) (M : tM) : Nat → Int32 → Option (Int32)
  | 0, _ => none
  | n + 1, y3 =>
    if y3 = (-9) then (
    some y3
    ) else (
    if y3 = z2 then (
    some y3
    ) else (
    (fX11_above y3 M).bind fun x11 =>
    fX11_is_l26 z2 M n x11
    )
    )
def fX11_is (a1 : Int32) (a2 : Int32) (M : tM) : Option (Int32) :=
  (fX11_isPart a1 M).bind fun x1 =>
  if x1 = 0 then (
  some (-1)
  ) else (
  (fX11_in a2 0 5 M).bind fun x4 =>
  if x4 = 0 then (
  some (-1)
  ) else (
  chk (inb a1 (mN M 1203 0)) <|
  bnd (mI M 1203 0 (a1.toNatClampNeg)) fun x8 =>
  Option.bind (fX11_is_l26 a2 M FU x8) fun x15 =>
  if x15 = a2 then (
  some 1
  ) else (
  some 0
  )
  )
  )
set_option maxHeartbeats 4000000 in
set_option maxRecDepth 100000 in
theorem okX11_is_l26 {g : tG} (z2 : Int32) (M : tM) {r : Option tV} {Mz : tM} : ∀ (n : Nat) (y3 : Int32) (w : Int32), fX11_is_l26 z2 M n y3 = some w → (∀ (w3 : Int32), w3 = w → TW g iX11_is rmX11_is 0 0 r Mz 0 0 45 [(2, ti z2), (3, ti w3)] [] M) → TW g iX11_is rmX11_is 0 0 r Mz 0 0 26 [(2, ti z2), (3, ti y3)] [] M := by
  intro n
  induction n with
  | zero => intro y3 w h; cases h
  | succ n ih =>
    intro y3 w h J
    rw [fX11_is_l26] at h
    refine tm_iload_n dX11_is_26 rfl rfl ?_
    refine tm_bipush (v := (-9)) dX11_is_27 (by decide) ?_
    refine tm_icmp_eq (tgt := 45) dX11_is_29 (by decide) (fun c9 => ?_) (fun c9 => ?_)
    · rw [if_pos c9] at h
      obtain rfl := Option.some.inj h
      refine tm_lcp [2, 3] rfl ?_
      exact J _ rfl
    · rw [if_neg c9] at h
      refine tm_iload_n dX11_is_32 rfl rfl ?_
      refine tm_iload_n dX11_is_33 rfl rfl ?_
      refine tm_icmp_eq (tgt := 45) dX11_is_34 (by decide) (fun c10 => ?_) (fun c10 => ?_)
      · rw [if_pos c10] at h
        obtain rfl := Option.some.inj h
        refine tm_lcp [2, 3] rfl ?_
        exact J _ rfl
      · rw [if_neg c10] at h
        refine tm_iload_n dX11_is_37 rfl rfl ?_
        obtain ⟨x11, hc12, h⟩ := obind_some h
        refine tm_callS (avs := [ti y3]) (st := []) (okX11_above hc12) wcX11_242.1 wcX11_242.2.1 wcX11_242.2.2 ⟨rfl, rfl, Nat.le_of_ble_eq_true rfl, Nat.le_of_ble_eq_true rfl⟩ rfl (Nat.le_of_ble_eq_true rfl) ⟨Nat.zero_le _, Nat.zero_le _⟩ dX11_is_38 ?_
        refine tm_istore_n (lc' := [(3, ti x11), (2, ti z2)]) dX11_is_41 rfl (by decide) rfl ?_
        refine tm_goto (tgt := 26) dX11_is_42 (by decide) ?_
        refine tm_lcp [2, 3] rfl ?_
        exact ih x11 _ h J
set_option maxHeartbeats 4000000 in
set_option maxRecDepth 100000 in
theorem okX11_is {g : tG} {a1 : Int32} {a2 : Int32} {M : tM} {v : Int32} (h : fX11_is a1 a2 M = some v) : TMet g yX11_is (Cond.code yX11_is cX11_is 4 (some .int) :: tgd) rmX11_is [tr 11 0, ti a1, ti a2] M (some (ti v)) M 0 0 := by
  have key : TW g iX11_is rmX11_is 0 0 (some (ti v)) M 0 0 0 [(0, tr 11 0), (1, ti a1), (2, ti a2)] [] M := by
    rw [fX11_is] at h
    refine tm_aload_n dX11_is_0 rfl rfl ?_
    refine tm_iload_n dX11_is_1 rfl rfl ?_
    obtain ⟨x1, hc2, h⟩ := obind_some h
    refine tm_callV kX11 rfl (avs := [ti a1]) (st := []) (okX11_isPart hc2) wcX11_228.1 wcX11_228.2.1 wcX11_228.2.2.1 wcX11_228.2.2.2 ⟨rfl, rfl, Nat.le_of_ble_eq_true rfl, Nat.le_of_ble_eq_true rfl⟩ rfl (Nat.le_of_ble_eq_true rfl) ⟨Nat.zero_le _, Nat.zero_le _⟩ dX11_is_2 ?_
    refine tm_if_eq (tgt := 17) dX11_is_5 (by decide) (fun c3 => ?_) (fun c3 => ?_)
    · rw [if_pos c3] at h
      refine tm_iconst (v := (-1)) dX11_is_17 (by decide) ?_
      obtain rfl := Option.some.inj h
      exact tm_iret rfl dX11_is_18
    · rw [if_neg c3] at h
      refine tm_iload_n dX11_is_8 rfl rfl ?_
      refine tm_iconst (v := 0) dX11_is_9 (by decide) ?_
      refine tm_iconst (v := 5) dX11_is_10 (by decide) ?_
      obtain ⟨x4, hc5, h⟩ := obind_some h
      refine tm_callS (avs := [ti a2, ti 0, ti 5]) (st := []) (okX11_in hc5) wcX11_205.1 wcX11_205.2.1 wcX11_205.2.2 ⟨rfl, rfl, Nat.le_of_ble_eq_true rfl, Nat.le_of_ble_eq_true rfl⟩ rfl (Nat.le_of_ble_eq_true rfl) ⟨Nat.zero_le _, Nat.zero_le _⟩ dX11_is_11 ?_
      refine tm_if_ne (tgt := 19) dX11_is_14 (by decide) (fun c6 => ?_) (fun c6 => ?_)
      · rw [if_neg c6] at h
        refine tm_aload_n dX11_is_19 rfl rfl ?_
        refine tm_get kX11 rfl (j := 3) (by decide) wfX11_13 dX11_is_20 (v := tr 1203 0) rfl ?_
        refine tm_iload_n dX11_is_23 rfl rfl ?_
        obtain ⟨b7, h⟩ := chk_some h
        refine tm_iald rfl dX11_is_24 (inb_vp b7) ?_
        obtain ⟨x8, ex8, h⟩ := bnd_some h
        refine tm_nmI ex8 ?_
        refine tm_istore_n (lc' := [(3, ti x8), (0, tr 11 0), (1, ti a1), (2, ti a2)]) dX11_is_25 rfl (by decide) rfl ?_
        obtain ⟨w13, hE14, h⟩ := obind_some h
        refine tm_lcp [2, 3] rfl ?_
        refine okX11_is_l26 a2 M FU x8 _ hE14 (fun x15 e => ?_)
        subst e
        refine tm_iload_n dX11_is_45 rfl rfl ?_
        refine tm_iload_n dX11_is_46 rfl rfl ?_
        refine tm_icmp_ne (tgt := 54) dX11_is_47 (by decide) (fun c16 => ?_) (fun c16 => ?_)
        · rw [if_neg c16] at h
          refine tm_iconst (v := 0) dX11_is_54 (by decide) ?_
          obtain rfl := Option.some.inj h
          exact tm_iret rfl dX11_is_55
        · rw [if_pos c16] at h
          refine tm_iconst (v := 1) dX11_is_50 (by decide) ?_
          refine tm_goto (tgt := 55) dX11_is_51 (by decide) ?_
          obtain rfl := Option.some.inj h
          exact tm_iret rfl dX11_is_55
      · rw [if_pos c6] at h
        refine tm_iconst (v := (-1)) dX11_is_17 (by decide) ?_
        obtain rfl := Option.some.inj h
        exact tm_iret rfl dX11_is_18
  exact TMet.of (by decide) (Nat.le_of_ble_eq_true rfl) key
abbrev iX11_endsOf : tY := (RX11, cX11_endsOf, 3, some .int, "endsOf")
abbrev rmX11_endsOf : Room := { frames := 0, cells := 0, slots := 0, locals := 0 }
def fX11_endsOf (a1 : Int32) (a2 : Int32) (M : tM) : Option (Int32) :=
  if a2 = 0 then (
  chk (inb a1 (mN M 1213 0)) <|
  some (mI M 1213 0 (a1.toNatClampNeg))
  ) else (
  if a2 = 1 then (
  chk (inb a1 (mN M 1214 0)) <|
  some (mI M 1214 0 (a1.toNatClampNeg))
  ) else (
  if a2 = 2 then (
  chk (inb (4 * a1) (mN M 1215 0)) <|
  some (mI M 1215 0 ((4 * a1).toNatClampNeg))
  ) else (
  if a2 = 3 then (
  chk (inb (4 * a1) (mN M 1216 0)) <|
  some (mI M 1216 0 ((4 * a1).toNatClampNeg))
  ) else (
  chk (inb a1 (mN M 1217 0)) <|
  some (mI M 1217 0 (a1.toNatClampNeg))
  )
  )
  )
  )
set_option maxHeartbeats 4000000 in
set_option maxRecDepth 100000 in
theorem okX11_endsOf {g : tG} {a1 : Int32} {a2 : Int32} {M : tM} {v : Int32} (h : fX11_endsOf a1 a2 M = some v) : TMet g yX11_endsOf (Cond.code yX11_endsOf cX11_endsOf 3 (some .int) :: tgd) rmX11_endsOf [tr 11 0, ti a1, ti a2] M (some (ti v)) M 0 0 := by
  have key : TW g iX11_endsOf rmX11_endsOf 0 0 (some (ti v)) M 0 0 0 [(0, tr 11 0), (1, ti a1), (2, ti a2)] [] M := by
    rw [fX11_endsOf] at h
    refine tm_iload_n dX11_endsOf_0 rfl rfl ?_
    refine tm_if_ne (tgt := 13) dX11_endsOf_1 (by decide) (fun c1 => ?_) (fun c1 => ?_)
    · rw [if_neg c1] at h
      refine tm_iload_n dX11_endsOf_13 rfl rfl ?_
      refine tm_iconst (v := 1) dX11_endsOf_14 (by decide) ?_
      refine tm_icmp_ne (tgt := 27) dX11_endsOf_15 (by decide) (fun c2 => ?_) (fun c2 => ?_)
      · rw [if_neg c2] at h
        refine tm_iload_n dX11_endsOf_27 rfl rfl ?_
        refine tm_iconst (v := 2) dX11_endsOf_28 (by decide) ?_
        refine tm_icmp_ne (tgt := 43) dX11_endsOf_29 (by decide) (fun c3 => ?_) (fun c3 => ?_)
        · rw [if_neg c3] at h
          refine tm_iload_n dX11_endsOf_43 rfl rfl ?_
          refine tm_iconst (v := 3) dX11_endsOf_44 (by decide) ?_
          refine tm_icmp_ne (tgt := 59) dX11_endsOf_45 (by decide) (fun c4 => ?_) (fun c4 => ?_)
          · rw [if_neg c4] at h
            refine tm_aload_n dX11_endsOf_59 rfl rfl ?_
            refine tm_get kX11 rfl (j := 17) (by decide) wfX11_53 dX11_endsOf_60 (v := tr 1217 0) rfl ?_
            refine tm_iload_n dX11_endsOf_63 rfl rfl ?_
            obtain ⟨b5, h⟩ := chk_some h
            refine tm_iald rfl dX11_endsOf_64 (inb_vp b5) ?_
            obtain rfl := Option.some.inj h
            exact tm_iret rfl dX11_endsOf_65
          · rw [if_pos c4] at h
            refine tm_aload_n dX11_endsOf_48 rfl rfl ?_
            refine tm_get kX11 rfl (j := 16) (by decide) wfX11_50 dX11_endsOf_49 (v := tr 1216 0) rfl ?_
            refine tm_iconst (v := 4) dX11_endsOf_52 (by decide) ?_
            refine tm_iload_n dX11_endsOf_53 rfl rfl ?_
            refine tm_imul dX11_endsOf_54 ?_
            obtain ⟨b6, h⟩ := chk_some h
            refine tm_iald rfl dX11_endsOf_55 (inb_vp b6) ?_
            refine tm_goto (tgt := 65) dX11_endsOf_56 (by decide) ?_
            obtain rfl := Option.some.inj h
            exact tm_iret rfl dX11_endsOf_65
        · rw [if_pos c3] at h
          refine tm_aload_n dX11_endsOf_32 rfl rfl ?_
          refine tm_get kX11 rfl (j := 15) (by decide) wfX11_47 dX11_endsOf_33 (v := tr 1215 0) rfl ?_
          refine tm_iconst (v := 4) dX11_endsOf_36 (by decide) ?_
          refine tm_iload_n dX11_endsOf_37 rfl rfl ?_
          refine tm_imul dX11_endsOf_38 ?_
          obtain ⟨b7, h⟩ := chk_some h
          refine tm_iald rfl dX11_endsOf_39 (inb_vp b7) ?_
          refine tm_goto (tgt := 65) dX11_endsOf_40 (by decide) ?_
          obtain rfl := Option.some.inj h
          exact tm_iret rfl dX11_endsOf_65
      · rw [if_pos c2] at h
        refine tm_aload_n dX11_endsOf_18 rfl rfl ?_
        refine tm_get kX11 rfl (j := 14) (by decide) wfX11_44 dX11_endsOf_19 (v := tr 1214 0) rfl ?_
        refine tm_iload_n dX11_endsOf_22 rfl rfl ?_
        obtain ⟨b8, h⟩ := chk_some h
        refine tm_iald rfl dX11_endsOf_23 (inb_vp b8) ?_
        refine tm_goto (tgt := 65) dX11_endsOf_24 (by decide) ?_
        obtain rfl := Option.some.inj h
        exact tm_iret rfl dX11_endsOf_65
    · rw [if_pos c1] at h
      refine tm_aload_n dX11_endsOf_4 rfl rfl ?_
      refine tm_get kX11 rfl (j := 13) (by decide) wfX11_41 dX11_endsOf_5 (v := tr 1213 0) rfl ?_
      refine tm_iload_n dX11_endsOf_8 rfl rfl ?_
      obtain ⟨b9, h⟩ := chk_some h
      refine tm_iald rfl dX11_endsOf_9 (inb_vp b9) ?_
      refine tm_goto (tgt := 65) dX11_endsOf_10 (by decide) ?_
      obtain rfl := Option.some.inj h
      exact tm_iret rfl dX11_endsOf_65
  exact TMet.of (by decide) (Nat.le_of_ble_eq_true rfl) key
theorem wcX11_245 : tCB RX11 245 yX11_endsOf cX11_endsOf 3 (some .int) 2 ∧ Cond.methodLink RX11 245 yX11_endsOf ∈ tgd ∧ Cond.instanceMethod yX11_endsOf ∈ tgd ∧ Cond.selects RX11 yX11_endsOf yX11_endsOf ∈ tgd := ⟨⟨(tgd_t 1542 (by decide +kernel) (by decide +kernel)), (tgd_t 10 (by decide +kernel) (by decide +kernel)), by decide, by decide +kernel⟩, (tgd_t 1539 (by decide +kernel) (by decide +kernel)), (tgd_t 1541 (by decide +kernel) (by decide +kernel)), (tgd_p 61 (by decide +kernel) (by decide +kernel))⟩
abbrev iX11_ends : tY := (RX11, cX11_ends, 3, some .int, "ends")
abbrev rmX11_ends : Room := { frames := 2, cells := 0, slots := 0, locals := 43 }
def fX11_ends (a1 : Int32) (a2 : Int32) (M : tM) : Option (Int32) :=
  (fX11_isLine a1 M).bind fun x1 =>
  if x1 = 0 then (
  some (-1)
  ) else (
  (fX11_in a2 0 4 M).bind fun x4 =>
  if x4 = 0 then (
  some (-1)
  ) else (
  (fX11_endsOf a1 a2 M).bind fun x7 =>
  some x7
  )
  )
set_option maxHeartbeats 4000000 in
set_option maxRecDepth 100000 in
theorem okX11_ends {g : tG} {a1 : Int32} {a2 : Int32} {M : tM} {v : Int32} (h : fX11_ends a1 a2 M = some v) : TMet g yX11_ends (Cond.code yX11_ends cX11_ends 3 (some .int) :: tgd) rmX11_ends [tr 11 0, ti a1, ti a2] M (some (ti v)) M 0 0 := by
  have key : TW g iX11_ends rmX11_ends 0 0 (some (ti v)) M 0 0 0 [(0, tr 11 0), (1, ti a1), (2, ti a2)] [] M := by
    rw [fX11_ends] at h
    refine tm_aload_n dX11_ends_0 rfl rfl ?_
    refine tm_iload_n dX11_ends_1 rfl rfl ?_
    obtain ⟨x1, hc2, h⟩ := obind_some h
    refine tm_callV kX11 rfl (avs := [ti a1]) (st := []) (okX11_isLine hc2) wcX11_232.1 wcX11_232.2.1 wcX11_232.2.2.1 wcX11_232.2.2.2 ⟨rfl, rfl, Nat.le_of_ble_eq_true rfl, Nat.le_of_ble_eq_true rfl⟩ rfl (Nat.le_of_ble_eq_true rfl) ⟨Nat.zero_le _, Nat.zero_le _⟩ dX11_ends_2 ?_
    refine tm_if_eq (tgt := 17) dX11_ends_5 (by decide) (fun c3 => ?_) (fun c3 => ?_)
    · rw [if_pos c3] at h
      refine tm_iconst (v := (-1)) dX11_ends_17 (by decide) ?_
      refine tm_goto (tgt := 27) dX11_ends_18 (by decide) ?_
      obtain rfl := Option.some.inj h
      exact tm_iret rfl dX11_ends_27
    · rw [if_neg c3] at h
      refine tm_iload_n dX11_ends_8 rfl rfl ?_
      refine tm_iconst (v := 0) dX11_ends_9 (by decide) ?_
      refine tm_iconst (v := 4) dX11_ends_10 (by decide) ?_
      obtain ⟨x4, hc5, h⟩ := obind_some h
      refine tm_callS (avs := [ti a2, ti 0, ti 4]) (st := []) (okX11_in hc5) wcX11_205.1 wcX11_205.2.1 wcX11_205.2.2 ⟨rfl, rfl, Nat.le_of_ble_eq_true rfl, Nat.le_of_ble_eq_true rfl⟩ rfl (Nat.le_of_ble_eq_true rfl) ⟨Nat.zero_le _, Nat.zero_le _⟩ dX11_ends_11 ?_
      refine tm_if_ne (tgt := 21) dX11_ends_14 (by decide) (fun c6 => ?_) (fun c6 => ?_)
      · rw [if_neg c6] at h
        refine tm_aload_n dX11_ends_21 rfl rfl ?_
        refine tm_iload_n dX11_ends_22 rfl rfl ?_
        refine tm_iload_n dX11_ends_23 rfl rfl ?_
        obtain ⟨x7, hc8, h⟩ := obind_some h
        refine tm_callV kX11 rfl (avs := [ti a1, ti a2]) (st := []) (okX11_endsOf hc8) wcX11_245.1 wcX11_245.2.1 wcX11_245.2.2.1 wcX11_245.2.2.2 ⟨rfl, rfl, Nat.le_of_ble_eq_true rfl, Nat.le_of_ble_eq_true rfl⟩ rfl (Nat.le_of_ble_eq_true rfl) ⟨Nat.zero_le _, Nat.zero_le _⟩ dX11_ends_24 ?_
        obtain rfl := Option.some.inj h
        exact tm_iret rfl dX11_ends_27
      · rw [if_pos c6] at h
        refine tm_iconst (v := (-1)) dX11_ends_17 (by decide) ?_
        refine tm_goto (tgt := 27) dX11_ends_18 (by decide) ?_
        obtain rfl := Option.some.inj h
        exact tm_iret rfl dX11_ends_27
  exact TMet.of (by decide) (Nat.le_of_ble_eq_true rfl) key
abbrev iX11_divisor : tY := (RX11, cX11_divisor, 10, some .long, "divisor")
abbrev rmX11_divisor : Room := { frames := 0, cells := 0, slots := 0, locals := 0 }
def fX11_divisor_l17  (M : tM) : Nat → Int64 → Int64 → Option (Int64)
  | 0, _, _ => none
  | n + 1, y4, y6 =>
    if (lg_cmp y6 0) = 0 then (
    some y4
    ) else (
    chk (nz8 y6) <|
    bnd (y4 - y4 / y6 * y6) fun x7 =>
    fX11_divisor_l17 M n y6 x7
    )
def fX11_divisor (a1 : Int64) (a2 : Int64) (M : tM) : Option (Int64) :=
  Option.bind (α := Int64) (
  if 0 ≤ (lg_cmp a1 0) then (
  some a1
  ) else (
  some (-a1)
  )
  ) fun x2 =>
  Option.bind (fX11_divisor_l17 M FU x2 a2) fun x10 =>
  some x10
set_option maxHeartbeats 4000000 in
set_option maxRecDepth 100000 in
theorem okX11_divisor_l17 {g : tG}  (M : tM) {r : Option tV} {Mz : tM} : ∀ (n : Nat) (y4 : Int64) (y6 : Int64) (w : Int64), fX11_divisor_l17 M n y4 y6 = some w → (∀ (w4 : Int64), w4 = w → TW g iX11_divisor rmX11_divisor 0 0 r Mz 0 0 42 [(4, tl w4)] [] M) → TW g iX11_divisor rmX11_divisor 0 0 r Mz 0 0 17 [(4, tl y4), (6, tl y6)] [] M := by
  intro n
  induction n with
  | zero => intro y4 y6 w h; cases h
  | succ n ih =>
    intro y4 y6 w h J
    rw [fX11_divisor_l17] at h
    refine tm_lload dX11_divisor_17 rfl ?_
    refine tm_lconst (v := 0) dX11_divisor_19 (by decide) ?_
    refine tm_lcmp dX11_divisor_20 ?_
    refine tm_if_eq (tgt := 42) dX11_divisor_21 (by decide) (fun c5 => ?_) (fun c5 => ?_)
    · rw [if_pos c5] at h
      obtain rfl := Option.some.inj h
      refine tm_lcp [4] rfl ?_
      exact J _ rfl
    · rw [if_neg c5] at h
      refine tm_lload dX11_divisor_24 rfl ?_
      refine tm_lload dX11_divisor_26 rfl ?_
      obtain ⟨b6, h⟩ := chk_some h
      refine tm_lrem dX11_divisor_28 (nz8_ne b6) ?_
      obtain ⟨x7, ex7, h⟩ := bnd_some h
      refine tm_nmL ex7 ?_
      refine tm_lstore (lc' := [(8, tl x7), (4, tl y4), (6, tl y6)]) dX11_divisor_29 (by decide) rfl ?_
      refine tm_lload dX11_divisor_31 rfl ?_
      refine tm_lstore (lc' := [(4, tl y6), (8, tl x7), (6, tl y6)]) dX11_divisor_33 (by decide) rfl ?_
      refine tm_lload dX11_divisor_35 rfl ?_
      refine tm_lstore (lc' := [(6, tl x7), (4, tl y6), (8, tl x7)]) dX11_divisor_37 (by decide) rfl ?_
      refine tm_goto (tgt := 17) dX11_divisor_39 (by decide) ?_
      refine tm_lcp [4, 6] rfl ?_
      exact ih y6 x7 _ h J
set_option maxHeartbeats 4000000 in
set_option maxRecDepth 100000 in
theorem okX11_divisor {g : tG} {a1 : Int64} {a2 : Int64} {M : tM} {v : Int64} (h : fX11_divisor a1 a2 M = some v) : TMet g yX11_divisor (Cond.code yX11_divisor cX11_divisor 10 (some .long) :: tgd) rmX11_divisor [tl a1, tl a2] M (some (tl v)) M 0 0 := by
  have key : TW g iX11_divisor rmX11_divisor 0 0 (some (tl v)) M 0 0 0 [(0, tl a1), (2, tl a2)] [] M := by
    rw [fX11_divisor] at h
    refine tm_lload_n dX11_divisor_0 rfl rfl ?_
    refine tm_lconst (v := 0) dX11_divisor_1 (by decide) ?_
    refine tm_lcmp dX11_divisor_2 ?_
    obtain ⟨x2, hE3, h⟩ := obind_some h
    have J4 : TW g iX11_divisor rmX11_divisor 0 0 (some (tl v)) M 0 0 12 [(2, tl a2)] [tl x2] M := by
      refine tm_lstore (lc' := [(4, tl x2), (2, tl a2)]) dX11_divisor_12 (by decide) rfl ?_
      refine tm_lload_n dX11_divisor_14 rfl rfl ?_
      refine tm_lstore (lc' := [(6, tl a2), (4, tl x2), (2, tl a2)]) dX11_divisor_15 (by decide) rfl ?_
      obtain ⟨w8, hE9, h⟩ := obind_some h
      refine tm_lcp [4, 6] rfl ?_
      refine okX11_divisor_l17 M FU x2 a2 _ hE9 (fun x10 e => ?_)
      subst e
      refine tm_lload dX11_divisor_42 rfl ?_
      obtain rfl := Option.some.inj h
      exact tm_lret rfl dX11_divisor_44
    refine tm_if_ge (tgt := 11) dX11_divisor_3 (by decide) (fun c1 => ?_) (fun c1 => ?_)
    · rw [if_pos c1] at hE3
      refine tm_lload_n dX11_divisor_11 rfl rfl ?_
      obtain rfl := Option.some.inj hE3
      refine tm_lcp [2] rfl ?_
      exact J4
    · rw [if_neg c1] at hE3
      refine tm_lload_n dX11_divisor_6 rfl rfl ?_
      refine tm_lneg dX11_divisor_7 ?_
      refine tm_goto (tgt := 12) dX11_divisor_8 (by decide) ?_
      obtain rfl := Option.some.inj hE3
      refine tm_lcp [2] rfl ?_
      exact J4
  exact TMet.of (by decide) (Nat.le_of_ble_eq_true rfl) key
abbrev iX11_sum : tY := (RX11, cX11_sum, 6, some .int, "sum")
abbrev rmX11_sum : Room := { frames := 0, cells := 0, slots := 0, locals := 0 }
def fX11_sum_l6 (kz1 : Nat) (z1 : Nat) (z2 : Int32) (z3 : Int32) (M : tM) : Nat → Int32 → Int32 → Option (Int32)
  | 0, _, _ => none
  | n + 1, y4, y5 =>
    chk (inb z3 (mN M 1205 0)) <|
    if (mI M 1205 0 (z3.toNatClampNeg)) ≤ y5 then (
    some y4
    ) else (
    chk (tIsI kz1) <|
    chk (inb ((4 * z2) + y5) (mN M kz1 z1)) <|
    bnd (y4 + (mI M kz1 z1 (((4 * z2) + y5).toNatClampNeg))) fun x5 =>
    bnd (y5 + 1) fun x6 =>
    fX11_sum_l6 kz1 z1 z2 z3 M n x5 x6
    )
def fX11_sum (k1 : Nat) (a1 : Nat) (a2 : Int32) (a3 : Int32) (M : tM) : Option (Int32) :=
  Option.bind (fX11_sum_l6 k1 a1 a2 a3 M FU 0 0) fun x9 =>
  some x9
set_option maxHeartbeats 4000000 in
set_option maxRecDepth 100000 in
theorem okX11_sum_l6 {g : tG} (kz1 : Nat) (z1 : Nat) (z2 : Int32) (z3 : Int32) (M : tM) {r : Option tV} {Mz : tM} : ∀ (n : Nat) (y4 : Int32) (y5 : Int32) (w : Int32), fX11_sum_l6 kz1 z1 z2 z3 M n y4 y5 = some w → (∀ (w4 : Int32), w4 = w → TW g iX11_sum rmX11_sum 0 0 r Mz 0 0 36 [(4, ti w4)] [] M) → TW g iX11_sum rmX11_sum 0 0 r Mz 0 0 6 [(0, tr 11 0), (1, tr kz1 z1), (2, ti z2), (3, ti z3), (4, ti y4), (5, ti y5)] [] M := by
  intro n
  induction n with
  | zero => intro y4 y5 w h; cases h
  | succ n ih =>
    intro y4 y5 w h J
    rw [fX11_sum_l6] at h
    refine tm_iload dX11_sum_6 rfl ?_
    refine tm_aload_n dX11_sum_8 rfl rfl ?_
    refine tm_get kX11 rfl (j := 5) (by decide) wfX11_20 dX11_sum_9 (v := tr 1205 0) rfl ?_
    refine tm_iload_n dX11_sum_12 rfl rfl ?_
    obtain ⟨b1, h⟩ := chk_some h
    refine tm_iald rfl dX11_sum_13 (inb_vp b1) ?_
    refine tm_icmp_ge (tgt := 36) dX11_sum_14 (by decide) (fun c2 => ?_) (fun c2 => ?_)
    · rw [if_pos c2] at h
      obtain rfl := Option.some.inj h
      refine tm_lcp [4] rfl ?_
      exact J _ rfl
    · rw [if_neg c2] at h
      refine tm_iload dX11_sum_17 rfl ?_
      refine tm_aload_n dX11_sum_19 rfl rfl ?_
      refine tm_iconst (v := 4) dX11_sum_20 (by decide) ?_
      refine tm_iload_n dX11_sum_21 rfl rfl ?_
      refine tm_imul dX11_sum_22 ?_
      refine tm_iload dX11_sum_23 rfl ?_
      refine tm_iadd dX11_sum_25 ?_
      obtain ⟨b3, h⟩ := chk_some h
      obtain ⟨b4, h⟩ := chk_some h
      refine tm_iald b3 dX11_sum_26 (inb_vp b4) ?_
      refine tm_iadd dX11_sum_27 ?_
      obtain ⟨x5, ex5, h⟩ := bnd_some h
      refine tm_nmI ex5 ?_
      refine tm_istore (lc' := [(4, ti x5), (0, tr 11 0), (1, tr kz1 z1), (2, ti z2), (3, ti z3), (5, ti y5)]) dX11_sum_28 (by decide) rfl ?_
      obtain ⟨x6, ex6, h⟩ := bnd_some h
      refine tm_iinc (v := x6) (lc' := [(5, ti x6), (4, ti x5), (0, tr 11 0), (1, tr kz1 z1), (2, ti z2), (3, ti z3)]) dX11_sum_30 rfl (by rw [ex6]; rfl) (by decide) rfl ?_
      refine tm_goto (tgt := 6) dX11_sum_33 (by decide) ?_
      refine tm_lcp [0, 1, 2, 3, 4, 5] rfl ?_
      exact ih x5 x6 _ h J
set_option maxHeartbeats 4000000 in
set_option maxRecDepth 100000 in
theorem okX11_sum {g : tG} {k1 : Nat} {a1 : Nat} {a2 : Int32} {a3 : Int32} {M : tM} {v : Int32} (h : fX11_sum k1 a1 a2 a3 M = some v) : TMet g yX11_sum (Cond.code yX11_sum cX11_sum 6 (some .int) :: tgd) rmX11_sum [tr 11 0, tr k1 a1, ti a2, ti a3] M (some (ti v)) M 0 0 := by
  have key : TW g iX11_sum rmX11_sum 0 0 (some (ti v)) M 0 0 0 [(0, tr 11 0), (1, tr k1 a1), (2, ti a2), (3, ti a3)] [] M := by
    rw [fX11_sum] at h
    refine tm_iconst (v := 0) dX11_sum_0 (by decide) ?_
    refine tm_istore (lc' := [(4, ti 0), (0, tr 11 0), (1, tr k1 a1), (2, ti a2), (3, ti a3)]) dX11_sum_1 (by decide) rfl ?_
    refine tm_iconst (v := 0) dX11_sum_3 (by decide) ?_
    refine tm_istore (lc' := [(5, ti 0), (4, ti 0), (0, tr 11 0), (1, tr k1 a1), (2, ti a2), (3, ti a3)]) dX11_sum_4 (by decide) rfl ?_
    obtain ⟨w7, hE8, h⟩ := obind_some h
    refine tm_lcp [0, 1, 2, 3, 4, 5] rfl ?_
    refine okX11_sum_l6 k1 a1 a2 a3 M FU 0 0 _ hE8 (fun x9 e => ?_)
    subst e
    refine tm_iload dX11_sum_36 rfl ?_
    obtain rfl := Option.some.inj h
    exact tm_iret rfl dX11_sum_38
  exact TMet.of (by decide) (Nat.le_of_ble_eq_true rfl) key
theorem wcX11_248 : tCB RX11 248 yX11_divisor cX11_divisor 10 (some .long) 2 ∧ Cond.methodLink RX11 248 yX11_divisor ∈ tgd ∧ Cond.static yX11_divisor ∈ tgd := ⟨⟨(tgd_t 1561 (by decide +kernel) (by decide +kernel)), (tgd_t 10 (by decide +kernel) (by decide +kernel)), by decide, by decide +kernel⟩, (tgd_t 1559 (by decide +kernel) (by decide +kernel)), (tgd_t 1560 (by decide +kernel) (by decide +kernel))⟩
theorem wconstlX11_252 : Cond.constantLong RX11 252 1000000 ∈ tgd := (tgd_t 1562 (by decide +kernel) (by decide +kernel))
theorem wfX11_89 : Cond.fieldLink RX11 89 "EvenFlowModel" "upper" "[J" ∈ tgd := (tgd_t 1258 (by decide +kernel) (by decide +kernel))
theorem wfX11_92 : Cond.fieldLink RX11 92 "EvenFlowModel" "lower" "[J" ∈ tgd := (tgd_t 1259 (by decide +kernel) (by decide +kernel))
abbrev iX11_isSmall : tY := (RX11, cX11_isSmall, 9, some .boolean, "isSmall")
abbrev rmX11_isSmall : Room := { frames := 1, cells := 0, slots := 0, locals := 29 }
def fX11_isSmall (a1 : Int32) (a2 : Int32) (M : tM) : Option (Int32) :=
  chk (inb a1 (mN M 1233 0)) <|
  chk (inb a2 (mN M 1234 0)) <|
  bnd ((mL M 1233 0 (a1.toNatClampNeg)) * (mL M 1234 0 (a2.toNatClampNeg))) fun x3 =>
  chk (inb a1 (mN M 1234 0)) <|
  chk (inb a2 (mN M 1233 0)) <|
  bnd ((mL M 1234 0 (a1.toNatClampNeg)) * (mL M 1233 0 (a2.toNatClampNeg))) fun x6 =>
  (fX11_divisor x3 x6 M).bind fun x7 =>
  chk (nz8 x7) <|
  if 0 < (lg_cmp (x3 / x7) 1000000) then (
  some 0
  ) else (
  chk (nz8 x7) <|
  if 0 < (lg_cmp (x6 / x7) 1000000) then (
  some 0
  ) else (
  some 1
  )
  )
set_option maxHeartbeats 4000000 in
set_option maxRecDepth 100000 in
theorem okX11_isSmall {g : tG} {a1 : Int32} {a2 : Int32} {M : tM} {v : Int32} (h : fX11_isSmall a1 a2 M = some v) : TMet g yX11_isSmall (Cond.code yX11_isSmall cX11_isSmall 9 (some .boolean) :: tgd) rmX11_isSmall [tr 11 0, ti a1, ti a2] M (some (ti v)) M 0 0 := by
  have key : TW g iX11_isSmall rmX11_isSmall 0 0 (some (ti v)) M 0 0 0 [(0, tr 11 0), (1, ti a1), (2, ti a2)] [] M := by
    rw [fX11_isSmall] at h
    refine tm_aload_n dX11_isSmall_0 rfl rfl ?_
    refine tm_get kX11 rfl (j := 33) (by decide) wfX11_89 dX11_isSmall_1 (v := tr 1233 0) rfl ?_
    refine tm_iload_n dX11_isSmall_4 rfl rfl ?_
    obtain ⟨b1, h⟩ := chk_some h
    refine tm_lald rfl dX11_isSmall_5 (inb_vp b1) ?_
    refine tm_aload_n dX11_isSmall_6 rfl rfl ?_
    refine tm_get kX11 rfl (j := 34) (by decide) wfX11_92 dX11_isSmall_7 (v := tr 1234 0) rfl ?_
    refine tm_iload_n dX11_isSmall_10 rfl rfl ?_
    obtain ⟨b2, h⟩ := chk_some h
    refine tm_lald rfl dX11_isSmall_11 (inb_vp b2) ?_
    refine tm_lmul dX11_isSmall_12 ?_
    obtain ⟨x3, ex3, h⟩ := bnd_some h
    refine tm_nmL ex3 ?_
    refine tm_lstore_n (lc' := [(3, tl x3), (0, tr 11 0), (1, ti a1), (2, ti a2)]) dX11_isSmall_13 rfl (by decide) rfl ?_
    refine tm_aload_n dX11_isSmall_14 rfl rfl ?_
    refine tm_get kX11 rfl (j := 34) (by decide) wfX11_92 dX11_isSmall_15 (v := tr 1234 0) rfl ?_
    refine tm_iload_n dX11_isSmall_18 rfl rfl ?_
    obtain ⟨b4, h⟩ := chk_some h
    refine tm_lald rfl dX11_isSmall_19 (inb_vp b4) ?_
    refine tm_aload_n dX11_isSmall_20 rfl rfl ?_
    refine tm_get kX11 rfl (j := 33) (by decide) wfX11_89 dX11_isSmall_21 (v := tr 1233 0) rfl ?_
    refine tm_iload_n dX11_isSmall_24 rfl rfl ?_
    obtain ⟨b5, h⟩ := chk_some h
    refine tm_lald rfl dX11_isSmall_25 (inb_vp b5) ?_
    refine tm_lmul dX11_isSmall_26 ?_
    obtain ⟨x6, ex6, h⟩ := bnd_some h
    refine tm_nmL ex6 ?_
    refine tm_lstore (lc' := [(5, tl x6), (3, tl x3), (0, tr 11 0), (1, ti a1), (2, ti a2)]) dX11_isSmall_27 (by decide) rfl ?_
    refine tm_lload_n dX11_isSmall_29 rfl rfl ?_
    refine tm_lload dX11_isSmall_30 rfl ?_
    obtain ⟨x7, hc8, h⟩ := obind_some h
    refine tm_callS (avs := [tl x3, tl x6]) (st := []) (okX11_divisor hc8) wcX11_248.1 wcX11_248.2.1 wcX11_248.2.2 ⟨rfl, rfl, Nat.le_of_ble_eq_true rfl, Nat.le_of_ble_eq_true rfl⟩ rfl (Nat.le_of_ble_eq_true rfl) ⟨Nat.zero_le _, Nat.zero_le _⟩ dX11_isSmall_32 ?_
    refine tm_lstore (lc' := [(7, tl x7), (5, tl x6), (3, tl x3), (0, tr 11 0), (1, ti a1), (2, ti a2)]) dX11_isSmall_35 (by decide) rfl ?_
    refine tm_lload_n dX11_isSmall_37 rfl rfl ?_
    refine tm_lload dX11_isSmall_38 rfl ?_
    obtain ⟨b9, h⟩ := chk_some h
    refine tm_ldiv dX11_isSmall_40 (nz8_ne b9) ?_
    refine tm_ldc2 (v := 1000000) dX11_isSmall_41 wconstlX11_252 ?_
    refine tm_lcmp dX11_isSmall_44 ?_
    refine tm_if_gt (tgt := 64) dX11_isSmall_45 (by decide) (fun c10 => ?_) (fun c10 => ?_)
    · rw [if_pos c10] at h
      refine tm_iconst (v := 0) dX11_isSmall_64 (by decide) ?_
      obtain rfl := Option.some.inj h
      exact tm_zret (by decide) rfl dX11_isSmall_65
    · rw [if_neg c10] at h
      refine tm_lload dX11_isSmall_48 rfl ?_
      refine tm_lload dX11_isSmall_50 rfl ?_
      obtain ⟨b11, h⟩ := chk_some h
      refine tm_ldiv dX11_isSmall_52 (nz8_ne b11) ?_
      refine tm_ldc2 (v := 1000000) dX11_isSmall_53 wconstlX11_252 ?_
      refine tm_lcmp dX11_isSmall_56 ?_
      refine tm_if_gt (tgt := 64) dX11_isSmall_57 (by decide) (fun c12 => ?_) (fun c12 => ?_)
      · rw [if_pos c12] at h
        refine tm_iconst (v := 0) dX11_isSmall_64 (by decide) ?_
        obtain rfl := Option.some.inj h
        exact tm_zret (by decide) rfl dX11_isSmall_65
      · rw [if_neg c12] at h
        refine tm_iconst (v := 1) dX11_isSmall_60 (by decide) ?_
        refine tm_goto (tgt := 65) dX11_isSmall_61 (by decide) ?_
        obtain rfl := Option.some.inj h
        exact tm_zret (by decide) rfl dX11_isSmall_65
  exact TMet.of (by decide) (Nat.le_of_ble_eq_true rfl) key
theorem wcX11_254 : tCB RX11 254 yX11_isSmall cX11_isSmall 9 (some .boolean) 2 ∧ Cond.methodLink RX11 254 yX11_isSmall ∈ tgd ∧ Cond.instanceMethod yX11_isSmall ∈ tgd ∧ Cond.selects RX11 yX11_isSmall yX11_isSmall ∈ tgd := ⟨⟨(tgd_t 1566 (by decide +kernel) (by decide +kernel)), (tgd_t 10 (by decide +kernel) (by decide +kernel)), by decide, by decide +kernel⟩, (tgd_t 1563 (by decide +kernel) (by decide +kernel)), (tgd_t 1565 (by decide +kernel) (by decide +kernel)), (tgd_p 65 (by decide +kernel) (by decide +kernel))⟩
theorem wfX11_86 : Cond.fieldLink RX11 86 "EvenFlowModel" "group" "[I" ∈ tgd := (tgd_t 1257 (by decide +kernel) (by decide +kernel))
abbrev iX11_isTied : tY := (RX11, cX11_isTied, 22, some .boolean, "isTied")
abbrev rmX11_isTied : Room := { frames := 2, cells := 0, slots := 0, locals := 57 }
def fX11_isTied_l74 (z1 : Int32) (z5 : Int64) (z7 : Int64) (z11 : Int32) : Nat → Int32 → Int32 → tM → Option (Int32 × tM)
  | 0, _, _, _ => none
  | n + 1, y12, y13, M =>
    if (mI M 11 0 2) ≤ y13 then (
    some ((y12, M))
    ) else (
    chk (inb y13 (mN M 1232 0)) <|
    Option.bind (α := Int32 × tM) (
    if (mI M 1232 0 (y13.toNatClampNeg)) = z11 then (
    chk (inb y13 (mN M 1233 0)) <|
    bnd (mL M 1233 0 (y13.toNatClampNeg)) fun x19 =>
    chk (inb y13 (mN M 1234 0)) <|
    bnd (mL M 1234 0 (y13.toNatClampNeg)) fun x21 =>
    (fX11_divisor x19 z7 M).bind fun x22 =>
    (fX11_divisor z5 x21 M).bind fun x24 =>
    Option.bind (α := Int32) (
    if y12 = 0 then (
    some 0
    ) else (
    chk (nz8 x22) <|
    chk (nz8 x24) <|
    chk (nz8 (z5 / x24)) <|
    if 0 < (lg_cmp (x19 / x22) (1000000 / (z5 / x24))) then (
    some 0
    ) else (
    chk (nz8 x24) <|
    chk (nz8 x22) <|
    chk (nz8 (z7 / x22)) <|
    if 0 < (lg_cmp (x21 / x24) (1000000 / (z7 / x22))) then (
    some 0
    ) else (
    some 1
    )
    )
    )
    ) fun x27 =>
    Option.bind (α := Int64) (
    if x27 = 0 then (
    some 1
    ) else (
    chk (nz8 x22) <|
    chk (nz8 x24) <|
    some ((x19 / x22) * (z5 / x24))
    )
    ) fun x36 =>
    chk (inb y13 (mN M 1233 0)) <|
    bnd (sL M 1233 0 (y13.toNatClampNeg) x36) fun M40 =>
    Option.bind (α := Int64) (
    if x27 = 0 then (
    some 1
    ) else (
    chk (nz8 x24) <|
    chk (nz8 x22) <|
    some ((x21 / x24) * (z7 / x22))
    )
    ) fun x42 =>
    chk (inb y13 (mN M40 1234 0)) <|
    bnd (sL M40 1234 0 (y13.toNatClampNeg) x42) fun M46 =>
    chk (inb z1 (mN M46 1232 0)) <|
    chk (inb y13 (mN M46 1232 0)) <|
    bnd (sI M46 1232 0 (y13.toNatClampNeg) (mI M46 1232 0 (z1.toNatClampNeg))) fun M49 =>
    some ((x27, M49))
    ) else (
    some ((y12, M))
    )
    ) fun (x18, M19) =>
    bnd (y13 + 1) fun x50 =>
    fX11_isTied_l74 z1 z5 z7 z11 n x18 x50 M19
    )
def fX11_isTied_l272 (z1 : Int32) (z13 : Int32) (M : tM) : Nat → Int32 → Int32 → Option (Int32)
  | 0, _, _ => none
  | n + 1, y12, y14 =>
    if z13 ≤ y14 then (
    some y12
    ) else (
    if y12 = 0 then (
    some y12
    ) else (
    chk (inb z13 (mN M 1232 0)) <|
    chk (inb z1 (mN M 1232 0)) <|
    Option.bind (α := Int32) (
    if (mI M 1232 0 (z13.toNatClampNeg)) = (mI M 1232 0 (z1.toNatClampNeg)) then (
    chk (inb y14 (mN M 1232 0)) <|
    chk (inb z1 (mN M 1232 0)) <|
    if (mI M 1232 0 (y14.toNatClampNeg)) = (mI M 1232 0 (z1.toNatClampNeg)) then (
    (fX11_isSmall z13 y14 M).bind fun x65 =>
    if x65 = 0 then (
    some 0
    ) else (
    some 1
    )
    ) else (
    some 1
    )
    ) else (
    some 1
    )
    ) fun x62 =>
    bnd (y14 + 1) fun x68 =>
    fX11_isTied_l272 z1 z13 M n x62 x68
    )
    )
def fX11_isTied_l255 (z1 : Int32) (M : tM) : Nat → Int32 → Int32 → Option (Int32)
  | 0, _, _ => none
  | n + 1, y12, y13 =>
    if (mI M 11 0 2) ≤ y13 then (
    some y12
    ) else (
    if y12 = 0 then (
    some y12
    ) else (
    Option.bind (fX11_isTied_l272 z1 y13 M FU y12 0) fun x71 =>
    bnd (y13 + 1) fun x72 =>
    fX11_isTied_l255 z1 M n x71 x72
    )
    )
def fX11_isTied (a1 : Int32) (a2 : Int32) (a3 : Int32) (a4 : Int32) (M : tM) : Option (Int32 × tM) :=
  chk (inb a1 (mN M 1233 0)) <|
  chk (inb a3 (mN M 1234 0)) <|
  bnd (((mL M 1233 0 (a1.toNatClampNeg)) * (a2.toInt64)) * (mL M 1234 0 (a3.toNatClampNeg))) fun x3 =>
  chk (inb a1 (mN M 1234 0)) <|
  chk (inb a3 (mN M 1233 0)) <|
  bnd (((mL M 1234 0 (a1.toNatClampNeg)) * (a4.toInt64)) * (mL M 1233 0 (a3.toNatClampNeg))) fun x6 =>
  (fX11_divisor x3 x6 M).bind fun x7 =>
  chk (nz8 x7) <|
  bnd (x3 / x7) fun x10 =>
  chk (nz8 x7) <|
  bnd (x6 / x7) fun x12 =>
  chk (inb a3 (mN M 1232 0)) <|
  bnd (mI M 1232 0 (a3.toNatClampNeg)) fun x14 =>
  Option.bind (fX11_isTied_l74 a1 x10 x12 x14 FU 1 0 M) fun (x53, M54) =>
  Option.bind (fX11_isTied_l255 a1 M54 FU x53 0) fun x75 =>
  chk (tb x75) <|
  some ((x75, M54))
set_option maxHeartbeats 4000000 in
set_option maxRecDepth 100000 in
theorem okX11_isTied_l74 {g : tG} (z1 : Int32) (z5 : Int64) (z7 : Int64) (z11 : Int32) {r : Option tV} {Mz : tM} : ∀ (n : Nat) (y12 : Int32) (y13 : Int32) (M : tM) (w : Int32 × tM), fX11_isTied_l74 z1 z5 z7 z11 n y12 y13 M = some w → (∀ (w12 : Int32) (Mw : tM), (w12, Mw) = w → TW g iX11_isTied rmX11_isTied 0 0 r Mz 0 0 252 [(0, tr 11 0), (1, ti z1), (12, ti w12)] [] Mw) → TW g iX11_isTied rmX11_isTied 0 0 r Mz 0 0 74 [(0, tr 11 0), (1, ti z1), (5, tl z5), (7, tl z7), (11, ti z11), (12, ti y12), (13, ti y13)] [] M := by
  intro n
  induction n with
  | zero => intro y12 y13 M w h; cases h
  | succ n ih =>
    intro y12 y13 M w h J
    rw [fX11_isTied_l74] at h
    refine tm_iload dX11_isTied_74 rfl ?_
    refine tm_aload_n dX11_isTied_76 rfl rfl ?_
    refine tm_get kX11 rfl (j := 2) (by decide) wfX11_202 dX11_isTied_77 (v := ti (mI M 11 0 2)) rfl ?_
    refine tm_icmp_ge (tgt := 252) dX11_isTied_80 (by decide) (fun c15 => ?_) (fun c15 => ?_)
    · rw [if_pos c15] at h
      obtain rfl := Option.some.inj h
      refine tm_lcp [0, 1, 12] rfl ?_
      exact J _ _ rfl
    · rw [if_neg c15] at h
      refine tm_aload_n dX11_isTied_83 rfl rfl ?_
      refine tm_get kX11 rfl (j := 32) (by decide) wfX11_86 dX11_isTied_84 (v := tr 1232 0) rfl ?_
      refine tm_iload dX11_isTied_87 rfl ?_
      obtain ⟨b16, h⟩ := chk_some h
      refine tm_iald rfl dX11_isTied_89 (inb_vp b16) ?_
      refine tm_iload dX11_isTied_90 rfl ?_
      obtain ⟨⟨x18, M19⟩, hE20, h⟩ := obind_some h
      dsimp only at h
      have J21 : TW g iX11_isTied rmX11_isTied 0 0 r Mz 0 0 246 [(0, tr 11 0), (1, ti z1), (5, tl z5), (7, tl z7), (11, ti z11), (12, ti x18), (13, ti y13)] [] M19 := by
        obtain ⟨x50, ex50, h⟩ := bnd_some h
        refine tm_iinc (v := x50) (lc' := [(13, ti x50), (0, tr 11 0), (1, ti z1), (5, tl z5), (7, tl z7), (11, ti z11), (12, ti x18)]) dX11_isTied_246 rfl (by rw [ex50]; rfl) (by decide) rfl ?_
        refine tm_goto (tgt := 74) dX11_isTied_249 (by decide) ?_
        refine tm_lcp [0, 1, 5, 7, 11, 12, 13] rfl ?_
        exact ih x18 x50 M19 _ h J
      refine tm_icmp_ne (tgt := 246) dX11_isTied_92 (by decide) (fun c17 => ?_) (fun c17 => ?_)
      · rw [if_neg c17] at hE20
        obtain ⟨rfl, rfl⟩ := pj2 hE20
        refine tm_lcp [0, 1, 5, 7, 11, 12, 13] rfl ?_
        exact J21
      · rw [if_pos c17] at hE20
        refine tm_aload_n dX11_isTied_95 rfl rfl ?_
        refine tm_get kX11 rfl (j := 33) (by decide) wfX11_89 dX11_isTied_96 (v := tr 1233 0) rfl ?_
        refine tm_iload dX11_isTied_99 rfl ?_
        obtain ⟨b18, hE20⟩ := chk_some hE20
        refine tm_lald rfl dX11_isTied_101 (inb_vp b18) ?_
        obtain ⟨x19, ex19, hE20⟩ := bnd_some hE20
        refine tm_nmL ex19 ?_
        refine tm_lstore (lc' := [(14, tl x19), (0, tr 11 0), (1, ti z1), (5, tl z5), (7, tl z7), (11, ti z11), (12, ti y12), (13, ti y13)]) dX11_isTied_102 (by decide) rfl ?_
        refine tm_aload_n dX11_isTied_104 rfl rfl ?_
        refine tm_get kX11 rfl (j := 34) (by decide) wfX11_92 dX11_isTied_105 (v := tr 1234 0) rfl ?_
        refine tm_iload dX11_isTied_108 rfl ?_
        obtain ⟨b20, hE20⟩ := chk_some hE20
        refine tm_lald rfl dX11_isTied_110 (inb_vp b20) ?_
        obtain ⟨x21, ex21, hE20⟩ := bnd_some hE20
        refine tm_nmL ex21 ?_
        refine tm_lstore (lc' := [(16, tl x21), (14, tl x19), (0, tr 11 0), (1, ti z1), (5, tl z5), (7, tl z7), (11, ti z11), (12, ti y12), (13, ti y13)]) dX11_isTied_111 (by decide) rfl ?_
        refine tm_lload dX11_isTied_113 rfl ?_
        refine tm_lload dX11_isTied_115 rfl ?_
        obtain ⟨x22, hc23, hE20⟩ := obind_some hE20
        refine tm_callS (avs := [tl x19, tl z7]) (st := []) (okX11_divisor hc23) wcX11_248.1 wcX11_248.2.1 wcX11_248.2.2 ⟨rfl, rfl, Nat.le_of_ble_eq_true rfl, Nat.le_of_ble_eq_true rfl⟩ rfl (Nat.le_of_ble_eq_true rfl) ⟨Nat.zero_le _, Nat.zero_le _⟩ dX11_isTied_117 ?_
        refine tm_lstore (lc' := [(18, tl x22), (16, tl x21), (14, tl x19), (0, tr 11 0), (1, ti z1), (5, tl z5), (7, tl z7), (11, ti z11), (12, ti y12), (13, ti y13)]) dX11_isTied_120 (by decide) rfl ?_
        refine tm_lload dX11_isTied_122 rfl ?_
        refine tm_lload dX11_isTied_124 rfl ?_
        obtain ⟨x24, hc25, hE20⟩ := obind_some hE20
        refine tm_callS (avs := [tl z5, tl x21]) (st := []) (okX11_divisor hc25) wcX11_248.1 wcX11_248.2.1 wcX11_248.2.2 ⟨rfl, rfl, Nat.le_of_ble_eq_true rfl, Nat.le_of_ble_eq_true rfl⟩ rfl (Nat.le_of_ble_eq_true rfl) ⟨Nat.zero_le _, Nat.zero_le _⟩ dX11_isTied_126 ?_
        refine tm_lstore (lc' := [(20, tl x24), (18, tl x22), (16, tl x21), (14, tl x19), (0, tr 11 0), (1, ti z1), (5, tl z5), (7, tl z7), (11, ti z11), (12, ti y12), (13, ti y13)]) dX11_isTied_129 (by decide) rfl ?_
        refine tm_iload dX11_isTied_131 rfl ?_
        obtain ⟨x27, hE28, hE20⟩ := obind_some hE20
        have J29 : TW g iX11_isTied rmX11_isTied 0 0 r Mz 0 0 177 [(0, tr 11 0), (1, ti z1), (5, tl z5), (7, tl z7), (11, ti z11), (13, ti y13), (14, tl x19), (16, tl x21), (18, tl x22), (20, tl x24)] [ti x27] M := by
          refine tm_istore (lc' := [(12, ti x27), (0, tr 11 0), (1, ti z1), (5, tl z5), (7, tl z7), (11, ti z11), (13, ti y13), (14, tl x19), (16, tl x21), (18, tl x22), (20, tl x24)]) dX11_isTied_177 (by decide) rfl ?_
          refine tm_aload_n dX11_isTied_179 rfl rfl ?_
          refine tm_get kX11 rfl (j := 33) (by decide) wfX11_89 dX11_isTied_180 (v := tr 1233 0) rfl ?_
          refine tm_iload dX11_isTied_183 rfl ?_
          refine tm_iload dX11_isTied_185 rfl ?_
          obtain ⟨x36, hE37, hE20⟩ := obind_some hE20
          have J38 : TW g iX11_isTied rmX11_isTied 0 0 r Mz 0 0 205 [(0, tr 11 0), (1, ti z1), (5, tl z5), (7, tl z7), (11, ti z11), (12, ti x27), (13, ti y13), (16, tl x21), (18, tl x22), (20, tl x24)] [tl x36, ti y13, tr 1233 0] M := by
            obtain ⟨b39, hE20⟩ := chk_some hE20
            obtain ⟨M40, eM40, hE20⟩ := bnd_some hE20
            refine tm_last rfl dX11_isTied_205 (inb_vp b39) ?_
            refine tm_nmM eM40 ?_
            refine tm_aload_n dX11_isTied_206 rfl rfl ?_
            refine tm_get kX11 rfl (j := 34) (by decide) wfX11_92 dX11_isTied_207 (v := tr 1234 0) rfl ?_
            refine tm_iload dX11_isTied_210 rfl ?_
            refine tm_iload dX11_isTied_212 rfl ?_
            obtain ⟨x42, hE43, hE20⟩ := obind_some hE20
            have J44 : TW g iX11_isTied rmX11_isTied 0 0 r Mz 0 0 232 [(0, tr 11 0), (1, ti z1), (5, tl z5), (7, tl z7), (11, ti z11), (12, ti x27), (13, ti y13)] [tl x42, ti y13, tr 1234 0] M40 := by
              obtain ⟨b45, hE20⟩ := chk_some hE20
              obtain ⟨M46, eM46, hE20⟩ := bnd_some hE20
              refine tm_last rfl dX11_isTied_232 (inb_vp b45) ?_
              refine tm_nmM eM46 ?_
              refine tm_aload_n dX11_isTied_233 rfl rfl ?_
              refine tm_get kX11 rfl (j := 32) (by decide) wfX11_86 dX11_isTied_234 (v := tr 1232 0) rfl ?_
              refine tm_iload dX11_isTied_237 rfl ?_
              refine tm_aload_n dX11_isTied_239 rfl rfl ?_
              refine tm_get kX11 rfl (j := 32) (by decide) wfX11_86 dX11_isTied_240 (v := tr 1232 0) rfl ?_
              refine tm_iload_n dX11_isTied_243 rfl rfl ?_
              obtain ⟨b47, hE20⟩ := chk_some hE20
              refine tm_iald rfl dX11_isTied_244 (inb_vp b47) ?_
              obtain ⟨b48, hE20⟩ := chk_some hE20
              obtain ⟨M49, eM49, hE20⟩ := bnd_some hE20
              refine tm_iast rfl dX11_isTied_245 (inb_vp b48) ?_
              refine tm_nmM eM49 ?_
              obtain ⟨rfl, rfl⟩ := pj2 hE20
              refine tm_lcp [0, 1, 5, 7, 11, 12, 13] rfl ?_
              exact J21
            refine tm_if_eq (tgt := 231) dX11_isTied_214 (by decide) (fun c41 => ?_) (fun c41 => ?_)
            · rw [if_pos c41] at hE43
              refine tm_lconst (v := 1) dX11_isTied_231 (by decide) ?_
              obtain rfl := Option.some.inj hE43
              refine tm_lcp [0, 1, 5, 7, 11, 12, 13] rfl ?_
              exact J44
            · rw [if_neg c41] at hE43
              refine tm_lload dX11_isTied_217 rfl ?_
              refine tm_lload dX11_isTied_219 rfl ?_
              obtain ⟨b42, hE43⟩ := chk_some hE43
              refine tm_ldiv dX11_isTied_221 (nz8_ne b42) ?_
              refine tm_lload dX11_isTied_222 rfl ?_
              refine tm_lload dX11_isTied_224 rfl ?_
              obtain ⟨b43, hE43⟩ := chk_some hE43
              refine tm_ldiv dX11_isTied_226 (nz8_ne b43) ?_
              refine tm_lmul dX11_isTied_227 ?_
              refine tm_goto (tgt := 232) dX11_isTied_228 (by decide) ?_
              obtain rfl := Option.some.inj hE43
              refine tm_lcp [0, 1, 5, 7, 11, 12, 13] rfl ?_
              exact J44
          refine tm_if_eq (tgt := 204) dX11_isTied_187 (by decide) (fun c35 => ?_) (fun c35 => ?_)
          · rw [if_pos c35] at hE37
            refine tm_lconst (v := 1) dX11_isTied_204 (by decide) ?_
            obtain rfl := Option.some.inj hE37
            refine tm_lcp [0, 1, 5, 7, 11, 12, 13, 16, 18, 20] rfl ?_
            exact J38
          · rw [if_neg c35] at hE37
            refine tm_lload dX11_isTied_190 rfl ?_
            refine tm_lload dX11_isTied_192 rfl ?_
            obtain ⟨b36, hE37⟩ := chk_some hE37
            refine tm_ldiv dX11_isTied_194 (nz8_ne b36) ?_
            refine tm_lload dX11_isTied_195 rfl ?_
            refine tm_lload dX11_isTied_197 rfl ?_
            obtain ⟨b37, hE37⟩ := chk_some hE37
            refine tm_ldiv dX11_isTied_199 (nz8_ne b37) ?_
            refine tm_lmul dX11_isTied_200 ?_
            refine tm_goto (tgt := 205) dX11_isTied_201 (by decide) ?_
            obtain rfl := Option.some.inj hE37
            refine tm_lcp [0, 1, 5, 7, 11, 12, 13, 16, 18, 20] rfl ?_
            exact J38
        refine tm_if_eq (tgt := 176) dX11_isTied_133 (by decide) (fun c26 => ?_) (fun c26 => ?_)
        · rw [if_pos c26] at hE28
          refine tm_iconst (v := 0) dX11_isTied_176 (by decide) ?_
          obtain rfl := Option.some.inj hE28
          refine tm_lcp [0, 1, 5, 7, 11, 13, 14, 16, 18, 20] rfl ?_
          exact J29
        · rw [if_neg c26] at hE28
          refine tm_lload dX11_isTied_136 rfl ?_
          refine tm_lload dX11_isTied_138 rfl ?_
          obtain ⟨b27, hE28⟩ := chk_some hE28
          refine tm_ldiv dX11_isTied_140 (nz8_ne b27) ?_
          refine tm_ldc2 (v := 1000000) dX11_isTied_141 wconstlX11_252 ?_
          refine tm_lload dX11_isTied_144 rfl ?_
          refine tm_lload dX11_isTied_146 rfl ?_
          obtain ⟨b28, hE28⟩ := chk_some hE28
          refine tm_ldiv dX11_isTied_148 (nz8_ne b28) ?_
          obtain ⟨b29, hE28⟩ := chk_some hE28
          refine tm_ldiv dX11_isTied_149 (nz8_ne b29) ?_
          refine tm_lcmp dX11_isTied_150 ?_
          refine tm_if_gt (tgt := 176) dX11_isTied_151 (by decide) (fun c30 => ?_) (fun c30 => ?_)
          · rw [if_pos c30] at hE28
            refine tm_iconst (v := 0) dX11_isTied_176 (by decide) ?_
            obtain rfl := Option.some.inj hE28
            refine tm_lcp [0, 1, 5, 7, 11, 13, 14, 16, 18, 20] rfl ?_
            exact J29
          · rw [if_neg c30] at hE28
            refine tm_lload dX11_isTied_154 rfl ?_
            refine tm_lload dX11_isTied_156 rfl ?_
            obtain ⟨b31, hE28⟩ := chk_some hE28
            refine tm_ldiv dX11_isTied_158 (nz8_ne b31) ?_
            refine tm_ldc2 (v := 1000000) dX11_isTied_159 wconstlX11_252 ?_
            refine tm_lload dX11_isTied_162 rfl ?_
            refine tm_lload dX11_isTied_164 rfl ?_
            obtain ⟨b32, hE28⟩ := chk_some hE28
            refine tm_ldiv dX11_isTied_166 (nz8_ne b32) ?_
            obtain ⟨b33, hE28⟩ := chk_some hE28
            refine tm_ldiv dX11_isTied_167 (nz8_ne b33) ?_
            refine tm_lcmp dX11_isTied_168 ?_
            refine tm_if_gt (tgt := 176) dX11_isTied_169 (by decide) (fun c34 => ?_) (fun c34 => ?_)
            · rw [if_pos c34] at hE28
              refine tm_iconst (v := 0) dX11_isTied_176 (by decide) ?_
              obtain rfl := Option.some.inj hE28
              refine tm_lcp [0, 1, 5, 7, 11, 13, 14, 16, 18, 20] rfl ?_
              exact J29
            · rw [if_neg c34] at hE28
              refine tm_iconst (v := 1) dX11_isTied_172 (by decide) ?_
              refine tm_goto (tgt := 177) dX11_isTied_173 (by decide) ?_
              obtain rfl := Option.some.inj hE28
              refine tm_lcp [0, 1, 5, 7, 11, 13, 14, 16, 18, 20] rfl ?_
              exact J29
set_option maxHeartbeats 4000000 in
set_option maxRecDepth 100000 in
theorem okX11_isTied_l272 {g : tG} (z1 : Int32) (z13 : Int32) (M : tM) {r : Option tV} {Mz : tM} : ∀ (n : Nat) (y12 : Int32) (y14 : Int32) (w : Int32), fX11_isTied_l272 z1 z13 M n y12 y14 = some w → (∀ (w12 : Int32), w12 = w → TW g iX11_isTied rmX11_isTied 0 0 r Mz 0 0 340 [(0, tr 11 0), (1, ti z1), (12, ti w12), (13, ti z13)] [] M) → TW g iX11_isTied rmX11_isTied 0 0 r Mz 0 0 272 [(0, tr 11 0), (1, ti z1), (12, ti y12), (13, ti z13), (14, ti y14)] [] M := by
  intro n
  induction n with
  | zero => intro y12 y14 w h; cases h
  | succ n ih =>
    intro y12 y14 w h J
    rw [fX11_isTied_l272] at h
    refine tm_iload dX11_isTied_272 rfl ?_
    refine tm_iload dX11_isTied_274 rfl ?_
    refine tm_icmp_ge (tgt := 340) dX11_isTied_276 (by decide) (fun c57 => ?_) (fun c57 => ?_)
    · rw [if_pos c57] at h
      obtain rfl := Option.some.inj h
      refine tm_lcp [0, 1, 12, 13] rfl ?_
      exact J _ rfl
    · rw [if_neg c57] at h
      refine tm_iload dX11_isTied_279 rfl ?_
      refine tm_if_eq (tgt := 340) dX11_isTied_281 (by decide) (fun c58 => ?_) (fun c58 => ?_)
      · rw [if_pos c58] at h
        obtain rfl := Option.some.inj h
        refine tm_lcp [0, 1, 12, 13] rfl ?_
        exact J _ rfl
      · rw [if_neg c58] at h
        refine tm_aload_n dX11_isTied_284 rfl rfl ?_
        refine tm_get kX11 rfl (j := 32) (by decide) wfX11_86 dX11_isTied_285 (v := tr 1232 0) rfl ?_
        refine tm_iload dX11_isTied_288 rfl ?_
        obtain ⟨b59, h⟩ := chk_some h
        refine tm_iald rfl dX11_isTied_290 (inb_vp b59) ?_
        refine tm_aload_n dX11_isTied_291 rfl rfl ?_
        refine tm_get kX11 rfl (j := 32) (by decide) wfX11_86 dX11_isTied_292 (v := tr 1232 0) rfl ?_
        refine tm_iload_n dX11_isTied_295 rfl rfl ?_
        obtain ⟨b60, h⟩ := chk_some h
        refine tm_iald rfl dX11_isTied_296 (inb_vp b60) ?_
        obtain ⟨x62, hE63, h⟩ := obind_some h
        have J64 : TW g iX11_isTied rmX11_isTied 0 0 r Mz 0 0 332 [(0, tr 11 0), (1, ti z1), (13, ti z13), (14, ti y14)] [ti x62] M := by
          refine tm_istore (lc' := [(12, ti x62), (0, tr 11 0), (1, ti z1), (13, ti z13), (14, ti y14)]) dX11_isTied_332 (by decide) rfl ?_
          obtain ⟨x68, ex68, h⟩ := bnd_some h
          refine tm_iinc (v := x68) (lc' := [(14, ti x68), (12, ti x62), (0, tr 11 0), (1, ti z1), (13, ti z13)]) dX11_isTied_334 rfl (by rw [ex68]; rfl) (by decide) rfl ?_
          refine tm_goto (tgt := 272) dX11_isTied_337 (by decide) ?_
          refine tm_lcp [0, 1, 12, 13, 14] rfl ?_
          exact ih x62 x68 _ h J
        refine tm_icmp_ne (tgt := 327) dX11_isTied_297 (by decide) (fun c61 => ?_) (fun c61 => ?_)
        · rw [if_neg c61] at hE63
          refine tm_iconst (v := 1) dX11_isTied_327 (by decide) ?_
          refine tm_goto (tgt := 332) dX11_isTied_328 (by decide) ?_
          obtain rfl := Option.some.inj hE63
          refine tm_lcp [0, 1, 13, 14] rfl ?_
          exact J64
        · rw [if_pos c61] at hE63
          refine tm_aload_n dX11_isTied_300 rfl rfl ?_
          refine tm_get kX11 rfl (j := 32) (by decide) wfX11_86 dX11_isTied_301 (v := tr 1232 0) rfl ?_
          refine tm_iload dX11_isTied_304 rfl ?_
          obtain ⟨b62, hE63⟩ := chk_some hE63
          refine tm_iald rfl dX11_isTied_306 (inb_vp b62) ?_
          refine tm_aload_n dX11_isTied_307 rfl rfl ?_
          refine tm_get kX11 rfl (j := 32) (by decide) wfX11_86 dX11_isTied_308 (v := tr 1232 0) rfl ?_
          refine tm_iload_n dX11_isTied_311 rfl rfl ?_
          obtain ⟨b63, hE63⟩ := chk_some hE63
          refine tm_iald rfl dX11_isTied_312 (inb_vp b63) ?_
          refine tm_icmp_ne (tgt := 327) dX11_isTied_313 (by decide) (fun c64 => ?_) (fun c64 => ?_)
          · rw [if_neg c64] at hE63
            refine tm_iconst (v := 1) dX11_isTied_327 (by decide) ?_
            refine tm_goto (tgt := 332) dX11_isTied_328 (by decide) ?_
            obtain rfl := Option.some.inj hE63
            refine tm_lcp [0, 1, 13, 14] rfl ?_
            exact J64
          · rw [if_pos c64] at hE63
            refine tm_aload_n dX11_isTied_316 rfl rfl ?_
            refine tm_iload dX11_isTied_317 rfl ?_
            refine tm_iload dX11_isTied_319 rfl ?_
            obtain ⟨x65, hc66, hE63⟩ := obind_some hE63
            refine tm_callV kX11 rfl (avs := [ti z13, ti y14]) (st := []) (okX11_isSmall hc66) wcX11_254.1 wcX11_254.2.1 wcX11_254.2.2.1 wcX11_254.2.2.2 ⟨rfl, rfl, Nat.le_of_ble_eq_true rfl, Nat.le_of_ble_eq_true rfl⟩ rfl (Nat.le_of_ble_eq_true rfl) ⟨Nat.zero_le _, Nat.zero_le _⟩ dX11_isTied_321 ?_
            refine tm_if_eq (tgt := 331) dX11_isTied_324 (by decide) (fun c67 => ?_) (fun c67 => ?_)
            · rw [if_pos c67] at hE63
              refine tm_iconst (v := 0) dX11_isTied_331 (by decide) ?_
              obtain rfl := Option.some.inj hE63
              refine tm_lcp [0, 1, 13, 14] rfl ?_
              exact J64
            · rw [if_neg c67] at hE63
              refine tm_iconst (v := 1) dX11_isTied_327 (by decide) ?_
              refine tm_goto (tgt := 332) dX11_isTied_328 (by decide) ?_
              obtain rfl := Option.some.inj hE63
              refine tm_lcp [0, 1, 13, 14] rfl ?_
              exact J64
set_option maxHeartbeats 4000000 in
set_option maxRecDepth 100000 in
theorem okX11_isTied_l255 {g : tG} (z1 : Int32) (M : tM) {r : Option tV} {Mz : tM} : ∀ (n : Nat) (y12 : Int32) (y13 : Int32) (w : Int32), fX11_isTied_l255 z1 M n y12 y13 = some w → (∀ (w12 : Int32), w12 = w → TW g iX11_isTied rmX11_isTied 0 0 r Mz 0 0 346 [(12, ti w12)] [] M) → TW g iX11_isTied rmX11_isTied 0 0 r Mz 0 0 255 [(0, tr 11 0), (1, ti z1), (12, ti y12), (13, ti y13)] [] M := by
  intro n
  induction n with
  | zero => intro y12 y13 w h; cases h
  | succ n ih =>
    intro y12 y13 w h J
    rw [fX11_isTied_l255] at h
    refine tm_iload dX11_isTied_255 rfl ?_
    refine tm_aload_n dX11_isTied_257 rfl rfl ?_
    refine tm_get kX11 rfl (j := 2) (by decide) wfX11_202 dX11_isTied_258 (v := ti (mI M 11 0 2)) rfl ?_
    refine tm_icmp_ge (tgt := 346) dX11_isTied_261 (by decide) (fun c55 => ?_) (fun c55 => ?_)
    · rw [if_pos c55] at h
      obtain rfl := Option.some.inj h
      refine tm_lcp [12] rfl ?_
      exact J _ rfl
    · rw [if_neg c55] at h
      refine tm_iload dX11_isTied_264 rfl ?_
      refine tm_if_eq (tgt := 346) dX11_isTied_266 (by decide) (fun c56 => ?_) (fun c56 => ?_)
      · rw [if_pos c56] at h
        obtain rfl := Option.some.inj h
        refine tm_lcp [12] rfl ?_
        exact J _ rfl
      · rw [if_neg c56] at h
        refine tm_iconst (v := 0) dX11_isTied_269 (by decide) ?_
        refine tm_istore (lc' := [(14, ti 0), (0, tr 11 0), (1, ti z1), (12, ti y12), (13, ti y13)]) dX11_isTied_270 (by decide) rfl ?_
        obtain ⟨w69, hE70, h⟩ := obind_some h
        refine tm_lcp [0, 1, 12, 13, 14] rfl ?_
        refine okX11_isTied_l272 z1 y13 M FU y12 0 _ hE70 (fun x71 e => ?_)
        subst e
        obtain ⟨x72, ex72, h⟩ := bnd_some h
        refine tm_iinc (v := x72) (lc' := [(13, ti x72), (0, tr 11 0), (1, ti z1), (12, ti x71)]) dX11_isTied_340 rfl (by rw [ex72]; rfl) (by decide) rfl ?_
        refine tm_goto (tgt := 255) dX11_isTied_343 (by decide) ?_
        refine tm_lcp [0, 1, 12, 13] rfl ?_
        exact ih x71 x72 _ h J
set_option maxHeartbeats 4000000 in
set_option maxRecDepth 100000 in
theorem okX11_isTied {g : tG} {a1 : Int32} {a2 : Int32} {a3 : Int32} {a4 : Int32} {M : tM} {v : Int32} {Mz : tM} (h : fX11_isTied a1 a2 a3 a4 M = some ((v, Mz))) : TMet g yX11_isTied (Cond.code yX11_isTied cX11_isTied 22 (some .boolean) :: tgd) rmX11_isTied [tr 11 0, ti a1, ti a2, ti a3, ti a4] M (some (ti v)) Mz 0 0 := by
  have key : TW g iX11_isTied rmX11_isTied 0 0 (some (ti v)) Mz 0 0 0 [(0, tr 11 0), (1, ti a1), (2, ti a2), (3, ti a3), (4, ti a4)] [] M := by
    rw [fX11_isTied] at h
    refine tm_aload_n dX11_isTied_0 rfl rfl ?_
    refine tm_get kX11 rfl (j := 33) (by decide) wfX11_89 dX11_isTied_1 (v := tr 1233 0) rfl ?_
    refine tm_iload_n dX11_isTied_4 rfl rfl ?_
    obtain ⟨b1, h⟩ := chk_some h
    refine tm_lald rfl dX11_isTied_5 (inb_vp b1) ?_
    refine tm_iload_n dX11_isTied_6 rfl rfl ?_
    refine tm_i2l dX11_isTied_7 ?_
    refine tm_lmul dX11_isTied_8 ?_
    refine tm_aload_n dX11_isTied_9 rfl rfl ?_
    refine tm_get kX11 rfl (j := 34) (by decide) wfX11_92 dX11_isTied_10 (v := tr 1234 0) rfl ?_
    refine tm_iload_n dX11_isTied_13 rfl rfl ?_
    obtain ⟨b2, h⟩ := chk_some h
    refine tm_lald rfl dX11_isTied_14 (inb_vp b2) ?_
    refine tm_lmul dX11_isTied_15 ?_
    obtain ⟨x3, ex3, h⟩ := bnd_some h
    refine tm_nmL ex3 ?_
    refine tm_lstore (lc' := [(5, tl x3), (0, tr 11 0), (1, ti a1), (2, ti a2), (3, ti a3), (4, ti a4)]) dX11_isTied_16 (by decide) rfl ?_
    refine tm_aload_n dX11_isTied_18 rfl rfl ?_
    refine tm_get kX11 rfl (j := 34) (by decide) wfX11_92 dX11_isTied_19 (v := tr 1234 0) rfl ?_
    refine tm_iload_n dX11_isTied_22 rfl rfl ?_
    obtain ⟨b4, h⟩ := chk_some h
    refine tm_lald rfl dX11_isTied_23 (inb_vp b4) ?_
    refine tm_iload dX11_isTied_24 rfl ?_
    refine tm_i2l dX11_isTied_26 ?_
    refine tm_lmul dX11_isTied_27 ?_
    refine tm_aload_n dX11_isTied_28 rfl rfl ?_
    refine tm_get kX11 rfl (j := 33) (by decide) wfX11_89 dX11_isTied_29 (v := tr 1233 0) rfl ?_
    refine tm_iload_n dX11_isTied_32 rfl rfl ?_
    obtain ⟨b5, h⟩ := chk_some h
    refine tm_lald rfl dX11_isTied_33 (inb_vp b5) ?_
    refine tm_lmul dX11_isTied_34 ?_
    obtain ⟨x6, ex6, h⟩ := bnd_some h
    refine tm_nmL ex6 ?_
    refine tm_lstore (lc' := [(7, tl x6), (5, tl x3), (0, tr 11 0), (1, ti a1), (2, ti a2), (3, ti a3), (4, ti a4)]) dX11_isTied_35 (by decide) rfl ?_
    refine tm_lload dX11_isTied_37 rfl ?_
    refine tm_lload dX11_isTied_39 rfl ?_
    obtain ⟨x7, hc8, h⟩ := obind_some h
    refine tm_callS (avs := [tl x3, tl x6]) (st := []) (okX11_divisor hc8) wcX11_248.1 wcX11_248.2.1 wcX11_248.2.2 ⟨rfl, rfl, Nat.le_of_ble_eq_true rfl, Nat.le_of_ble_eq_true rfl⟩ rfl (Nat.le_of_ble_eq_true rfl) ⟨Nat.zero_le _, Nat.zero_le _⟩ dX11_isTied_41 ?_
    refine tm_lstore (lc' := [(9, tl x7), (7, tl x6), (5, tl x3), (0, tr 11 0), (1, ti a1), (2, ti a2), (3, ti a3), (4, ti a4)]) dX11_isTied_44 (by decide) rfl ?_
    refine tm_lload dX11_isTied_46 rfl ?_
    refine tm_lload dX11_isTied_48 rfl ?_
    obtain ⟨b9, h⟩ := chk_some h
    refine tm_ldiv dX11_isTied_50 (nz8_ne b9) ?_
    obtain ⟨x10, ex10, h⟩ := bnd_some h
    refine tm_nmL ex10 ?_
    refine tm_lstore (lc' := [(5, tl x10), (9, tl x7), (7, tl x6), (0, tr 11 0), (1, ti a1), (2, ti a2), (3, ti a3), (4, ti a4)]) dX11_isTied_51 (by decide) rfl ?_
    refine tm_lload dX11_isTied_53 rfl ?_
    refine tm_lload dX11_isTied_55 rfl ?_
    obtain ⟨b11, h⟩ := chk_some h
    refine tm_ldiv dX11_isTied_57 (nz8_ne b11) ?_
    obtain ⟨x12, ex12, h⟩ := bnd_some h
    refine tm_nmL ex12 ?_
    refine tm_lstore (lc' := [(7, tl x12), (5, tl x10), (9, tl x7), (0, tr 11 0), (1, ti a1), (2, ti a2), (3, ti a3), (4, ti a4)]) dX11_isTied_58 (by decide) rfl ?_
    refine tm_aload_n dX11_isTied_60 rfl rfl ?_
    refine tm_get kX11 rfl (j := 32) (by decide) wfX11_86 dX11_isTied_61 (v := tr 1232 0) rfl ?_
    refine tm_iload_n dX11_isTied_64 rfl rfl ?_
    obtain ⟨b13, h⟩ := chk_some h
    refine tm_iald rfl dX11_isTied_65 (inb_vp b13) ?_
    obtain ⟨x14, ex14, h⟩ := bnd_some h
    refine tm_nmI ex14 ?_
    refine tm_istore (lc' := [(11, ti x14), (7, tl x12), (5, tl x10), (9, tl x7), (0, tr 11 0), (1, ti a1), (2, ti a2), (3, ti a3), (4, ti a4)]) dX11_isTied_66 (by decide) rfl ?_
    refine tm_iconst (v := 1) dX11_isTied_68 (by decide) ?_
    refine tm_istore (lc' := [(12, ti 1), (11, ti x14), (7, tl x12), (5, tl x10), (9, tl x7), (0, tr 11 0), (1, ti a1), (2, ti a2), (3, ti a3), (4, ti a4)]) dX11_isTied_69 (by decide) rfl ?_
    refine tm_iconst (v := 0) dX11_isTied_71 (by decide) ?_
    refine tm_istore (lc' := [(13, ti 0), (12, ti 1), (11, ti x14), (7, tl x12), (5, tl x10), (9, tl x7), (0, tr 11 0), (1, ti a1), (2, ti a2), (3, ti a3), (4, ti a4)]) dX11_isTied_72 (by decide) rfl ?_
    obtain ⟨w51, hE52, h⟩ := obind_some h
    refine tm_lcp [0, 1, 5, 7, 11, 12, 13] rfl ?_
    refine okX11_isTied_l74 a1 x10 x12 x14 FU 1 0 M _ hE52 (fun x53 M54 e => ?_)
    subst e
    dsimp only at h
    refine tm_iconst (v := 0) dX11_isTied_252 (by decide) ?_
    refine tm_istore (lc' := [(13, ti 0), (0, tr 11 0), (1, ti a1), (12, ti x53)]) dX11_isTied_253 (by decide) rfl ?_
    obtain ⟨w73, hE74, h⟩ := obind_some h
    refine tm_lcp [0, 1, 12, 13] rfl ?_
    refine okX11_isTied_l255 a1 M54 FU x53 0 _ hE74 (fun x75 e => ?_)
    subst e
    refine tm_iload dX11_isTied_346 rfl ?_
    obtain ⟨b76, h⟩ := chk_some h
    obtain ⟨rfl, rfl⟩ := pj2 h
    exact tm_zret (tb_n b76) rfl dX11_isTied_348
  exact TMet.of (by decide) (Nat.le_of_ble_eq_true rfl) key
