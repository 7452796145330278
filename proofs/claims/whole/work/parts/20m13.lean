abbrev iX11_reset : tY := (RX11, cX11_reset, 2, some .int, "reset")
abbrev rmX11_reset : Room := { frames := 2, cells := 0, slots := 0, locals := 43 }
def fX11_reset  (M : tM) : Option (Int32 × tM) :=
  bnd (mI M 11 0 25) fun x1 =>
  (fX11_begins M).bind fun M3 =>
  some ((x1, M3))
set_option maxHeartbeats 4000000 in
set_option maxRecDepth 100000 in
theorem okX11_reset {g : tG}  {M : tM} {v : Int32} {Mz : tM} (h : fX11_reset  M = some ((v, Mz))) : TMet g yX11_reset (Cond.code yX11_reset cX11_reset 2 (some .int) :: tgd) rmX11_reset [tr 11 0] M (some (ti v)) Mz 0 0 := by
  have key : TW g iX11_reset rmX11_reset 0 0 (some (ti v)) Mz 0 0 0 [(0, tr 11 0)] [] M := by
    rw [fX11_reset] at h
    refine tm_aload_n dX11_reset_0 rfl rfl ?_
    refine tm_get kX11 rfl (j := 25) (by decide) wfX11_212 dX11_reset_1 (v := ti (mI M 11 0 25)) rfl ?_
    obtain ⟨x1, ex1, h⟩ := bnd_some h
    refine tm_nmI ex1 ?_
    refine tm_istore_n (lc' := [(1, ti x1), (0, tr 11 0)]) dX11_reset_4 rfl (by decide) rfl ?_
    refine tm_aload_n dX11_reset_5 rfl rfl ?_
    obtain ⟨M3, hc2, h⟩ := obind_some h
    refine tm_callV kX11 rfl (avs := []) (st := []) (okX11_begins hc2) wcX11_218.1 wcX11_218.2.1 wcX11_218.2.2.1 wcX11_218.2.2.2 ⟨rfl, rfl, Nat.le_of_ble_eq_true rfl, Nat.le_of_ble_eq_true rfl⟩ rfl (Nat.le_of_ble_eq_true rfl) ⟨Nat.zero_le _, Nat.zero_le _⟩ dX11_reset_6 ?_
    refine tm_iload_n dX11_reset_9 rfl rfl ?_
    obtain ⟨rfl, rfl⟩ := pj2 h
    exact tm_iret rfl dX11_reset_10
  exact TMet.of (by decide) (Nat.le_of_ble_eq_true rfl) key
abbrev iX11_things : tY := (RX11, cX11_things, 2, some .int, "things")
abbrev rmX11_things : Room := { frames := 2, cells := 0, slots := 0, locals := 43 }
def fX11_things (a1 : Int32) (M : tM) : Option (Int32) :=
  (fX11_isLine a1 M).bind fun x1 =>
  if x1 = 0 then (
  some (-1)
  ) else (
  chk (inb a1 (mN M 1221 0)) <|
  some (mI M 1221 0 (a1.toNatClampNeg))
  )
set_option maxHeartbeats 4000000 in
set_option maxRecDepth 100000 in
theorem okX11_things {g : tG} {a1 : Int32} {M : tM} {v : Int32} (h : fX11_things a1 M = some v) : TMet g yX11_things (Cond.code yX11_things cX11_things 2 (some .int) :: tgd) rmX11_things [tr 11 0, ti a1] M (some (ti v)) M 0 0 := by
  have key : TW g iX11_things rmX11_things 0 0 (some (ti v)) M 0 0 0 [(0, tr 11 0), (1, ti a1)] [] M := by
    rw [fX11_things] at h
    refine tm_aload_n dX11_things_0 rfl rfl ?_
    refine tm_iload_n dX11_things_1 rfl rfl ?_
    obtain ⟨x1, hc2, h⟩ := obind_some h
    refine tm_callV kX11 rfl (avs := [ti a1]) (st := []) (okX11_isLine hc2) wcX11_232.1 wcX11_232.2.1 wcX11_232.2.2.1 wcX11_232.2.2.2 ⟨rfl, rfl, Nat.le_of_ble_eq_true rfl, Nat.le_of_ble_eq_true rfl⟩ rfl (Nat.le_of_ble_eq_true rfl) ⟨Nat.zero_le _, Nat.zero_le _⟩ dX11_things_2 ?_
    refine tm_if_eq (tgt := 17) dX11_things_5 (by decide) (fun c3 => ?_) (fun c3 => ?_)
    · rw [if_pos c3] at h
      refine tm_iconst (v := (-1)) dX11_things_17 (by decide) ?_
      obtain rfl := Option.some.inj h
      exact tm_iret rfl dX11_things_18
    · rw [if_neg c3] at h
      refine tm_aload_n dX11_things_8 rfl rfl ?_
      refine tm_get kX11 rfl (j := 21) (by decide) wfX11_65 dX11_things_9 (v := tr 1221 0) rfl ?_
      refine tm_iload_n dX11_things_12 rfl rfl ?_
      obtain ⟨b4, h⟩ := chk_some h
      refine tm_iald rfl dX11_things_13 (inb_vp b4) ?_
      refine tm_goto (tgt := 18) dX11_things_14 (by decide) ?_
      obtain rfl := Option.some.inj h
      exact tm_iret rfl dX11_things_18
  exact TMet.of (by decide) (Nat.le_of_ble_eq_true rfl) key
theorem wfX11_443 : Cond.fieldLink RX11 443 "EvenFlowModel" "asked" "J" ∈ tgd := (tgd_t 1254 (by decide +kernel) (by decide +kernel))
abbrev iX11_look : tY := (RX11, cX11_look, 3, some .int, "look")
abbrev rmX11_look : Room := { frames := 2, cells := 0, slots := 0, locals := 43 }
def fX11_look (a1 : Int32) (a2 : Int32) (M : tM) : Option (Int32 × tM) :=
  (fX11_isLine a1 M).bind fun x1 =>
  if x1 = 0 then (
  some (((-1), M))
  ) else (
  chk (inb a1 (mN M 1221 0)) <|
  (fX11_in a2 0 ((mI M 1221 0 (a1.toNatClampNeg)) - 1) M).bind fun x5 =>
  if x5 = 0 then (
  (fX11_meets 2 M).bind fun (x10, M12) =>
  some ((x10, M12))
  ) else (
  chk (inb ((450 * a1) + a2) (mN M 1222 0)) <|
  bnd (sL M 11 0 29 (mL M 1222 0 (((450 * a1) + a2).toNatClampNeg))) fun M9 =>
  some ((1, M9))
  )
  )
set_option maxHeartbeats 4000000 in
set_option maxRecDepth 100000 in
theorem okX11_look {g : tG} {a1 : Int32} {a2 : Int32} {M : tM} {v : Int32} {Mz : tM} (h : fX11_look a1 a2 M = some ((v, Mz))) : TMet g yX11_look (Cond.code yX11_look cX11_look 3 (some .int) :: tgd) rmX11_look [tr 11 0, ti a1, ti a2] M (some (ti v)) Mz 0 0 := by
  have key : TW g iX11_look rmX11_look 0 0 (some (ti v)) Mz 0 0 0 [(0, tr 11 0), (1, ti a1), (2, ti a2)] [] M := by
    rw [fX11_look] at h
    refine tm_aload_n dX11_look_0 rfl rfl ?_
    refine tm_iload_n dX11_look_1 rfl rfl ?_
    obtain ⟨x1, hc2, h⟩ := obind_some h
    refine tm_callV kX11 rfl (avs := [ti a1]) (st := []) (okX11_isLine hc2) wcX11_232.1 wcX11_232.2.1 wcX11_232.2.2.1 wcX11_232.2.2.2 ⟨rfl, rfl, Nat.le_of_ble_eq_true rfl, Nat.le_of_ble_eq_true rfl⟩ rfl (Nat.le_of_ble_eq_true rfl) ⟨Nat.zero_le _, Nat.zero_le _⟩ dX11_look_2 ?_
    refine tm_if_ne (tgt := 10) dX11_look_5 (by decide) (fun c3 => ?_) (fun c3 => ?_)
    · rw [if_neg c3] at h
      refine tm_iload_n dX11_look_10 rfl rfl ?_
      refine tm_iconst (v := 0) dX11_look_11 (by decide) ?_
      refine tm_aload_n dX11_look_12 rfl rfl ?_
      refine tm_get kX11 rfl (j := 21) (by decide) wfX11_65 dX11_look_13 (v := tr 1221 0) rfl ?_
      refine tm_iload_n dX11_look_16 rfl rfl ?_
      obtain ⟨b4, h⟩ := chk_some h
      refine tm_iald rfl dX11_look_17 (inb_vp b4) ?_
      refine tm_iconst (v := 1) dX11_look_18 (by decide) ?_
      refine tm_isub dX11_look_19 ?_
      obtain ⟨x5, hc6, h⟩ := obind_some h
      refine tm_callS (avs := [ti a2, ti 0, ti ((mI M 1221 0 (a1.toNatClampNeg)) - 1)]) (st := []) (okX11_in hc6) wcX11_205.1 wcX11_205.2.1 wcX11_205.2.2 ⟨rfl, rfl, Nat.le_of_ble_eq_true rfl, Nat.le_of_ble_eq_true rfl⟩ rfl (Nat.le_of_ble_eq_true rfl) ⟨Nat.zero_le _, Nat.zero_le _⟩ dX11_look_20 ?_
      refine tm_if_ne (tgt := 32) dX11_look_23 (by decide) (fun c7 => ?_) (fun c7 => ?_)
      · rw [if_neg c7] at h
        refine tm_aload_n dX11_look_32 rfl rfl ?_
        refine tm_aload_n dX11_look_33 rfl rfl ?_
        refine tm_get kX11 rfl (j := 22) (by decide) wfX11_68 dX11_look_34 (v := tr 1222 0) rfl ?_
        refine tm_sipush (v := 450) dX11_look_37 (by decide) ?_
        refine tm_iload_n dX11_look_40 rfl rfl ?_
        refine tm_imul dX11_look_41 ?_
        refine tm_iload_n dX11_look_42 rfl rfl ?_
        refine tm_iadd dX11_look_43 ?_
        obtain ⟨b8, h⟩ := chk_some h
        refine tm_lald rfl dX11_look_44 (inb_vp b8) ?_
        obtain ⟨M9, eM9, h⟩ := bnd_some h
        refine tm_put kX11 rfl (j := 29) (by decide) wfX11_443 rfl dX11_look_45 (fun _ => ⟨rfl, rfl⟩) (tPut_L (mL M 1222 0 (((450 * a1) + a2).toNatClampNeg)) rfl) ?_
        refine tm_nmM eM9 ?_
        refine tm_iconst (v := 1) dX11_look_48 (by decide) ?_
        obtain ⟨rfl, rfl⟩ := pj2 h
        exact tm_iret rfl dX11_look_49
      · rw [if_pos c7] at h
        refine tm_aload_n dX11_look_26 rfl rfl ?_
        refine tm_iconst (v := 2) dX11_look_27 (by decide) ?_
        obtain ⟨⟨x10, M12⟩, hc11, h⟩ := obind_some h
        dsimp only at h
        refine tm_callV kX11 rfl (avs := [ti 2]) (st := []) (okX11_meets hc11) wcX11_221.1 wcX11_221.2.1 wcX11_221.2.2.1 wcX11_221.2.2.2 ⟨rfl, rfl, Nat.le_of_ble_eq_true rfl, Nat.le_of_ble_eq_true rfl⟩ rfl (Nat.le_of_ble_eq_true rfl) ⟨Nat.zero_le _, Nat.zero_le _⟩ dX11_look_28 ?_
        obtain ⟨rfl, rfl⟩ := pj2 h
        exact tm_iret rfl dX11_look_31
    · rw [if_pos c3] at h
      refine tm_iconst (v := (-1)) dX11_look_8 (by decide) ?_
      obtain ⟨rfl, rfl⟩ := pj2 h
      exact tm_iret rfl dX11_look_9
  exact TMet.of (by decide) (Nat.le_of_ble_eq_true rfl) key
abbrev iX11_given : tY := (RX11, cX11_given, 3, some .int, "given")
abbrev rmX11_given : Room := { frames := 2, cells := 0, slots := 0, locals := 43 }
def fX11_given (a1 : Int32) (a2 : Int32) (M : tM) : Option (Int32 × tM) :=
  (fX11_isLine a1 M).bind fun x1 =>
  if x1 = 0 then (
  some (((-1), M))
  ) else (
  (fX11_in a2 0 199 M).bind fun x4 =>
  if x4 = 0 then (
  some (((-1), M))
  ) else (
  chk (inb a1 (mN M 1223 0)) <|
  if a2 < (mI M 1223 0 (a1.toNatClampNeg)) then (
  chk (inb ((200 * a1) + a2) (mN M 1224 0)) <|
  bnd (sL M 11 0 29 (mL M 1224 0 (((200 * a1) + a2).toNatClampNeg))) fun M10 =>
  some ((1, M10))
  ) else (
  some (((-9), M))
  )
  )
  )
set_option maxHeartbeats 4000000 in
set_option maxRecDepth 100000 in
theorem okX11_given {g : tG} {a1 : Int32} {a2 : Int32} {M : tM} {v : Int32} {Mz : tM} (h : fX11_given a1 a2 M = some ((v, Mz))) : TMet g yX11_given (Cond.code yX11_given cX11_given 3 (some .int) :: tgd) rmX11_given [tr 11 0, ti a1, ti a2] M (some (ti v)) Mz 0 0 := by
  have key : TW g iX11_given rmX11_given 0 0 (some (ti v)) Mz 0 0 0 [(0, tr 11 0), (1, ti a1), (2, ti a2)] [] M := by
    rw [fX11_given] at h
    refine tm_aload_n dX11_given_0 rfl rfl ?_
    refine tm_iload_n dX11_given_1 rfl rfl ?_
    obtain ⟨x1, hc2, h⟩ := obind_some h
    refine tm_callV kX11 rfl (avs := [ti a1]) (st := []) (okX11_isLine hc2) wcX11_232.1 wcX11_232.2.1 wcX11_232.2.2.1 wcX11_232.2.2.2 ⟨rfl, rfl, Nat.le_of_ble_eq_true rfl, Nat.le_of_ble_eq_true rfl⟩ rfl (Nat.le_of_ble_eq_true rfl) ⟨Nat.zero_le _, Nat.zero_le _⟩ dX11_given_2 ?_
    refine tm_if_eq (tgt := 19) dX11_given_5 (by decide) (fun c3 => ?_) (fun c3 => ?_)
    · rw [if_pos c3] at h
      refine tm_iconst (v := (-1)) dX11_given_19 (by decide) ?_
      obtain ⟨rfl, rfl⟩ := pj2 h
      exact tm_iret rfl dX11_given_20
    · rw [if_neg c3] at h
      refine tm_iload_n dX11_given_8 rfl rfl ?_
      refine tm_iconst (v := 0) dX11_given_9 (by decide) ?_
      refine tm_sipush (v := 199) dX11_given_10 (by decide) ?_
      obtain ⟨x4, hc5, h⟩ := obind_some h
      refine tm_callS (avs := [ti a2, ti 0, ti 199]) (st := []) (okX11_in hc5) wcX11_205.1 wcX11_205.2.1 wcX11_205.2.2 ⟨rfl, rfl, Nat.le_of_ble_eq_true rfl, Nat.le_of_ble_eq_true rfl⟩ rfl (Nat.le_of_ble_eq_true rfl) ⟨Nat.zero_le _, Nat.zero_le _⟩ dX11_given_13 ?_
      refine tm_if_ne (tgt := 21) dX11_given_16 (by decide) (fun c6 => ?_) (fun c6 => ?_)
      · rw [if_neg c6] at h
        refine tm_iload_n dX11_given_21 rfl rfl ?_
        refine tm_aload_n dX11_given_22 rfl rfl ?_
        refine tm_get kX11 rfl (j := 23) (by decide) wfX11_71 dX11_given_23 (v := tr 1223 0) rfl ?_
        refine tm_iload_n dX11_given_26 rfl rfl ?_
        obtain ⟨b7, h⟩ := chk_some h
        refine tm_iald rfl dX11_given_27 (inb_vp b7) ?_
        refine tm_icmp_lt (tgt := 34) dX11_given_28 (by decide) (fun c8 => ?_) (fun c8 => ?_)
        · rw [if_pos c8] at h
          refine tm_aload_n dX11_given_34 rfl rfl ?_
          refine tm_aload_n dX11_given_35 rfl rfl ?_
          refine tm_get kX11 rfl (j := 24) (by decide) wfX11_74 dX11_given_36 (v := tr 1224 0) rfl ?_
          refine tm_sipush (v := 200) dX11_given_39 (by decide) ?_
          refine tm_iload_n dX11_given_42 rfl rfl ?_
          refine tm_imul dX11_given_43 ?_
          refine tm_iload_n dX11_given_44 rfl rfl ?_
          refine tm_iadd dX11_given_45 ?_
          obtain ⟨b9, h⟩ := chk_some h
          refine tm_lald rfl dX11_given_46 (inb_vp b9) ?_
          obtain ⟨M10, eM10, h⟩ := bnd_some h
          refine tm_put kX11 rfl (j := 29) (by decide) wfX11_443 rfl dX11_given_47 (fun _ => ⟨rfl, rfl⟩) (tPut_L (mL M 1224 0 (((200 * a1) + a2).toNatClampNeg)) rfl) ?_
          refine tm_nmM eM10 ?_
          refine tm_iconst (v := 1) dX11_given_50 (by decide) ?_
          obtain ⟨rfl, rfl⟩ := pj2 h
          exact tm_iret rfl dX11_given_51
        · rw [if_neg c8] at h
          refine tm_bipush (v := (-9)) dX11_given_31 (by decide) ?_
          obtain ⟨rfl, rfl⟩ := pj2 h
          exact tm_iret rfl dX11_given_33
      · rw [if_pos c6] at h
        refine tm_iconst (v := (-1)) dX11_given_19 (by decide) ?_
        obtain ⟨rfl, rfl⟩ := pj2 h
        exact tm_iret rfl dX11_given_20
  exact TMet.of (by decide) (Nat.le_of_ble_eq_true rfl) key
abbrev iX11_asked : tY := (RX11, cX11_asked, 1, some .long, "asked")
abbrev rmX11_asked : Room := { frames := 0, cells := 0, slots := 0, locals := 0 }
def fX11_asked  (M : tM) : Option (Int64) :=
  some (mL M 11 0 29)
set_option maxHeartbeats 4000000 in
set_option maxRecDepth 100000 in
theorem okX11_asked {g : tG}  {M : tM} {v : Int64} (h : fX11_asked  M = some v) : TMet g yX11_asked (Cond.code yX11_asked cX11_asked 1 (some .long) :: tgd) rmX11_asked [tr 11 0] M (some (tl v)) M 0 0 := by
  have key : TW g iX11_asked rmX11_asked 0 0 (some (tl v)) M 0 0 0 [(0, tr 11 0)] [] M := by
    rw [fX11_asked] at h
    refine tm_aload_n dX11_asked_0 rfl rfl ?_
    refine tm_get kX11 rfl (j := 29) (by decide) wfX11_443 dX11_asked_1 (v := tl (mL M 11 0 29)) rfl ?_
    obtain rfl := Option.some.inj h
    exact tm_lret rfl dX11_asked_4
  exact TMet.of (by decide) (Nat.le_of_ble_eq_true rfl) key
abbrev iX11_many : tY := (RX11, cX11_many, 2, some .int, "many")
abbrev rmX11_many : Room := { frames := 0, cells := 0, slots := 0, locals := 0 }
def fX11_many (a1 : Int32) (M : tM) : Option (Int32) :=
  if a1.toInt < 0 ∨ 4 < a1.toInt then (
  some (-1)
  ) else (
  if a1 = 0 then (
  some (mI M 11 0 2)
  ) else (
  if a1 = 1 then (
  some (mI M 11 0 12)
  ) else (
  if a1 = 2 then (
  some (mI M 11 0 25)
  ) else (
  if a1 = 3 then (
  some (mI M 11 0 43)
  ) else (
  if a1 = 4 then (
  some (mI M 11 0 65)
  ) else (
  none))))))
set_option maxHeartbeats 4000000 in
set_option maxRecDepth 100000 in
theorem okX11_many {g : tG} {a1 : Int32} {M : tM} {v : Int32} (h : fX11_many a1 M = some v) : TMet g yX11_many (Cond.code yX11_many cX11_many 2 (some .int) :: tgd) rmX11_many [tr 11 0, ti a1] M (some (ti v)) M 0 0 := by
  have key : TW g iX11_many rmX11_many 0 0 (some (ti v)) M 0 0 0 [(0, tr 11 0), (1, ti a1)] [] M := by
    rw [fX11_many] at h
    refine tm_iload_n dX11_many_0 rfl rfl ?_
    by_cases c1 : a1.toInt < 0 ∨ 4 < a1.toInt
    · rw [if_pos c1] at h
      refine tm_tableOut (tgt := 61) dX11_many_1 c1 (by decide) ?_
      refine tm_iconst (v := (-1)) dX11_many_61 (by decide) ?_
      obtain rfl := Option.some.inj h
      exact tm_iret rfl dX11_many_62
    · rw [if_neg c1] at h
      by_cases c2 : a1 = 0
      · rw [if_pos c2] at h
        subst c2
        refine tm_tableIn (tgt := 36) dX11_many_1 (by decide) (by decide) rfl (by decide) ?_
        refine tm_aload_n dX11_many_36 rfl rfl ?_
        refine tm_get kX11 rfl (j := 2) (by decide) wfX11_202 dX11_many_37 (v := ti (mI M 11 0 2)) rfl ?_
        obtain rfl := Option.some.inj h
        exact tm_iret rfl dX11_many_40
      · rw [if_neg c2] at h
        by_cases c3 : a1 = 1
        · rw [if_pos c3] at h
          subst c3
          refine tm_tableIn (tgt := 41) dX11_many_1 (by decide) (by decide) rfl (by decide) ?_
          refine tm_aload_n dX11_many_41 rfl rfl ?_
          refine tm_get kX11 rfl (j := 12) (by decide) wfX11_209 dX11_many_42 (v := ti (mI M 11 0 12)) rfl ?_
          obtain rfl := Option.some.inj h
          exact tm_iret rfl dX11_many_45
        · rw [if_neg c3] at h
          by_cases c4 : a1 = 2
          · rw [if_pos c4] at h
            subst c4
            refine tm_tableIn (tgt := 46) dX11_many_1 (by decide) (by decide) rfl (by decide) ?_
            refine tm_aload_n dX11_many_46 rfl rfl ?_
            refine tm_get kX11 rfl (j := 25) (by decide) wfX11_212 dX11_many_47 (v := ti (mI M 11 0 25)) rfl ?_
            obtain rfl := Option.some.inj h
            exact tm_iret rfl dX11_many_50
          · rw [if_neg c4] at h
            by_cases c5 : a1 = 3
            · rw [if_pos c5] at h
              subst c5
              refine tm_tableIn (tgt := 51) dX11_many_1 (by decide) (by decide) rfl (by decide) ?_
              refine tm_aload_n dX11_many_51 rfl rfl ?_
              refine tm_get kX11 rfl (j := 43) (by decide) wfX11_113 dX11_many_52 (v := ti (mI M 11 0 43)) rfl ?_
              obtain rfl := Option.some.inj h
              exact tm_iret rfl dX11_many_55
            · rw [if_neg c5] at h
              by_cases c6 : a1 = 4
              · rw [if_pos c6] at h
                subst c6
                refine tm_tableIn (tgt := 56) dX11_many_1 (by decide) (by decide) rfl (by decide) ?_
                refine tm_aload_n dX11_many_56 rfl rfl ?_
                refine tm_get kX11 rfl (j := 65) (by decide) wfX11_365 dX11_many_57 (v := ti (mI M 11 0 65)) rfl ?_
                obtain rfl := Option.some.inj h
                exact tm_iret rfl dX11_many_60
              · rw [if_neg c6] at h
                cases h
  exact TMet.of (by decide) (Nat.le_of_ble_eq_true rfl) key
abbrev iX11_finding : tY := (RX11, cX11_finding, 1, some .int, "finding")
abbrev rmX11_finding : Room := { frames := 0, cells := 0, slots := 0, locals := 0 }
def fX11_finding  (M : tM) : Option (Int32) :=
  some (mI M 11 0 0)
set_option maxHeartbeats 4000000 in
set_option maxRecDepth 100000 in
theorem okX11_finding {g : tG}  {M : tM} {v : Int32} (h : fX11_finding  M = some v) : TMet g yX11_finding (Cond.code yX11_finding cX11_finding 1 (some .int) :: tgd) rmX11_finding [tr 11 0] M (some (ti v)) M 0 0 := by
  have key : TW g iX11_finding rmX11_finding 0 0 (some (ti v)) M 0 0 0 [(0, tr 11 0)] [] M := by
    rw [fX11_finding] at h
    refine tm_aload_n dX11_finding_0 rfl rfl ?_
    refine tm_get kX11 rfl (j := 0) (by decide) wfX11_199 dX11_finding_1 (v := ti (mI M 11 0 0)) rfl ?_
    obtain rfl := Option.some.inj h
    exact tm_iret rfl dX11_finding_4
  exact TMet.of (by decide) (Nat.le_of_ble_eq_true rfl) key
abbrev iX11_findings : tY := (RX11, cX11_findings, 2, some .int, "findings")
abbrev rmX11_findings : Room := { frames := 1, cells := 0, slots := 0, locals := 22 }
def fX11_findings (a1 : Int32) (M : tM) : Option (Int32) :=
  (fX11_in a1 1 5 M).bind fun x1 =>
  if x1 = 0 then (
  some (-1)
  ) else (
  chk (inb a1 (mN M 1201 0)) <|
  some (mI M 1201 0 (a1.toNatClampNeg))
  )
set_option maxHeartbeats 4000000 in
set_option maxRecDepth 100000 in
theorem okX11_findings {g : tG} {a1 : Int32} {M : tM} {v : Int32} (h : fX11_findings a1 M = some v) : TMet g yX11_findings (Cond.code yX11_findings cX11_findings 2 (some .int) :: tgd) rmX11_findings [tr 11 0, ti a1] M (some (ti v)) M 0 0 := by
  have key : TW g iX11_findings rmX11_findings 0 0 (some (ti v)) M 0 0 0 [(0, tr 11 0), (1, ti a1)] [] M := by
    rw [fX11_findings] at h
    refine tm_iload_n dX11_findings_0 rfl rfl ?_
    refine tm_iconst (v := 1) dX11_findings_1 (by decide) ?_
    refine tm_iconst (v := 5) dX11_findings_2 (by decide) ?_
    obtain ⟨x1, hc2, h⟩ := obind_some h
    refine tm_callS (avs := [ti a1, ti 1, ti 5]) (st := []) (okX11_in hc2) wcX11_205.1 wcX11_205.2.1 wcX11_205.2.2 ⟨rfl, rfl, Nat.le_of_ble_eq_true rfl, Nat.le_of_ble_eq_true rfl⟩ rfl (Nat.le_of_ble_eq_true rfl) ⟨Nat.zero_le _, Nat.zero_le _⟩ dX11_findings_3 ?_
    refine tm_if_eq (tgt := 18) dX11_findings_6 (by decide) (fun c3 => ?_) (fun c3 => ?_)
    · rw [if_pos c3] at h
      refine tm_iconst (v := (-1)) dX11_findings_18 (by decide) ?_
      obtain rfl := Option.some.inj h
      exact tm_iret rfl dX11_findings_19
    · rw [if_neg c3] at h
      refine tm_aload_n dX11_findings_9 rfl rfl ?_
      refine tm_get kX11 rfl (j := 1) (by decide) wfX11_7 dX11_findings_10 (v := tr 1201 0) rfl ?_
      refine tm_iload_n dX11_findings_13 rfl rfl ?_
      obtain ⟨b4, h⟩ := chk_some h
      refine tm_iald rfl dX11_findings_14 (inb_vp b4) ?_
      refine tm_goto (tgt := 19) dX11_findings_15 (by decide) ?_
      obtain rfl := Option.some.inj h
      exact tm_iret rfl dX11_findings_19
  exact TMet.of (by decide) (Nat.le_of_ble_eq_true rfl) key
theorem wconstlX11_446 : Cond.constantLong RX11 446 17 ∈ tgd := (tgd_t 1858 (by decide +kernel) (by decide +kernel))
theorem wconstlX11_448 : Cond.constantLong RX11 448 31 ∈ tgd := (tgd_t 1859 (by decide +kernel) (by decide +kernel))
abbrev iX11_digest : tY := (RX11, cX11_digest, 5, some .long, "digest")
abbrev rmX11_digest : Room := { frames := 1, cells := 0, slots := 0, locals := 22 }
def fX11_digest_l17 (z3 : Int32) (M : tM) : Nat → Int64 → Int32 → Option (Int64)
  | 0, _, _ => none
  | n + 1, y1, y4 =>
    if 4 < y4 then (
    some y1
    ) else (
    (fX11_tells z3 y4 M).bind fun x3 =>
    bnd ((31 * y1) + (x3.toInt64)) fun x5 =>
    bnd (y4 + 1) fun x6 =>
    fX11_digest_l17 z3 M n x5 x6
    )
def fX11_digest_l72 (z3 : Int32) (M : tM) : Nat → Int64 → Int32 → Option (Int64)
  | 0, _, _ => none
  | n + 1, y1, y4 =>
    chk (inb z3 (mN M 1208 0)) <|
    if (mI M 1208 0 (z3.toNatClampNeg)) ≤ y4 then (
    some y1
    ) else (
    chk (inb ((12 * z3) + y4) (mN M 1209 0)) <|
    bnd ((31 * y1) + (mL M 1209 0 (((12 * z3) + y4).toNatClampNeg))) fun x16 =>
    bnd (y4 + 1) fun x17 =>
    fX11_digest_l72 z3 M n x16 x17
    )
def fX11_digest_l6  (M : tM) : Nat → Int64 → Int32 → Option (Int64)
  | 0, _, _ => none
  | n + 1, y1, y3 =>
    if (mI M 11 0 2) ≤ y3 then (
    some y1
    ) else (
    Option.bind (fX11_digest_l17 y3 M FU y1 0) fun x9 =>
    chk (inb y3 (mN M 1219 0)) <|
    chk (inb y3 (mN M 1220 0)) <|
    bnd ((31 * ((31 * x9) + ((mI M 1219 0 (y3.toNatClampNeg)).toInt64))) + (mL M 1220 0 (y3.toNatClampNeg))) fun x12 =>
    Option.bind (fX11_digest_l72 y3 M FU x12 0) fun x20 =>
    bnd (y3 + 1) fun x21 =>
    fX11_digest_l6 M n x20 x21
    )
def fX11_digest_l127 (z3 : Int32) (M : tM) : Nat → Int64 → Int32 → Option (Int64)
  | 0, _, _ => none
  | n + 1, y1, y4 =>
    if 4 < y4 then (
    some y1
    ) else (
    (fX11_endsOf z3 y4 M).bind fun x27 =>
    bnd ((31 * y1) + (x27.toInt64)) fun x29 =>
    bnd (y4 + 1) fun x30 =>
    fX11_digest_l127 z3 M n x29 x30
    )
def fX11_digest_l171 (z3 : Int32) (M : tM) : Nat → Int64 → Int32 → Option (Int64)
  | 0, _, _ => none
  | n + 1, y1, y4 =>
    chk (inb z3 (mN M 1221 0)) <|
    if (mI M 1221 0 (z3.toNatClampNeg)) ≤ y4 then (
    some y1
    ) else (
    chk (inb ((450 * z3) + y4) (mN M 1222 0)) <|
    bnd ((31 * y1) + (mL M 1222 0 (((450 * z3) + y4).toNatClampNeg))) fun x39 =>
    bnd (y4 + 1) fun x40 =>
    fX11_digest_l171 z3 M n x39 x40
    )
def fX11_digest_l116  (M : tM) : Nat → Int64 → Int32 → Option (Int64)
  | 0, _, _ => none
  | n + 1, y1, y3 =>
    if (mI M 11 0 12) ≤ y3 then (
    some y1
    ) else (
    Option.bind (fX11_digest_l127 y3 M FU y1 0) fun x33 =>
    chk (inb y3 (mN M 1221 0)) <|
    bnd ((31 * x33) + ((mI M 1221 0 (y3.toNatClampNeg)).toInt64)) fun x35 =>
    Option.bind (fX11_digest_l171 y3 M FU x35 0) fun x43 =>
    bnd (y3 + 1) fun x44 =>
    fX11_digest_l116 M n x43 x44
    )
def fX11_digest_l216  (M : tM) : Nat → Int64 → Int32 → Option (Int64)
  | 0, _, _ => none
  | n + 1, y1, y3 =>
    if (mI M 11 0 43) ≤ y3 then (
    some y1
    ) else (
    chk (inb y3 (mN M 1242 0)) <|
    bnd ((31 * y1) + ((mI M 1242 0 (y3.toNatClampNeg)).toInt64)) fun x50 =>
    bnd (y3 + 1) fun x51 =>
    fX11_digest_l216 M n x50 x51
    )
def fX11_digest  (M : tM) : Option (Int64) :=
  Option.bind (fX11_digest_l6 M FU 17 0) fun x24 =>
  Option.bind (fX11_digest_l116 M FU x24 0) fun x47 =>
  Option.bind (fX11_digest_l216 M FU x47 0) fun x54 =>
  some x54
set_option maxHeartbeats 4000000 in
set_option maxRecDepth 100000 in
theorem okX11_digest_l17 {g : tG} (z3 : Int32) (M : tM) {r : Option tV} {Mz : tM} : ∀ (n : Nat) (y1 : Int64) (y4 : Int32) (w : Int64), fX11_digest_l17 z3 M n y1 y4 = some w → (∀ (w1 : Int64), w1 = w → TW g iX11_digest rmX11_digest 0 0 r Mz 0 0 44 [(0, tr 11 0), (1, tl w1), (3, ti z3)] [] M) → TW g iX11_digest rmX11_digest 0 0 r Mz 0 0 17 [(0, tr 11 0), (1, tl y1), (3, ti z3), (4, ti y4)] [] M := by
  intro n
  induction n with
  | zero => intro y1 y4 w h; cases h
  | succ n ih =>
    intro y1 y4 w h J
    rw [fX11_digest_l17] at h
    refine tm_iload dX11_digest_17 rfl ?_
    refine tm_iconst (v := 4) dX11_digest_19 (by decide) ?_
    refine tm_icmp_gt (tgt := 44) dX11_digest_20 (by decide) (fun c2 => ?_) (fun c2 => ?_)
    · rw [if_pos c2] at h
      obtain rfl := Option.some.inj h
      refine tm_lcp [0, 1, 3] rfl ?_
      exact J _ rfl
    · rw [if_neg c2] at h
      refine tm_ldc2 (v := 31) dX11_digest_23 wconstlX11_448 ?_
      refine tm_lload_n dX11_digest_26 rfl rfl ?_
      refine tm_lmul dX11_digest_27 ?_
      refine tm_aload_n dX11_digest_28 rfl rfl ?_
      refine tm_iload_n dX11_digest_29 rfl rfl ?_
      refine tm_iload dX11_digest_30 rfl ?_
      obtain ⟨x3, hc4, h⟩ := obind_some h
      refine tm_callV kX11 rfl (avs := [ti z3, ti y4]) (st := [tl (31 * y1)]) (okX11_tells hc4) wcX11_238.1 wcX11_238.2.1 wcX11_238.2.2.1 wcX11_238.2.2.2 ⟨rfl, rfl, Nat.le_of_ble_eq_true rfl, Nat.le_of_ble_eq_true rfl⟩ rfl (Nat.le_of_ble_eq_true rfl) ⟨Nat.zero_le _, Nat.zero_le _⟩ dX11_digest_32 ?_
      refine tm_i2l dX11_digest_35 ?_
      refine tm_ladd dX11_digest_36 ?_
      obtain ⟨x5, ex5, h⟩ := bnd_some h
      refine tm_nmL ex5 ?_
      refine tm_lstore_n (lc' := [(1, tl x5), (0, tr 11 0), (3, ti z3), (4, ti y4)]) dX11_digest_37 rfl (by decide) rfl ?_
      obtain ⟨x6, ex6, h⟩ := bnd_some h
      refine tm_iinc (v := x6) (lc' := [(4, ti x6), (1, tl x5), (0, tr 11 0), (3, ti z3)]) dX11_digest_38 rfl (by rw [ex6]; rfl) (by decide) rfl ?_
      refine tm_goto (tgt := 17) dX11_digest_41 (by decide) ?_
      refine tm_lcp [0, 1, 3, 4] rfl ?_
      exact ih x5 x6 _ h J
set_option maxHeartbeats 4000000 in
set_option maxRecDepth 100000 in
theorem okX11_digest_l72 {g : tG} (z3 : Int32) (M : tM) {r : Option tV} {Mz : tM} : ∀ (n : Nat) (y1 : Int64) (y4 : Int32) (w : Int64), fX11_digest_l72 z3 M n y1 y4 = some w → (∀ (w1 : Int64), w1 = w → TW g iX11_digest rmX11_digest 0 0 r Mz 0 0 108 [(0, tr 11 0), (1, tl w1), (3, ti z3)] [] M) → TW g iX11_digest rmX11_digest 0 0 r Mz 0 0 72 [(0, tr 11 0), (1, tl y1), (3, ti z3), (4, ti y4)] [] M := by
  intro n
  induction n with
  | zero => intro y1 y4 w h; cases h
  | succ n ih =>
    intro y1 y4 w h J
    rw [fX11_digest_l72] at h
    refine tm_iload dX11_digest_72 rfl ?_
    refine tm_aload_n dX11_digest_74 rfl rfl ?_
    refine tm_get kX11 rfl (j := 8) (by decide) wfX11_29 dX11_digest_75 (v := tr 1208 0) rfl ?_
    refine tm_iload_n dX11_digest_78 rfl rfl ?_
    obtain ⟨b13, h⟩ := chk_some h
    refine tm_iald rfl dX11_digest_79 (inb_vp b13) ?_
    refine tm_icmp_ge (tgt := 108) dX11_digest_80 (by decide) (fun c14 => ?_) (fun c14 => ?_)
    · rw [if_pos c14] at h
      obtain rfl := Option.some.inj h
      refine tm_lcp [0, 1, 3] rfl ?_
      exact J _ rfl
    · rw [if_neg c14] at h
      refine tm_ldc2 (v := 31) dX11_digest_83 wconstlX11_448 ?_
      refine tm_lload_n dX11_digest_86 rfl rfl ?_
      refine tm_lmul dX11_digest_87 ?_
      refine tm_aload_n dX11_digest_88 rfl rfl ?_
      refine tm_get kX11 rfl (j := 9) (by decide) wfX11_32 dX11_digest_89 (v := tr 1209 0) rfl ?_
      refine tm_bipush (v := 12) dX11_digest_92 (by decide) ?_
      refine tm_iload_n dX11_digest_94 rfl rfl ?_
      refine tm_imul dX11_digest_95 ?_
      refine tm_iload dX11_digest_96 rfl ?_
      refine tm_iadd dX11_digest_98 ?_
      obtain ⟨b15, h⟩ := chk_some h
      refine tm_lald rfl dX11_digest_99 (inb_vp b15) ?_
      refine tm_ladd dX11_digest_100 ?_
      obtain ⟨x16, ex16, h⟩ := bnd_some h
      refine tm_nmL ex16 ?_
      refine tm_lstore_n (lc' := [(1, tl x16), (0, tr 11 0), (3, ti z3), (4, ti y4)]) dX11_digest_101 rfl (by decide) rfl ?_
      obtain ⟨x17, ex17, h⟩ := bnd_some h
      refine tm_iinc (v := x17) (lc' := [(4, ti x17), (1, tl x16), (0, tr 11 0), (3, ti z3)]) dX11_digest_102 rfl (by rw [ex17]; rfl) (by decide) rfl ?_
      refine tm_goto (tgt := 72) dX11_digest_105 (by decide) ?_
      refine tm_lcp [0, 1, 3, 4] rfl ?_
      exact ih x16 x17 _ h J
set_option maxHeartbeats 4000000 in
set_option maxRecDepth 100000 in
theorem okX11_digest_l6 {g : tG}  (M : tM) {r : Option tV} {Mz : tM} : ∀ (n : Nat) (y1 : Int64) (y3 : Int32) (w : Int64), fX11_digest_l6 M n y1 y3 = some w → (∀ (w1 : Int64), w1 = w → TW g iX11_digest rmX11_digest 0 0 r Mz 0 0 114 [(0, tr 11 0), (1, tl w1)] [] M) → TW g iX11_digest rmX11_digest 0 0 r Mz 0 0 6 [(0, tr 11 0), (1, tl y1), (3, ti y3)] [] M := by
  intro n
  induction n with
  | zero => intro y1 y3 w h; cases h
  | succ n ih =>
    intro y1 y3 w h J
    rw [fX11_digest_l6] at h
    refine tm_iload_n dX11_digest_6 rfl rfl ?_
    refine tm_aload_n dX11_digest_7 rfl rfl ?_
    refine tm_get kX11 rfl (j := 2) (by decide) wfX11_202 dX11_digest_8 (v := ti (mI M 11 0 2)) rfl ?_
    refine tm_icmp_ge (tgt := 114) dX11_digest_11 (by decide) (fun c1 => ?_) (fun c1 => ?_)
    · rw [if_pos c1] at h
      obtain rfl := Option.some.inj h
      refine tm_lcp [0, 1] rfl ?_
      exact J _ rfl
    · rw [if_neg c1] at h
      refine tm_iconst (v := 0) dX11_digest_14 (by decide) ?_
      refine tm_istore (lc' := [(4, ti 0), (0, tr 11 0), (1, tl y1), (3, ti y3)]) dX11_digest_15 (by decide) rfl ?_
      obtain ⟨w7, hE8, h⟩ := obind_some h
      refine tm_lcp [0, 1, 3, 4] rfl ?_
      refine okX11_digest_l17 y3 M FU y1 0 _ hE8 (fun x9 e => ?_)
      subst e
      refine tm_ldc2 (v := 31) dX11_digest_44 wconstlX11_448 ?_
      refine tm_ldc2 (v := 31) dX11_digest_47 wconstlX11_448 ?_
      refine tm_lload_n dX11_digest_50 rfl rfl ?_
      refine tm_lmul dX11_digest_51 ?_
      refine tm_aload_n dX11_digest_52 rfl rfl ?_
      refine tm_get kX11 rfl (j := 19) (by decide) wfX11_59 dX11_digest_53 (v := tr 1219 0) rfl ?_
      refine tm_iload_n dX11_digest_56 rfl rfl ?_
      obtain ⟨b10, h⟩ := chk_some h
      refine tm_iald rfl dX11_digest_57 (inb_vp b10) ?_
      refine tm_i2l dX11_digest_58 ?_
      refine tm_ladd dX11_digest_59 ?_
      refine tm_lmul dX11_digest_60 ?_
      refine tm_aload_n dX11_digest_61 rfl rfl ?_
      refine tm_get kX11 rfl (j := 20) (by decide) wfX11_62 dX11_digest_62 (v := tr 1220 0) rfl ?_
      refine tm_iload_n dX11_digest_65 rfl rfl ?_
      obtain ⟨b11, h⟩ := chk_some h
      refine tm_lald rfl dX11_digest_66 (inb_vp b11) ?_
      refine tm_ladd dX11_digest_67 ?_
      obtain ⟨x12, ex12, h⟩ := bnd_some h
      refine tm_nmL ex12 ?_
      refine tm_lstore_n (lc' := [(1, tl x12), (0, tr 11 0), (3, ti y3)]) dX11_digest_68 rfl (by decide) rfl ?_
      refine tm_iconst (v := 0) dX11_digest_69 (by decide) ?_
      refine tm_istore (lc' := [(4, ti 0), (1, tl x12), (0, tr 11 0), (3, ti y3)]) dX11_digest_70 (by decide) rfl ?_
      obtain ⟨w18, hE19, h⟩ := obind_some h
      refine tm_lcp [0, 1, 3, 4] rfl ?_
      refine okX11_digest_l72 y3 M FU x12 0 _ hE19 (fun x20 e => ?_)
      subst e
      obtain ⟨x21, ex21, h⟩ := bnd_some h
      refine tm_iinc (v := x21) (lc' := [(3, ti x21), (0, tr 11 0), (1, tl x20)]) dX11_digest_108 rfl (by rw [ex21]; rfl) (by decide) rfl ?_
      refine tm_goto (tgt := 6) dX11_digest_111 (by decide) ?_
      refine tm_lcp [0, 1, 3] rfl ?_
      exact ih x20 x21 _ h J
set_option maxHeartbeats 4000000 in
set_option maxRecDepth 100000 in
theorem okX11_digest_l127 {g : tG} (z3 : Int32) (M : tM) {r : Option tV} {Mz : tM} : ∀ (n : Nat) (y1 : Int64) (y4 : Int32) (w : Int64), fX11_digest_l127 z3 M n y1 y4 = some w → (∀ (w1 : Int64), w1 = w → TW g iX11_digest rmX11_digest 0 0 r Mz 0 0 154 [(0, tr 11 0), (1, tl w1), (3, ti z3)] [] M) → TW g iX11_digest rmX11_digest 0 0 r Mz 0 0 127 [(0, tr 11 0), (1, tl y1), (3, ti z3), (4, ti y4)] [] M := by
  intro n
  induction n with
  | zero => intro y1 y4 w h; cases h
  | succ n ih =>
    intro y1 y4 w h J
    rw [fX11_digest_l127] at h
    refine tm_iload dX11_digest_127 rfl ?_
    refine tm_iconst (v := 4) dX11_digest_129 (by decide) ?_
    refine tm_icmp_gt (tgt := 154) dX11_digest_130 (by decide) (fun c26 => ?_) (fun c26 => ?_)
    · rw [if_pos c26] at h
      obtain rfl := Option.some.inj h
      refine tm_lcp [0, 1, 3] rfl ?_
      exact J _ rfl
    · rw [if_neg c26] at h
      refine tm_ldc2 (v := 31) dX11_digest_133 wconstlX11_448 ?_
      refine tm_lload_n dX11_digest_136 rfl rfl ?_
      refine tm_lmul dX11_digest_137 ?_
      refine tm_aload_n dX11_digest_138 rfl rfl ?_
      refine tm_iload_n dX11_digest_139 rfl rfl ?_
      refine tm_iload dX11_digest_140 rfl ?_
      obtain ⟨x27, hc28, h⟩ := obind_some h
      refine tm_callV kX11 rfl (avs := [ti z3, ti y4]) (st := [tl (31 * y1)]) (okX11_endsOf hc28) wcX11_245.1 wcX11_245.2.1 wcX11_245.2.2.1 wcX11_245.2.2.2 ⟨rfl, rfl, Nat.le_of_ble_eq_true rfl, Nat.le_of_ble_eq_true rfl⟩ rfl (Nat.le_of_ble_eq_true rfl) ⟨Nat.zero_le _, Nat.zero_le _⟩ dX11_digest_142 ?_
      refine tm_i2l dX11_digest_145 ?_
      refine tm_ladd dX11_digest_146 ?_
      obtain ⟨x29, ex29, h⟩ := bnd_some h
      refine tm_nmL ex29 ?_
      refine tm_lstore_n (lc' := [(1, tl x29), (0, tr 11 0), (3, ti z3), (4, ti y4)]) dX11_digest_147 rfl (by decide) rfl ?_
      obtain ⟨x30, ex30, h⟩ := bnd_some h
      refine tm_iinc (v := x30) (lc' := [(4, ti x30), (1, tl x29), (0, tr 11 0), (3, ti z3)]) dX11_digest_148 rfl (by rw [ex30]; rfl) (by decide) rfl ?_
      refine tm_goto (tgt := 127) dX11_digest_151 (by decide) ?_
      refine tm_lcp [0, 1, 3, 4] rfl ?_
      exact ih x29 x30 _ h J
set_option maxHeartbeats 4000000 in
set_option maxRecDepth 100000 in
theorem okX11_digest_l171 {g : tG} (z3 : Int32) (M : tM) {r : Option tV} {Mz : tM} : ∀ (n : Nat) (y1 : Int64) (y4 : Int32) (w : Int64), fX11_digest_l171 z3 M n y1 y4 = some w → (∀ (w1 : Int64), w1 = w → TW g iX11_digest rmX11_digest 0 0 r Mz 0 0 208 [(0, tr 11 0), (1, tl w1), (3, ti z3)] [] M) → TW g iX11_digest rmX11_digest 0 0 r Mz 0 0 171 [(0, tr 11 0), (1, tl y1), (3, ti z3), (4, ti y4)] [] M := by
  intro n
  induction n with
  | zero => intro y1 y4 w h; cases h
  | succ n ih =>
    intro y1 y4 w h J
    rw [fX11_digest_l171] at h
    refine tm_iload dX11_digest_171 rfl ?_
    refine tm_aload_n dX11_digest_173 rfl rfl ?_
    refine tm_get kX11 rfl (j := 21) (by decide) wfX11_65 dX11_digest_174 (v := tr 1221 0) rfl ?_
    refine tm_iload_n dX11_digest_177 rfl rfl ?_
    obtain ⟨b36, h⟩ := chk_some h
    refine tm_iald rfl dX11_digest_178 (inb_vp b36) ?_
    refine tm_icmp_ge (tgt := 208) dX11_digest_179 (by decide) (fun c37 => ?_) (fun c37 => ?_)
    · rw [if_pos c37] at h
      obtain rfl := Option.some.inj h
      refine tm_lcp [0, 1, 3] rfl ?_
      exact J _ rfl
    · rw [if_neg c37] at h
      refine tm_ldc2 (v := 31) dX11_digest_182 wconstlX11_448 ?_
      refine tm_lload_n dX11_digest_185 rfl rfl ?_
      refine tm_lmul dX11_digest_186 ?_
      refine tm_aload_n dX11_digest_187 rfl rfl ?_
      refine tm_get kX11 rfl (j := 22) (by decide) wfX11_68 dX11_digest_188 (v := tr 1222 0) rfl ?_
      refine tm_sipush (v := 450) dX11_digest_191 (by decide) ?_
      refine tm_iload_n dX11_digest_194 rfl rfl ?_
      refine tm_imul dX11_digest_195 ?_
      refine tm_iload dX11_digest_196 rfl ?_
      refine tm_iadd dX11_digest_198 ?_
      obtain ⟨b38, h⟩ := chk_some h
      refine tm_lald rfl dX11_digest_199 (inb_vp b38) ?_
      refine tm_ladd dX11_digest_200 ?_
      obtain ⟨x39, ex39, h⟩ := bnd_some h
      refine tm_nmL ex39 ?_
      refine tm_lstore_n (lc' := [(1, tl x39), (0, tr 11 0), (3, ti z3), (4, ti y4)]) dX11_digest_201 rfl (by decide) rfl ?_
      obtain ⟨x40, ex40, h⟩ := bnd_some h
      refine tm_iinc (v := x40) (lc' := [(4, ti x40), (1, tl x39), (0, tr 11 0), (3, ti z3)]) dX11_digest_202 rfl (by rw [ex40]; rfl) (by decide) rfl ?_
      refine tm_goto (tgt := 171) dX11_digest_205 (by decide) ?_
      refine tm_lcp [0, 1, 3, 4] rfl ?_
      exact ih x39 x40 _ h J
set_option maxHeartbeats 4000000 in
set_option maxRecDepth 100000 in
theorem okX11_digest_l116 {g : tG}  (M : tM) {r : Option tV} {Mz : tM} : ∀ (n : Nat) (y1 : Int64) (y3 : Int32) (w : Int64), fX11_digest_l116 M n y1 y3 = some w → (∀ (w1 : Int64), w1 = w → TW g iX11_digest rmX11_digest 0 0 r Mz 0 0 214 [(0, tr 11 0), (1, tl w1)] [] M) → TW g iX11_digest rmX11_digest 0 0 r Mz 0 0 116 [(0, tr 11 0), (1, tl y1), (3, ti y3)] [] M := by
  intro n
  induction n with
  | zero => intro y1 y3 w h; cases h
  | succ n ih =>
    intro y1 y3 w h J
    rw [fX11_digest_l116] at h
    refine tm_iload_n dX11_digest_116 rfl rfl ?_
    refine tm_aload_n dX11_digest_117 rfl rfl ?_
    refine tm_get kX11 rfl (j := 12) (by decide) wfX11_209 dX11_digest_118 (v := ti (mI M 11 0 12)) rfl ?_
    refine tm_icmp_ge (tgt := 214) dX11_digest_121 (by decide) (fun c25 => ?_) (fun c25 => ?_)
    · rw [if_pos c25] at h
      obtain rfl := Option.some.inj h
      refine tm_lcp [0, 1] rfl ?_
      exact J _ rfl
    · rw [if_neg c25] at h
      refine tm_iconst (v := 0) dX11_digest_124 (by decide) ?_
      refine tm_istore (lc' := [(4, ti 0), (0, tr 11 0), (1, tl y1), (3, ti y3)]) dX11_digest_125 (by decide) rfl ?_
      obtain ⟨w31, hE32, h⟩ := obind_some h
      refine tm_lcp [0, 1, 3, 4] rfl ?_
      refine okX11_digest_l127 y3 M FU y1 0 _ hE32 (fun x33 e => ?_)
      subst e
      refine tm_ldc2 (v := 31) dX11_digest_154 wconstlX11_448 ?_
      refine tm_lload_n dX11_digest_157 rfl rfl ?_
      refine tm_lmul dX11_digest_158 ?_
      refine tm_aload_n dX11_digest_159 rfl rfl ?_
      refine tm_get kX11 rfl (j := 21) (by decide) wfX11_65 dX11_digest_160 (v := tr 1221 0) rfl ?_
      refine tm_iload_n dX11_digest_163 rfl rfl ?_
      obtain ⟨b34, h⟩ := chk_some h
      refine tm_iald rfl dX11_digest_164 (inb_vp b34) ?_
      refine tm_i2l dX11_digest_165 ?_
      refine tm_ladd dX11_digest_166 ?_
      obtain ⟨x35, ex35, h⟩ := bnd_some h
      refine tm_nmL ex35 ?_
      refine tm_lstore_n (lc' := [(1, tl x35), (0, tr 11 0), (3, ti y3)]) dX11_digest_167 rfl (by decide) rfl ?_
      refine tm_iconst (v := 0) dX11_digest_168 (by decide) ?_
      refine tm_istore (lc' := [(4, ti 0), (1, tl x35), (0, tr 11 0), (3, ti y3)]) dX11_digest_169 (by decide) rfl ?_
      obtain ⟨w41, hE42, h⟩ := obind_some h
      refine tm_lcp [0, 1, 3, 4] rfl ?_
      refine okX11_digest_l171 y3 M FU x35 0 _ hE42 (fun x43 e => ?_)
      subst e
      obtain ⟨x44, ex44, h⟩ := bnd_some h
      refine tm_iinc (v := x44) (lc' := [(3, ti x44), (0, tr 11 0), (1, tl x43)]) dX11_digest_208 rfl (by rw [ex44]; rfl) (by decide) rfl ?_
      refine tm_goto (tgt := 116) dX11_digest_211 (by decide) ?_
      refine tm_lcp [0, 1, 3] rfl ?_
      exact ih x43 x44 _ h J
set_option maxHeartbeats 4000000 in
set_option maxRecDepth 100000 in
theorem okX11_digest_l216 {g : tG}  (M : tM) {r : Option tV} {Mz : tM} : ∀ (n : Nat) (y1 : Int64) (y3 : Int32) (w : Int64), fX11_digest_l216 M n y1 y3 = some w → (∀ (w1 : Int64), w1 = w → TW g iX11_digest rmX11_digest 0 0 r Mz 0 0 244 [(1, tl w1)] [] M) → TW g iX11_digest rmX11_digest 0 0 r Mz 0 0 216 [(0, tr 11 0), (1, tl y1), (3, ti y3)] [] M := by
  intro n
  induction n with
  | zero => intro y1 y3 w h; cases h
  | succ n ih =>
    intro y1 y3 w h J
    rw [fX11_digest_l216] at h
    refine tm_iload_n dX11_digest_216 rfl rfl ?_
    refine tm_aload_n dX11_digest_217 rfl rfl ?_
    refine tm_get kX11 rfl (j := 43) (by decide) wfX11_113 dX11_digest_218 (v := ti (mI M 11 0 43)) rfl ?_
    refine tm_icmp_ge (tgt := 244) dX11_digest_221 (by decide) (fun c48 => ?_) (fun c48 => ?_)
    · rw [if_pos c48] at h
      obtain rfl := Option.some.inj h
      refine tm_lcp [1] rfl ?_
      exact J _ rfl
    · rw [if_neg c48] at h
      refine tm_ldc2 (v := 31) dX11_digest_224 wconstlX11_448 ?_
      refine tm_lload_n dX11_digest_227 rfl rfl ?_
      refine tm_lmul dX11_digest_228 ?_
      refine tm_aload_n dX11_digest_229 rfl rfl ?_
      refine tm_get kX11 rfl (j := 42) (by decide) wfX11_110 dX11_digest_230 (v := tr 1242 0) rfl ?_
      refine tm_iload_n dX11_digest_233 rfl rfl ?_
      obtain ⟨b49, h⟩ := chk_some h
      refine tm_iald rfl dX11_digest_234 (inb_vp b49) ?_
      refine tm_i2l dX11_digest_235 ?_
      refine tm_ladd dX11_digest_236 ?_
      obtain ⟨x50, ex50, h⟩ := bnd_some h
      refine tm_nmL ex50 ?_
      refine tm_lstore_n (lc' := [(1, tl x50), (0, tr 11 0), (3, ti y3)]) dX11_digest_237 rfl (by decide) rfl ?_
      obtain ⟨x51, ex51, h⟩ := bnd_some h
      refine tm_iinc (v := x51) (lc' := [(3, ti x51), (1, tl x50), (0, tr 11 0)]) dX11_digest_238 rfl (by rw [ex51]; rfl) (by decide) rfl ?_
      refine tm_goto (tgt := 216) dX11_digest_241 (by decide) ?_
      refine tm_lcp [0, 1, 3] rfl ?_
      exact ih x50 x51 _ h J
set_option maxHeartbeats 4000000 in
set_option maxRecDepth 100000 in
theorem okX11_digest {g : tG}  {M : tM} {v : Int64} (h : fX11_digest  M = some v) : TMet g yX11_digest (Cond.code yX11_digest cX11_digest 5 (some .long) :: tgd) rmX11_digest [tr 11 0] M (some (tl v)) M 0 0 := by
  have key : TW g iX11_digest rmX11_digest 0 0 (some (tl v)) M 0 0 0 [(0, tr 11 0)] [] M := by
    rw [fX11_digest] at h
    refine tm_ldc2 (v := 17) dX11_digest_0 wconstlX11_446 ?_
    refine tm_lstore_n (lc' := [(1, tl 17), (0, tr 11 0)]) dX11_digest_3 rfl (by decide) rfl ?_
    refine tm_iconst (v := 0) dX11_digest_4 (by decide) ?_
    refine tm_istore_n (lc' := [(3, ti 0), (1, tl 17), (0, tr 11 0)]) dX11_digest_5 rfl (by decide) rfl ?_
    obtain ⟨w22, hE23, h⟩ := obind_some h
    refine tm_lcp [0, 1, 3] rfl ?_
    refine okX11_digest_l6 M FU 17 0 _ hE23 (fun x24 e => ?_)
    subst e
    refine tm_iconst (v := 0) dX11_digest_114 (by decide) ?_
    refine tm_istore_n (lc' := [(3, ti 0), (0, tr 11 0), (1, tl x24)]) dX11_digest_115 rfl (by decide) rfl ?_
    obtain ⟨w45, hE46, h⟩ := obind_some h
    refine tm_lcp [0, 1, 3] rfl ?_
    refine okX11_digest_l116 M FU x24 0 _ hE46 (fun x47 e => ?_)
    subst e
    refine tm_iconst (v := 0) dX11_digest_214 (by decide) ?_
    refine tm_istore_n (lc' := [(3, ti 0), (0, tr 11 0), (1, tl x47)]) dX11_digest_215 rfl (by decide) rfl ?_
    obtain ⟨w52, hE53, h⟩ := obind_some h
    refine tm_lcp [0, 1, 3] rfl ?_
    refine okX11_digest_l216 M FU x47 0 _ hE53 (fun x54 e => ?_)
    subst e
    refine tm_lload_n dX11_digest_244 rfl rfl ?_
    obtain rfl := Option.some.inj h
    exact tm_lret rfl dX11_digest_245
  exact TMet.of (by decide) (Nat.le_of_ble_eq_true rfl) key
