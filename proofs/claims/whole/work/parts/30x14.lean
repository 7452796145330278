theorem wfX10_286 : Cond.fieldLink RX10 286 "EvenFlow$Works" "done" "I" ∈ tgd := (tgd_t 320 (by decide +kernel) (by decide +kernel))
abbrev iX10_reset : tY := (RX10, cX10_reset, 2, some .int, "reset")
abbrev rmX10_reset : Room := { frames := 4, cells := 0, slots := 0, locals := 87 }
def fX10_reset  (M : tM) : Option (Int32 × tM) :=
  bnd (mI M 9 0 1) fun x1 =>
  (fX10_toFirstMarking M).bind fun M3 =>
  some ((x1, M3))
set_option maxHeartbeats 4000000 in
set_option maxRecDepth 100000 in
theorem okX10_reset {g : tG}  {M : tM} {v : Int32} {Mz : tM} (h : fX10_reset  M = some ((v, Mz))) : TMet g yX10_reset (Cond.code yX10_reset cX10_reset 2 (some .int) :: tgd) rmX10_reset [tr 10 0] M (some (ti v)) Mz 0 0 := by
  have key : TW g iX10_reset rmX10_reset 0 0 (some (ti v)) Mz 0 0 0 [(0, tr 10 0)] [] M := by
    rw [fX10_reset] at h
    refine tm_aload_n dX10_reset_0 rfl rfl ?_
    refine tm_get kX10 rfl (j := 6) (by decide) wfX10_61 dX10_reset_1 (v := tr 9 0) rfl ?_
    refine tm_get kX9 rfl (j := 1) (by decide) wfX10_286 dX10_reset_4 (v := ti (mI M 9 0 1)) rfl ?_
    replace h := bnd_some h
    obtain ⟨x1, ex1, h⟩ := h
    refine tm_nmI ex1 ?_
    refine tm_istore_n (lc' := [(1, ti x1), (0, tr 10 0)]) dX10_reset_7 rfl (by decide) rfl ?_
    refine tm_aload_n dX10_reset_8 rfl rfl ?_
    replace h := obind_some h
    obtain ⟨M3, hc2, h⟩ := h
    refine tm_callV kX10 rfl (avs := []) (st := []) (okX10_toFirstMarking hc2) wcX10_135.1 wcX10_135.2.1 wcX10_135.2.2.1 wcX10_135.2.2.2 ⟨rfl, rfl, Nat.le_of_ble_eq_true rfl, Nat.le_of_ble_eq_true rfl⟩ rfl (Nat.le_of_ble_eq_true rfl) ⟨Nat.zero_le _, Nat.zero_le _⟩ dX10_reset_9 ?_
    refine tm_iload_n dX10_reset_12 rfl rfl ?_
    obtain ⟨rfl, rfl⟩ := pj2 h
    exact tm_iret rfl dX10_reset_13
  exact TMet.of (by decide) (Nat.le_of_ble_eq_true rfl) key
theorem wfX10_289 : Cond.fieldLink RX10 289 "EvenFlow$Line" "size" "I" ∈ tgd := (tgd_t 590 (by decide +kernel) (by decide +kernel))
abbrev iX10_things : tY := (RX10, cX10_things, 3, some .int, "things")
abbrev rmX10_things : Room := { frames := 1, cells := 0, slots := 0, locals := 21 }
def fX10_things (a1 : Int32) (M : tM) : Option (Int32) :=
  (fX1_lineAt a1 M).bind fun r1 =>
  if r1 = none then (
  some (-1)
  ) else (
  Option.bind r1 fun i4 =>
  some (mI M 4 i4 9)
  )
set_option maxHeartbeats 4000000 in
set_option maxRecDepth 100000 in
theorem okX10_things {g : tG} {a1 : Int32} {M : tM} {v : Int32} (h : fX10_things a1 M = some v) : TMet g yX10_things (Cond.code yX10_things cX10_things 3 (some .int) :: tgd) rmX10_things [tr 10 0, ti a1] M (some (ti v)) M 0 0 := by
  have key : TW g iX10_things rmX10_things 0 0 (some (ti v)) M 0 0 0 [(0, tr 10 0), (1, ti a1)] [] M := by
    rw [fX10_things] at h
    refine tm_aload_n dX10_things_0 rfl rfl ?_
    refine tm_get kX10 rfl (j := 0) (by decide) wfX10_10 dX10_things_1 (v := tr 1 0) rfl ?_
    refine tm_iload_n dX10_things_4 rfl rfl ?_
    replace h := obind_some h
    obtain ⟨r1, hc2, h⟩ := h
    refine tm_callV kX1 rfl (avs := [ti a1]) (st := []) (okX1_lineAt hc2) wcX10_98.1 wcX10_98.2.1 wcX10_98.2.2.1 wcX10_98.2.2.2 ⟨rfl, rfl, Nat.le_of_ble_eq_true rfl, Nat.le_of_ble_eq_true rfl⟩ rfl (Nat.le_of_ble_eq_true rfl) ⟨Nat.zero_le _, Nat.zero_le _⟩ dX10_things_5 ?_
    refine tm_astore_n (lc' := [(2, tq 4 r1), (0, tr 10 0), (1, ti a1)]) dX10_things_8 rfl (by decide) rfl ?_
    refine tm_aload_n dX10_things_9 rfl rfl ?_
    refine tm_ifnonnull (k2 := 4) (q := r1) (tgt := 17) dX10_things_10 (by decide) (fun c3 => ?_) (fun c3 => ?_)
    · rw [if_neg c3] at h
      refine tm_aload_n dX10_things_17 rfl rfl ?_
      replace h := obind_some h
      obtain ⟨i4, ei4, h⟩ := h
      subst ei4
      refine tm_get kX4 rfl (j := 9) (by decide) wfX10_289 dX10_things_18 (v := ti (mI M 4 i4 9)) rfl ?_
      obtain rfl := Option.some.inj h
      exact tm_iret rfl dX10_things_21
    · rw [if_pos c3] at h
      refine tm_iconst (v := (-1)) dX10_things_13 (by decide) ?_
      refine tm_goto (tgt := 21) dX10_things_14 (by decide) ?_
      obtain rfl := Option.some.inj h
      exact tm_iret rfl dX10_things_21
  exact TMet.of (by decide) (Nat.le_of_ble_eq_true rfl) key
theorem wcX10_292 : tCB RX10 292 yX4_thingAt cX4_thingAt 2 (some .long) 1 ∧ Cond.methodLink RX10 292 yX4_thingAt ∈ tgd ∧ Cond.instanceMethod yX4_thingAt ∈ tgd ∧ Cond.selects RX4 yX4_thingAt yX4_thingAt ∈ tgd := ⟨⟨(tgd_t 1090 (by decide +kernel) (by decide +kernel)), (tgd_t 15 (by decide +kernel) (by decide +kernel)), by decide, by decide +kernel⟩, (tgd_t 1179 (by decide +kernel) (by decide +kernel)), (tgd_t 1088 (by decide +kernel) (by decide +kernel)), (tgd_t 1089 (by decide +kernel) (by decide +kernel))⟩
theorem wfX10_296 : Cond.fieldLink RX10 296 "EvenFlow" "latestAsked" "J" ∈ tgd := (tgd_t 354 (by decide +kernel) (by decide +kernel))
abbrev iX10_look : tY := (RX10, cX10_look, 4, some .int, "look")
abbrev rmX10_look : Room := { frames := 1, cells := 0, slots := 0, locals := 21 }
def fX10_look (a1 : Int32) (a2 : Int32) (M : tM) : Option (Int32 × tM) :=
  (fX1_lineAt a1 M).bind fun r1 =>
  if r1 = none then (
  some (((-1), M))
  ) else (
  if a2 < 0 then (
  (fX10_meets 2 M).bind fun (x5, M7) =>
  some ((x5, M7))
  ) else (
  Option.bind r1 fun i8 =>
  if a2 < (mI M 4 i8 9) then (
  (fX4_thingAt i8 a2 M).bind fun x10 =>
  bnd (sL M 10 0 11 x10) fun M12 =>
  some ((1, M12))
  ) else (
  (fX10_meets 2 M).bind fun (x13, M15) =>
  some ((x13, M15))
  )
  )
  )
set_option maxHeartbeats 4000000 in
set_option maxRecDepth 100000 in
theorem okX10_look {g : tG} {a1 : Int32} {a2 : Int32} {M : tM} {v : Int32} {Mz : tM} (h : fX10_look a1 a2 M = some ((v, Mz))) : TMet g yX10_look (Cond.code yX10_look cX10_look 4 (some .int) :: tgd) rmX10_look [tr 10 0, ti a1, ti a2] M (some (ti v)) Mz 0 0 := by
  have key : TW g iX10_look rmX10_look 0 0 (some (ti v)) Mz 0 0 0 [(0, tr 10 0), (1, ti a1), (2, ti a2)] [] M := by
    rw [fX10_look] at h
    refine tm_aload_n dX10_look_0 rfl rfl ?_
    refine tm_get kX10 rfl (j := 0) (by decide) wfX10_10 dX10_look_1 (v := tr 1 0) rfl ?_
    refine tm_iload_n dX10_look_4 rfl rfl ?_
    replace h := obind_some h
    obtain ⟨r1, hc2, h⟩ := h
    refine tm_callV kX1 rfl (avs := [ti a1]) (st := []) (okX1_lineAt hc2) wcX10_98.1 wcX10_98.2.1 wcX10_98.2.2.1 wcX10_98.2.2.2 ⟨rfl, rfl, Nat.le_of_ble_eq_true rfl, Nat.le_of_ble_eq_true rfl⟩ rfl (Nat.le_of_ble_eq_true rfl) ⟨Nat.zero_le _, Nat.zero_le _⟩ dX10_look_5 ?_
    refine tm_astore_n (lc' := [(3, tq 4 r1), (0, tr 10 0), (1, ti a1), (2, ti a2)]) dX10_look_8 rfl (by decide) rfl ?_
    refine tm_aload_n dX10_look_9 rfl rfl ?_
    refine tm_ifnonnull (k2 := 4) (q := r1) (tgt := 15) dX10_look_10 (by decide) (fun c3 => ?_) (fun c3 => ?_)
    · rw [if_neg c3] at h
      refine tm_iload_n dX10_look_15 rfl rfl ?_
      refine tm_if_lt (tgt := 27) dX10_look_16 (by decide) (fun c4 => ?_) (fun c4 => ?_)
      · rw [if_pos c4] at h
        refine tm_aload_n dX10_look_27 rfl rfl ?_
        refine tm_iconst (v := 2) dX10_look_28 (by decide) ?_
        replace h := obind_some h
        obtain ⟨⟨x5, M7⟩, hc6, h⟩ := h
        dsimp only at h
        refine tm_callV kX10 rfl (avs := [ti 2]) (st := []) (okX10_meets hc6) wcX10_76.1 wcX10_76.2.1 wcX10_76.2.2.1 wcX10_76.2.2.2 ⟨rfl, rfl, Nat.le_of_ble_eq_true rfl, Nat.le_of_ble_eq_true rfl⟩ rfl (Nat.le_of_ble_eq_true rfl) ⟨Nat.zero_le _, Nat.zero_le _⟩ dX10_look_29 ?_
        obtain ⟨rfl, rfl⟩ := pj2 h
        exact tm_iret rfl dX10_look_32
      · rw [if_neg c4] at h
        refine tm_iload_n dX10_look_19 rfl rfl ?_
        refine tm_aload_n dX10_look_20 rfl rfl ?_
        replace h := obind_some h
        obtain ⟨i8, ei8, h⟩ := h
        subst ei8
        refine tm_get kX4 rfl (j := 9) (by decide) wfX10_289 dX10_look_21 (v := ti (mI M 4 i8 9)) rfl ?_
        refine tm_icmp_lt (tgt := 33) dX10_look_24 (by decide) (fun c9 => ?_) (fun c9 => ?_)
        · rw [if_pos c9] at h
          refine tm_aload_n dX10_look_33 rfl rfl ?_
          refine tm_aload_n dX10_look_34 rfl rfl ?_
          refine tm_iload_n dX10_look_35 rfl rfl ?_
          replace h := obind_some h
          obtain ⟨x10, hc11, h⟩ := h
          refine tm_callV kX4 rfl (avs := [ti a2]) (st := [tr 10 0]) (okX4_thingAt hc11) wcX10_292.1 wcX10_292.2.1 wcX10_292.2.2.1 wcX10_292.2.2.2 ⟨rfl, rfl, Nat.le_of_ble_eq_true rfl, Nat.le_of_ble_eq_true rfl⟩ rfl (Nat.le_of_ble_eq_true rfl) ⟨Nat.zero_le _, Nat.zero_le _⟩ dX10_look_36 ?_
          replace h := bnd_some h
          obtain ⟨M12, eM12, h⟩ := h
          refine tm_put kX10 rfl (j := 11) (by decide) wfX10_296 rfl dX10_look_39 (fun _ => ⟨rfl, rfl⟩) (tPut_L x10 rfl) ?_
          refine tm_nmM eM12 ?_
          refine tm_iconst (v := 1) dX10_look_42 (by decide) ?_
          obtain ⟨rfl, rfl⟩ := pj2 h
          exact tm_iret rfl dX10_look_43
        · rw [if_neg c9] at h
          refine tm_aload_n dX10_look_27 rfl rfl ?_
          refine tm_iconst (v := 2) dX10_look_28 (by decide) ?_
          replace h := obind_some h
          obtain ⟨⟨x13, M15⟩, hc14, h⟩ := h
          dsimp only at h
          refine tm_callV kX10 rfl (avs := [ti 2]) (st := []) (okX10_meets hc14) wcX10_76.1 wcX10_76.2.1 wcX10_76.2.2.1 wcX10_76.2.2.2 ⟨rfl, rfl, Nat.le_of_ble_eq_true rfl, Nat.le_of_ble_eq_true rfl⟩ rfl (Nat.le_of_ble_eq_true rfl) ⟨Nat.zero_le _, Nat.zero_le _⟩ dX10_look_29 ?_
          obtain ⟨rfl, rfl⟩ := pj2 h
          exact tm_iret rfl dX10_look_32
    · rw [if_pos c3] at h
      refine tm_iconst (v := (-1)) dX10_look_13 (by decide) ?_
      obtain ⟨rfl, rfl⟩ := pj2 h
      exact tm_iret rfl dX10_look_14
  exact TMet.of (by decide) (Nat.le_of_ble_eq_true rfl) key
theorem wfX10_299 : Cond.fieldLink RX10 299 "EvenFlow$Line" "givenCount" "I" ∈ tgd := (tgd_t 594 (by decide +kernel) (by decide +kernel))
theorem wfX10_302 : Cond.fieldLink RX10 302 "EvenFlow$Line" "everGiven" "[J" ∈ tgd := (tgd_t 592 (by decide +kernel) (by decide +kernel))
abbrev iX10_given : tY := (RX10, cX10_given, 4, some .int, "given")
abbrev rmX10_given : Room := { frames := 1, cells := 0, slots := 0, locals := 21 }
def fX10_given (a1 : Int32) (a2 : Int32) (M : tM) : Option (Int32 × tM) :=
  (fX1_lineAt a1 M).bind fun r1 =>
  if r1 = none then (
  some (((-1), M))
  ) else (
  if a2 < 0 then (
  some (((-1), M))
  ) else (
  if a2 < 200 then (
  Option.bind r1 fun i6 =>
  if a2 < (mI M 4 i6 11) then (
  chk (inb a2 (mN M 510 i6)) <|
  bnd (sL M 10 0 11 (mL M 510 i6 (a2.toNatClampNeg))) fun M9 =>
  some ((1, M9))
  ) else (
  some (((-9), M))
  )
  ) else (
  some (((-1), M))
  )
  )
  )
set_option maxHeartbeats 4000000 in
set_option maxRecDepth 100000 in
theorem okX10_given {g : tG} {a1 : Int32} {a2 : Int32} {M : tM} {v : Int32} {Mz : tM} (h : fX10_given a1 a2 M = some ((v, Mz))) : TMet g yX10_given (Cond.code yX10_given cX10_given 4 (some .int) :: tgd) rmX10_given [tr 10 0, ti a1, ti a2] M (some (ti v)) Mz 0 0 := by
  have key : TW g iX10_given rmX10_given 0 0 (some (ti v)) Mz 0 0 0 [(0, tr 10 0), (1, ti a1), (2, ti a2)] [] M := by
    rw [fX10_given] at h
    refine tm_aload_n dX10_given_0 rfl rfl ?_
    refine tm_get kX10 rfl (j := 0) (by decide) wfX10_10 dX10_given_1 (v := tr 1 0) rfl ?_
    refine tm_iload_n dX10_given_4 rfl rfl ?_
    replace h := obind_some h
    obtain ⟨r1, hc2, h⟩ := h
    refine tm_callV kX1 rfl (avs := [ti a1]) (st := []) (okX1_lineAt hc2) wcX10_98.1 wcX10_98.2.1 wcX10_98.2.2.1 wcX10_98.2.2.2 ⟨rfl, rfl, Nat.le_of_ble_eq_true rfl, Nat.le_of_ble_eq_true rfl⟩ rfl (Nat.le_of_ble_eq_true rfl) ⟨Nat.zero_le _, Nat.zero_le _⟩ dX10_given_5 ?_
    refine tm_astore_n (lc' := [(3, tq 4 r1), (0, tr 10 0), (1, ti a1), (2, ti a2)]) dX10_given_8 rfl (by decide) rfl ?_
    refine tm_aload_n dX10_given_9 rfl rfl ?_
    refine tm_ifnull (k2 := 4) (q := r1) (tgt := 24) dX10_given_10 (by decide) (fun c3 => ?_) (fun c3 => ?_)
    · rw [if_pos c3] at h
      refine tm_iconst (v := (-1)) dX10_given_24 (by decide) ?_
      obtain ⟨rfl, rfl⟩ := pj2 h
      exact tm_iret rfl dX10_given_25
    · rw [if_neg c3] at h
      refine tm_iload_n dX10_given_13 rfl rfl ?_
      refine tm_if_lt (tgt := 24) dX10_given_14 (by decide) (fun c4 => ?_) (fun c4 => ?_)
      · rw [if_pos c4] at h
        refine tm_iconst (v := (-1)) dX10_given_24 (by decide) ?_
        obtain ⟨rfl, rfl⟩ := pj2 h
        exact tm_iret rfl dX10_given_25
      · rw [if_neg c4] at h
        refine tm_iload_n dX10_given_17 rfl rfl ?_
        refine tm_sipush (v := 200) dX10_given_18 (by decide) ?_
        refine tm_icmp_lt (tgt := 26) dX10_given_21 (by decide) (fun c5 => ?_) (fun c5 => ?_)
        · rw [if_pos c5] at h
          refine tm_iload_n dX10_given_26 rfl rfl ?_
          refine tm_aload_n dX10_given_27 rfl rfl ?_
          replace h := obind_some h
          obtain ⟨i6, ei6, h⟩ := h
          subst ei6
          refine tm_get kX4 rfl (j := 11) (by decide) wfX10_299 dX10_given_28 (v := ti (mI M 4 i6 11)) rfl ?_
          refine tm_icmp_lt (tgt := 37) dX10_given_31 (by decide) (fun c7 => ?_) (fun c7 => ?_)
          · rw [if_pos c7] at h
            refine tm_aload_n dX10_given_37 rfl rfl ?_
            refine tm_aload_n dX10_given_38 rfl rfl ?_
            refine tm_get kX4 rfl (j := 10) (by decide) wfX10_302 dX10_given_39 (v := tr 510 i6) rfl ?_
            refine tm_iload_n dX10_given_42 rfl rfl ?_
            replace h := chk_some h
            obtain ⟨b8, h⟩ := h
            refine tm_lald rfl dX10_given_43 (inb_vp b8) ?_
            replace h := bnd_some h
            obtain ⟨M9, eM9, h⟩ := h
            refine tm_put kX10 rfl (j := 11) (by decide) wfX10_296 rfl dX10_given_44 (fun _ => ⟨rfl, rfl⟩) (tPut_L (mL M 510 i6 (a2.toNatClampNeg)) rfl) ?_
            refine tm_nmM eM9 ?_
            refine tm_iconst (v := 1) dX10_given_47 (by decide) ?_
            obtain ⟨rfl, rfl⟩ := pj2 h
            exact tm_iret rfl dX10_given_48
          · rw [if_neg c7] at h
            refine tm_bipush (v := (-9)) dX10_given_34 (by decide) ?_
            obtain ⟨rfl, rfl⟩ := pj2 h
            exact tm_iret rfl dX10_given_36
        · rw [if_neg c5] at h
          refine tm_iconst (v := (-1)) dX10_given_24 (by decide) ?_
          obtain ⟨rfl, rfl⟩ := pj2 h
          exact tm_iret rfl dX10_given_25
  exact TMet.of (by decide) (Nat.le_of_ble_eq_true rfl) key
abbrev iX10_asked : tY := (RX10, cX10_asked, 1, some .long, "asked")
abbrev rmX10_asked : Room := { frames := 0, cells := 0, slots := 0, locals := 0 }
def fX10_asked  (M : tM) : Option (Int64) :=
  some (mL M 10 0 11)
set_option maxHeartbeats 4000000 in
set_option maxRecDepth 100000 in
theorem okX10_asked {g : tG}  {M : tM} {v : Int64} (h : fX10_asked  M = some v) : TMet g yX10_asked (Cond.code yX10_asked cX10_asked 1 (some .long) :: tgd) rmX10_asked [tr 10 0] M (some (tl v)) M 0 0 := by
  have key : TW g iX10_asked rmX10_asked 0 0 (some (tl v)) M 0 0 0 [(0, tr 10 0)] [] M := by
    rw [fX10_asked] at h
    refine tm_aload_n dX10_asked_0 rfl rfl ?_
    refine tm_get kX10 rfl (j := 11) (by decide) wfX10_296 dX10_asked_1 (v := tl (mL M 10 0 11)) rfl ?_
    obtain rfl := Option.some.inj h
    exact tm_lret rfl dX10_asked_4
  exact TMet.of (by decide) (Nat.le_of_ble_eq_true rfl) key
theorem wfX10_72 : Cond.fieldLink RX10 72 "EvenFlow$Graph" "partCount" "I" ∈ tgd := (tgd_t 51 (by decide +kernel) (by decide +kernel))
theorem wfX10_91 : Cond.fieldLink RX10 91 "EvenFlow$Graph" "lineCount" "I" ∈ tgd := (tgd_t 60 (by decide +kernel) (by decide +kernel))
abbrev iX10_many : tY := (RX10, cX10_many, 2, some .int, "many")
abbrev rmX10_many : Room := { frames := 0, cells := 0, slots := 0, locals := 0 }
def fX10_many (a1 : Int32) (M : tM) : Option (Int32) :=
  if a1.toInt < 0 ∨ 4 < a1.toInt then (
  some (-1)
  ) else (
  if a1 = 0 then (
  some (mI M 1 0 2)
  ) else (
  if a1 = 1 then (
  some (mI M 1 0 3)
  ) else (
  if a1 = 2 then (
  some (mI M 9 0 1)
  ) else (
  if a1 = 3 then (
  if (mI M 8 0 3) = 0 then (
  some (-9)
  ) else (
  some (mI M 8 0 3)
  )
  ) else (
  if a1 = 4 then (
  some (mI M 10 0 8)
  ) else (
  none))))))
set_option maxHeartbeats 4000000 in
set_option maxRecDepth 100000 in
theorem okX10_many {g : tG} {a1 : Int32} {M : tM} {v : Int32} (h : fX10_many a1 M = some v) : TMet g yX10_many (Cond.code yX10_many cX10_many 2 (some .int) :: tgd) rmX10_many [tr 10 0, ti a1] M (some (ti v)) M 0 0 := by
  have key : TW g iX10_many rmX10_many 0 0 (some (ti v)) M 0 0 0 [(0, tr 10 0), (1, ti a1)] [] M := by
    rw [fX10_many] at h
    refine tm_iload_n dX10_many_0 rfl rfl ?_
    by_cases c1 : a1.toInt < 0 ∨ 4 < a1.toInt
    · rw [if_pos c1] at h
      refine tm_tableOut (tgt := 88) dX10_many_1 c1 (by decide) ?_
      refine tm_iconst (v := (-1)) dX10_many_88 (by decide) ?_
      obtain rfl := Option.some.inj h
      exact tm_iret rfl dX10_many_89
    · rw [if_neg c1] at h
      by_cases c2 : a1 = 0
      · rw [if_pos c2] at h
        subst c2
        refine tm_tableIn (tgt := 36) dX10_many_1 (by decide) (by decide) rfl (by decide) ?_
        refine tm_aload_n dX10_many_36 rfl rfl ?_
        refine tm_get kX10 rfl (j := 0) (by decide) wfX10_10 dX10_many_37 (v := tr 1 0) rfl ?_
        refine tm_get kX1 rfl (j := 2) (by decide) wfX10_72 dX10_many_40 (v := ti (mI M 1 0 2)) rfl ?_
        obtain rfl := Option.some.inj h
        exact tm_iret rfl dX10_many_43
      · rw [if_neg c2] at h
        by_cases c3 : a1 = 1
        · rw [if_pos c3] at h
          subst c3
          refine tm_tableIn (tgt := 44) dX10_many_1 (by decide) (by decide) rfl (by decide) ?_
          refine tm_aload_n dX10_many_44 rfl rfl ?_
          refine tm_get kX10 rfl (j := 0) (by decide) wfX10_10 dX10_many_45 (v := tr 1 0) rfl ?_
          refine tm_get kX1 rfl (j := 3) (by decide) wfX10_91 dX10_many_48 (v := ti (mI M 1 0 3)) rfl ?_
          obtain rfl := Option.some.inj h
          exact tm_iret rfl dX10_many_51
        · rw [if_neg c3] at h
          by_cases c4 : a1 = 2
          · rw [if_pos c4] at h
            subst c4
            refine tm_tableIn (tgt := 52) dX10_many_1 (by decide) (by decide) rfl (by decide) ?_
            refine tm_aload_n dX10_many_52 rfl rfl ?_
            refine tm_get kX10 rfl (j := 6) (by decide) wfX10_61 dX10_many_53 (v := tr 9 0) rfl ?_
            refine tm_get kX9 rfl (j := 1) (by decide) wfX10_286 dX10_many_56 (v := ti (mI M 9 0 1)) rfl ?_
            obtain rfl := Option.some.inj h
            exact tm_iret rfl dX10_many_59
          · rw [if_neg c4] at h
            by_cases c6 : a1 = 3
            · rw [if_pos c6] at h
              subst c6
              refine tm_tableIn (tgt := 60) dX10_many_1 (by decide) (by decide) rfl (by decide) ?_
              refine tm_aload_n dX10_many_60 rfl rfl ?_
              refine tm_get kX10 rfl (j := 1) (by decide) wfX10_26 dX10_many_61 (v := tr 8 0) rfl ?_
              refine tm_get kX8 rfl (j := 3) (by decide) wfX10_222 dX10_many_64 (v := ti (mI M 8 0 3)) rfl ?_
              refine tm_if_ne (tgt := 75) dX10_many_67 (by decide) (fun c5 => ?_) (fun c5 => ?_)
              · rw [if_neg c5] at h
                refine tm_aload_n dX10_many_75 rfl rfl ?_
                refine tm_get kX10 rfl (j := 1) (by decide) wfX10_26 dX10_many_76 (v := tr 8 0) rfl ?_
                refine tm_get kX8 rfl (j := 3) (by decide) wfX10_222 dX10_many_79 (v := ti (mI M 8 0 3)) rfl ?_
                obtain rfl := Option.some.inj h
                exact tm_iret rfl dX10_many_82
              · rw [if_pos c5] at h
                refine tm_bipush (v := (-9)) dX10_many_70 (by decide) ?_
                refine tm_goto (tgt := 82) dX10_many_72 (by decide) ?_
                obtain rfl := Option.some.inj h
                exact tm_iret rfl dX10_many_82
            · rw [if_neg c6] at h
              by_cases c7 : a1 = 4
              · rw [if_pos c7] at h
                subst c7
                refine tm_tableIn (tgt := 83) dX10_many_1 (by decide) (by decide) rfl (by decide) ?_
                refine tm_aload_n dX10_many_83 rfl rfl ?_
                refine tm_get kX10 rfl (j := 8) (by decide) wfX10_232 dX10_many_84 (v := ti (mI M 10 0 8)) rfl ?_
                obtain rfl := Option.some.inj h
                exact tm_iret rfl dX10_many_87
              · rw [if_neg c7] at h
                cases h
  exact TMet.of (by decide) (Nat.le_of_ble_eq_true rfl) key
abbrev iX10_finding : tY := (RX10, cX10_finding, 1, some .int, "finding")
abbrev rmX10_finding : Room := { frames := 0, cells := 0, slots := 0, locals := 0 }
def fX10_finding  (M : tM) : Option (Int32) :=
  some (mI M 10 0 9)
set_option maxHeartbeats 4000000 in
set_option maxRecDepth 100000 in
theorem okX10_finding {g : tG}  {M : tM} {v : Int32} (h : fX10_finding  M = some v) : TMet g yX10_finding (Cond.code yX10_finding cX10_finding 1 (some .int) :: tgd) rmX10_finding [tr 10 0] M (some (ti v)) M 0 0 := by
  have key : TW g iX10_finding rmX10_finding 0 0 (some (ti v)) M 0 0 0 [(0, tr 10 0)] [] M := by
    rw [fX10_finding] at h
    refine tm_aload_n dX10_finding_0 rfl rfl ?_
    refine tm_get kX10 rfl (j := 9) (by decide) wfX10_305 dX10_finding_1 (v := ti (mI M 10 0 9)) rfl ?_
    obtain rfl := Option.some.inj h
    exact tm_iret rfl dX10_finding_4
  exact TMet.of (by decide) (Nat.le_of_ble_eq_true rfl) key
abbrev iX10_findings : tY := (RX10, cX10_findings, 2, some .int, "findings")
abbrev rmX10_findings : Room := { frames := 0, cells := 0, slots := 0, locals := 0 }
def fX10_findings (a1 : Int32) (M : tM) : Option (Int32) :=
  if a1 < 1 then (
  some (-1)
  ) else (
  if a1 ≤ 5 then (
  chk (inb a1 (mN M 1110 0)) <|
  some (mI M 1110 0 (a1.toNatClampNeg))
  ) else (
  some (-1)
  )
  )
set_option maxHeartbeats 4000000 in
set_option maxRecDepth 100000 in
theorem okX10_findings {g : tG} {a1 : Int32} {M : tM} {v : Int32} (h : fX10_findings a1 M = some v) : TMet g yX10_findings (Cond.code yX10_findings cX10_findings 2 (some .int) :: tgd) rmX10_findings [tr 10 0, ti a1] M (some (ti v)) M 0 0 := by
  have key : TW g iX10_findings rmX10_findings 0 0 (some (ti v)) M 0 0 0 [(0, tr 10 0), (1, ti a1)] [] M := by
    rw [fX10_findings] at h
    refine tm_iload_n dX10_findings_0 rfl rfl ?_
    refine tm_iconst (v := 1) dX10_findings_1 (by decide) ?_
    refine tm_icmp_lt (tgt := 10) dX10_findings_2 (by decide) (fun c1 => ?_) (fun c1 => ?_)
    · rw [if_pos c1] at h
      refine tm_iconst (v := (-1)) dX10_findings_10 (by decide) ?_
      refine tm_goto (tgt := 20) dX10_findings_11 (by decide) ?_
      obtain rfl := Option.some.inj h
      exact tm_iret rfl dX10_findings_20
    · rw [if_neg c1] at h
      refine tm_iload_n dX10_findings_5 rfl rfl ?_
      refine tm_iconst (v := 5) dX10_findings_6 (by decide) ?_
      refine tm_icmp_le (tgt := 14) dX10_findings_7 (by decide) (fun c2 => ?_) (fun c2 => ?_)
      · rw [if_pos c2] at h
        refine tm_aload_n dX10_findings_14 rfl rfl ?_
        refine tm_get kX10 rfl (j := 10) (by decide) wfX10_69 dX10_findings_15 (v := tr 1110 0) rfl ?_
        refine tm_iload_n dX10_findings_18 rfl rfl ?_
        replace h := chk_some h
        obtain ⟨b3, h⟩ := h
        refine tm_iald rfl dX10_findings_19 (inb_vp b3) ?_
        obtain rfl := Option.some.inj h
        exact tm_iret rfl dX10_findings_20
      · rw [if_neg c2] at h
        refine tm_iconst (v := (-1)) dX10_findings_10 (by decide) ?_
        refine tm_goto (tgt := 20) dX10_findings_11 (by decide) ?_
        obtain rfl := Option.some.inj h
        exact tm_iret rfl dX10_findings_20
  exact TMet.of (by decide) (Nat.le_of_ble_eq_true rfl) key
theorem wcX10_314 : tCB RX10 314 yX7_digestFrom cX7_digestFrom 8 (some .long) 1 ∧ Cond.methodLink RX10 314 yX7_digestFrom ∈ tgd ∧ Cond.instanceMethod yX7_digestFrom ∈ tgd ∧ Cond.selects RX7 yX7_digestFrom yX7_digestFrom ∈ tgd := ⟨⟨(tgd_t 1208 (by decide +kernel) (by decide +kernel)), (tgd_t 11 (by decide +kernel) (by decide +kernel)), by decide, by decide +kernel⟩, (tgd_t 1205 (by decide +kernel) (by decide +kernel)), (tgd_t 1206 (by decide +kernel) (by decide +kernel)), (tgd_t 1207 (by decide +kernel) (by decide +kernel))⟩
theorem wcX10_322 : tCB RX10 322 yX4_digestFrom cX4_digestFrom 4 (some .long) 1 ∧ Cond.methodLink RX10 322 yX4_digestFrom ∈ tgd ∧ Cond.instanceMethod yX4_digestFrom ∈ tgd ∧ Cond.selects RX4 yX4_digestFrom yX4_digestFrom ∈ tgd := ⟨⟨(tgd_t 1214 (by decide +kernel) (by decide +kernel)), (tgd_t 15 (by decide +kernel) (by decide +kernel)), by decide, by decide +kernel⟩, (tgd_t 1211 (by decide +kernel) (by decide +kernel)), (tgd_t 1212 (by decide +kernel) (by decide +kernel)), (tgd_t 1213 (by decide +kernel) (by decide +kernel))⟩
theorem wconstlX10_308 : Cond.constantLong RX10 308 17 ∈ tgd := (tgd_t 1204 (by decide +kernel) (by decide +kernel))
theorem wconstlX10_323 : Cond.constantLong RX10 323 31 ∈ tgd := (tgd_t 1218 (by decide +kernel) (by decide +kernel))
theorem wfX10_310 : Cond.fieldLink RX10 310 "EvenFlow$Graph" "parts" "[LEvenFlow$Part;" ∈ tgd := (tgd_t 41 (by decide +kernel) (by decide +kernel))
theorem wfX10_318 : Cond.fieldLink RX10 318 "EvenFlow$Graph" "lines" "[LEvenFlow$Line;" ∈ tgd := (tgd_t 47 (by decide +kernel) (by decide +kernel))
abbrev iX10_digest : tY := (RX10, cX10_digest, 4, some .long, "digest")
abbrev rmX10_digest : Room := { frames := 3, cells := 0, slots := 0, locals := 65 }
def fX10_digest_l6  (M : tM) : Nat → Int64 → Int32 → Option (Int64)
  | 0, _, _ => none
  | n + 1, y1, y3 =>
    if (mI M 1 0 2) ≤ y3 then (
    some y1
    ) else (
    chk (inb y3 (mN M 200 0)) <|
    bnd (mR M 200 0 (y3.toNatClampNeg)) fun r3 =>
    Option.bind r3 fun i4 =>
    (fX7_digestFrom i4 y1 M).bind fun x5 =>
    bnd (y3 + 1) fun x7 =>
    fX10_digest_l6 M n x5 x7
    )
def fX10_digest_l39  (M : tM) : Nat → Int64 → Int32 → Option (Int64)
  | 0, _, _ => none
  | n + 1, y1, y3 =>
    if (mI M 1 0 3) ≤ y3 then (
    some y1
    ) else (
    chk (inb y3 (mN M 201 0)) <|
    bnd (mR M 201 0 (y3.toNatClampNeg)) fun r13 =>
    Option.bind r13 fun i14 =>
    (fX4_digestFrom i14 y1 M).bind fun x15 =>
    bnd (y3 + 1) fun x17 =>
    fX10_digest_l39 M n x15 x17
    )
def fX10_digest_l72  (M : tM) : Nat → Int64 → Int32 → Option (Int64)
  | 0, _, _ => none
  | n + 1, y1, y3 =>
    if (mI M 8 0 3) ≤ y3 then (
    some y1
    ) else (
    chk (inb y3 (mN M 902 0)) <|
    bnd ((31 * y1) + ((mI M 902 0 (y3.toNatClampNeg)).toInt64)) fun x23 =>
    bnd (y3 + 1) fun x24 =>
    fX10_digest_l72 M n x23 x24
    )
def fX10_digest  (M : tM) : Option (Int64) :=
  Option.bind (fX10_digest_l6 M FU 17 0) fun x10 =>
  Option.bind (fX10_digest_l39 M FU x10 0) fun x20 =>
  Option.bind (fX10_digest_l72 M FU x20 0) fun x27 =>
  some x27
set_option maxHeartbeats 4000000 in
set_option maxRecDepth 100000 in
theorem okX10_digest_l6 {g : tG}  (M : tM) {r : Option tV} {Mz : tM} : ∀ (n : Nat) (y1 : Int64) (y3 : Int32) (w : Int64), fX10_digest_l6 M n y1 y3 = some w → (∀ (w1 : Int64), w1 = w → TW g iX10_digest rmX10_digest 0 0 r Mz 0 0 37 [(0, tr 10 0), (1, tl w1)] [] M) → TW g iX10_digest rmX10_digest 0 0 r Mz 0 0 6 [(0, tr 10 0), (1, tl y1), (3, ti y3)] [] M := by
  intro n
  induction n with
  | zero => intro y1 y3 w h; cases h
  | succ n ih =>
    intro y1 y3 w h J
    rw [fX10_digest_l6] at h
    refine tm_iload_n dX10_digest_6 rfl rfl ?_
    refine tm_aload_n dX10_digest_7 rfl rfl ?_
    refine tm_get kX10 rfl (j := 0) (by decide) wfX10_10 dX10_digest_8 (v := tr 1 0) rfl ?_
    refine tm_get kX1 rfl (j := 2) (by decide) wfX10_72 dX10_digest_11 (v := ti (mI M 1 0 2)) rfl ?_
    refine tm_icmp_ge (tgt := 37) dX10_digest_14 (by decide) (fun c1 => ?_) (fun c1 => ?_)
    · rw [if_pos c1] at h
      obtain rfl := Option.some.inj h
      refine tm_lcp [0, 1] rfl ?_
      exact J _ rfl
    · rw [if_neg c1] at h
      refine tm_aload_n dX10_digest_17 rfl rfl ?_
      refine tm_get kX10 rfl (j := 0) (by decide) wfX10_10 dX10_digest_18 (v := tr 1 0) rfl ?_
      refine tm_get kX1 rfl (j := 0) (by decide) wfX10_310 dX10_digest_21 (v := tr 200 0) rfl ?_
      refine tm_iload_n dX10_digest_24 rfl rfl ?_
      replace h := chk_some h
      obtain ⟨b2, h⟩ := h
      refine tm_aald (k2 := 7) ⟨rfl, rfl, rfl, fun _ => rfl⟩ dX10_digest_25 (inb_vp b2) ?_
      replace h := bnd_some h
      obtain ⟨r3, er3, h⟩ := h
      refine tm_nmQ er3 ?_
      refine tm_lload_n dX10_digest_26 rfl rfl ?_
      replace h := obind_some h
      obtain ⟨i4, ei4, h⟩ := h
      subst ei4
      replace h := obind_some h
      obtain ⟨x5, hc6, h⟩ := h
      refine tm_callV kX7 rfl (avs := [tl y1]) (st := []) (okX7_digestFrom hc6) wcX10_314.1 wcX10_314.2.1 wcX10_314.2.2.1 wcX10_314.2.2.2 ⟨rfl, rfl, Nat.le_of_ble_eq_true rfl, Nat.le_of_ble_eq_true rfl⟩ rfl (Nat.le_of_ble_eq_true rfl) ⟨Nat.zero_le _, Nat.zero_le _⟩ dX10_digest_27 ?_
      refine tm_lstore_n (lc' := [(1, tl x5), (0, tr 10 0), (3, ti y3)]) dX10_digest_30 rfl (by decide) rfl ?_
      replace h := bnd_some h
      obtain ⟨x7, ex7, h⟩ := h
      refine tm_iinc (v := x7) (lc' := [(3, ti x7), (1, tl x5), (0, tr 10 0)]) dX10_digest_31 rfl (by rw [ex7]; rfl) (by decide) rfl ?_
      refine tm_goto (tgt := 6) dX10_digest_34 (by decide) ?_
      refine tm_lcp [0, 1, 3] rfl ?_
      exact ih x5 x7 _ h J
set_option maxHeartbeats 4000000 in
set_option maxRecDepth 100000 in
theorem okX10_digest_l39 {g : tG}  (M : tM) {r : Option tV} {Mz : tM} : ∀ (n : Nat) (y1 : Int64) (y3 : Int32) (w : Int64), fX10_digest_l39 M n y1 y3 = some w → (∀ (w1 : Int64), w1 = w → TW g iX10_digest rmX10_digest 0 0 r Mz 0 0 70 [(0, tr 10 0), (1, tl w1)] [] M) → TW g iX10_digest rmX10_digest 0 0 r Mz 0 0 39 [(0, tr 10 0), (1, tl y1), (3, ti y3)] [] M := by
  intro n
  induction n with
  | zero => intro y1 y3 w h; cases h
  | succ n ih =>
    intro y1 y3 w h J
    rw [fX10_digest_l39] at h
    refine tm_iload_n dX10_digest_39 rfl rfl ?_
    refine tm_aload_n dX10_digest_40 rfl rfl ?_
    refine tm_get kX10 rfl (j := 0) (by decide) wfX10_10 dX10_digest_41 (v := tr 1 0) rfl ?_
    refine tm_get kX1 rfl (j := 3) (by decide) wfX10_91 dX10_digest_44 (v := ti (mI M 1 0 3)) rfl ?_
    refine tm_icmp_ge (tgt := 70) dX10_digest_47 (by decide) (fun c11 => ?_) (fun c11 => ?_)
    · rw [if_pos c11] at h
      obtain rfl := Option.some.inj h
      refine tm_lcp [0, 1] rfl ?_
      exact J _ rfl
    · rw [if_neg c11] at h
      refine tm_aload_n dX10_digest_50 rfl rfl ?_
      refine tm_get kX10 rfl (j := 0) (by decide) wfX10_10 dX10_digest_51 (v := tr 1 0) rfl ?_
      refine tm_get kX1 rfl (j := 1) (by decide) wfX10_318 dX10_digest_54 (v := tr 201 0) rfl ?_
      refine tm_iload_n dX10_digest_57 rfl rfl ?_
      replace h := chk_some h
      obtain ⟨b12, h⟩ := h
      refine tm_aald (k2 := 4) ⟨rfl, rfl, rfl, fun _ => rfl⟩ dX10_digest_58 (inb_vp b12) ?_
      replace h := bnd_some h
      obtain ⟨r13, er13, h⟩ := h
      refine tm_nmQ er13 ?_
      refine tm_lload_n dX10_digest_59 rfl rfl ?_
      replace h := obind_some h
      obtain ⟨i14, ei14, h⟩ := h
      subst ei14
      replace h := obind_some h
      obtain ⟨x15, hc16, h⟩ := h
      refine tm_callV kX4 rfl (avs := [tl y1]) (st := []) (okX4_digestFrom hc16) wcX10_322.1 wcX10_322.2.1 wcX10_322.2.2.1 wcX10_322.2.2.2 ⟨rfl, rfl, Nat.le_of_ble_eq_true rfl, Nat.le_of_ble_eq_true rfl⟩ rfl (Nat.le_of_ble_eq_true rfl) ⟨Nat.zero_le _, Nat.zero_le _⟩ dX10_digest_60 ?_
      refine tm_lstore_n (lc' := [(1, tl x15), (0, tr 10 0), (3, ti y3)]) dX10_digest_63 rfl (by decide) rfl ?_
      replace h := bnd_some h
      obtain ⟨x17, ex17, h⟩ := h
      refine tm_iinc (v := x17) (lc' := [(3, ti x17), (1, tl x15), (0, tr 10 0)]) dX10_digest_64 rfl (by rw [ex17]; rfl) (by decide) rfl ?_
      refine tm_goto (tgt := 39) dX10_digest_67 (by decide) ?_
      refine tm_lcp [0, 1, 3] rfl ?_
      exact ih x15 x17 _ h J
set_option maxHeartbeats 4000000 in
set_option maxRecDepth 100000 in
theorem okX10_digest_l72 {g : tG}  (M : tM) {r : Option tV} {Mz : tM} : ∀ (n : Nat) (y1 : Int64) (y3 : Int32) (w : Int64), fX10_digest_l72 M n y1 y3 = some w → (∀ (w1 : Int64), w1 = w → TW g iX10_digest rmX10_digest 0 0 r Mz 0 0 106 [(1, tl w1)] [] M) → TW g iX10_digest rmX10_digest 0 0 r Mz 0 0 72 [(0, tr 10 0), (1, tl y1), (3, ti y3)] [] M := by
  intro n
  induction n with
  | zero => intro y1 y3 w h; cases h
  | succ n ih =>
    intro y1 y3 w h J
    rw [fX10_digest_l72] at h
    refine tm_iload_n dX10_digest_72 rfl rfl ?_
    refine tm_aload_n dX10_digest_73 rfl rfl ?_
    refine tm_get kX10 rfl (j := 1) (by decide) wfX10_26 dX10_digest_74 (v := tr 8 0) rfl ?_
    refine tm_get kX8 rfl (j := 3) (by decide) wfX10_222 dX10_digest_77 (v := ti (mI M 8 0 3)) rfl ?_
    refine tm_icmp_ge (tgt := 106) dX10_digest_80 (by decide) (fun c21 => ?_) (fun c21 => ?_)
    · rw [if_pos c21] at h
      obtain rfl := Option.some.inj h
      refine tm_lcp [1] rfl ?_
      exact J _ rfl
    · rw [if_neg c21] at h
      refine tm_ldc2 (v := 31) dX10_digest_83 wconstlX10_323 ?_
      refine tm_lload_n dX10_digest_86 rfl rfl ?_
      refine tm_lmul dX10_digest_87 ?_
      refine tm_aload_n dX10_digest_88 rfl rfl ?_
      refine tm_get kX10 rfl (j := 1) (by decide) wfX10_26 dX10_digest_89 (v := tr 8 0) rfl ?_
      refine tm_get kX8 rfl (j := 2) (by decide) wfX10_210 dX10_digest_92 (v := tr 902 0) rfl ?_
      refine tm_iload_n dX10_digest_95 rfl rfl ?_
      replace h := chk_some h
      obtain ⟨b22, h⟩ := h
      refine tm_iald rfl dX10_digest_96 (inb_vp b22) ?_
      refine tm_i2l dX10_digest_97 ?_
      refine tm_ladd dX10_digest_98 ?_
      replace h := bnd_some h
      obtain ⟨x23, ex23, h⟩ := h
      refine tm_nmL ex23 ?_
      refine tm_lstore_n (lc' := [(1, tl x23), (0, tr 10 0), (3, ti y3)]) dX10_digest_99 rfl (by decide) rfl ?_
      replace h := bnd_some h
      obtain ⟨x24, ex24, h⟩ := h
      refine tm_iinc (v := x24) (lc' := [(3, ti x24), (1, tl x23), (0, tr 10 0)]) dX10_digest_100 rfl (by rw [ex24]; rfl) (by decide) rfl ?_
      refine tm_goto (tgt := 72) dX10_digest_103 (by decide) ?_
      refine tm_lcp [0, 1, 3] rfl ?_
      exact ih x23 x24 _ h J
set_option maxHeartbeats 4000000 in
set_option maxRecDepth 100000 in
theorem okX10_digest {g : tG}  {M : tM} {v : Int64} (h : fX10_digest  M = some v) : TMet g yX10_digest (Cond.code yX10_digest cX10_digest 4 (some .long) :: tgd) rmX10_digest [tr 10 0] M (some (tl v)) M 0 0 := by
  have key : TW g iX10_digest rmX10_digest 0 0 (some (tl v)) M 0 0 0 [(0, tr 10 0)] [] M := by
    rw [fX10_digest] at h
    refine tm_ldc2 (v := 17) dX10_digest_0 wconstlX10_308 ?_
    refine tm_lstore_n (lc' := [(1, tl 17), (0, tr 10 0)]) dX10_digest_3 rfl (by decide) rfl ?_
    refine tm_iconst (v := 0) dX10_digest_4 (by decide) ?_
    refine tm_istore_n (lc' := [(3, ti 0), (1, tl 17), (0, tr 10 0)]) dX10_digest_5 rfl (by decide) rfl ?_
    replace h := obind_some h
    obtain ⟨w8, hE9, h⟩ := h
    refine tm_lcp [0, 1, 3] rfl ?_
    refine okX10_digest_l6 M FU 17 0 _ hE9 (fun x10 e => ?_)
    subst e
    refine tm_iconst (v := 0) dX10_digest_37 (by decide) ?_
    refine tm_istore_n (lc' := [(3, ti 0), (0, tr 10 0), (1, tl x10)]) dX10_digest_38 rfl (by decide) rfl ?_
    replace h := obind_some h
    obtain ⟨w18, hE19, h⟩ := h
    refine tm_lcp [0, 1, 3] rfl ?_
    refine okX10_digest_l39 M FU x10 0 _ hE19 (fun x20 e => ?_)
    subst e
    refine tm_iconst (v := 0) dX10_digest_70 (by decide) ?_
    refine tm_istore_n (lc' := [(3, ti 0), (0, tr 10 0), (1, tl x20)]) dX10_digest_71 rfl (by decide) rfl ?_
    replace h := obind_some h
    obtain ⟨w25, hE26, h⟩ := h
    refine tm_lcp [0, 1, 3] rfl ?_
    refine okX10_digest_l72 M FU x20 0 _ hE26 (fun x27 e => ?_)
    subst e
    refine tm_lload_n dX10_digest_106 rfl rfl ?_
    obtain rfl := Option.some.inj h
    exact tm_lret rfl dX10_digest_107
  exact TMet.of (by decide) (Nat.le_of_ble_eq_true rfl) key
