abbrev iX6_timesWithin : tY := (RX6, cX6_timesWithin, 4, some .int, "timesWithin")
abbrev rmX6_timesWithin : Room := { frames := 1, cells := 0, slots := 0, locals := 21 }
def fX6_timesWithin (a1 : Int32) (a2 : Int32) (a3 : Int32) (M : tM) : Option (Int32) :=
  chk (inb ((a1 * 12) + a2) (mN M 703 0)) <|
  (fJ9_max_7cf53 a3 1 M).bind fun x2 =>
  chk (nz4 x2) <|
  some ((mI M 703 0 (((a1 * 12) + a2).toNatClampNeg)) / x2)
set_option maxHeartbeats 4000000 in
set_option maxRecDepth 100000 in
theorem okX6_timesWithin {g : tG} {a1 : Int32} {a2 : Int32} {a3 : Int32} {M : tM} {v : Int32} (h : fX6_timesWithin a1 a2 a3 M = some v) : TMet g yX6_timesWithin (Cond.code yX6_timesWithin cX6_timesWithin 4 (some .int) :: tgd) rmX6_timesWithin [tr 6 0, ti a1, ti a2, ti a3] M (some (ti v)) M 0 0 := by
  have key : TW g iX6_timesWithin rmX6_timesWithin 0 0 (some (ti v)) M 0 0 0 [(0, tr 6 0), (1, ti a1), (2, ti a2), (3, ti a3)] [] M := by
    rw [fX6_timesWithin] at h
    refine tm_aload_n dX6_timesWithin_0 rfl rfl ?_
    refine tm_get kX6 rfl (j := 3) (by decide) wfX6_18 dX6_timesWithin_1 (v := tr 703 0) rfl ?_
    refine tm_iload_n dX6_timesWithin_4 rfl rfl ?_
    refine tm_bipush (v := 12) dX6_timesWithin_5 (by decide) ?_
    refine tm_imul dX6_timesWithin_7 ?_
    refine tm_iload_n dX6_timesWithin_8 rfl rfl ?_
    refine tm_iadd dX6_timesWithin_9 ?_
    replace h := chk_some h
    obtain ⟨b1, h⟩ := h
    refine tm_iald rfl dX6_timesWithin_10 (inb_vp b1) ?_
    refine tm_iload_n dX6_timesWithin_11 rfl rfl ?_
    refine tm_iconst (v := 1) dX6_timesWithin_12 (by decide) ?_
    replace h := obind_some h
    obtain ⟨x2, hc3, h⟩ := h
    refine tm_callS (avs := [ti a3, ti 1]) (st := [ti (mI M 703 0 (((a1 * 12) + a2).toNatClampNeg))]) (okJ9_max_7cf53 hc3) wcX6_113.1 wcX6_113.2.1 wcX6_113.2.2 ⟨rfl, rfl, Nat.le_of_ble_eq_true rfl, Nat.le_of_ble_eq_true rfl⟩ rfl (Nat.le_of_ble_eq_true rfl) ⟨Nat.zero_le _, Nat.zero_le _⟩ dX6_timesWithin_13 ?_
    replace h := chk_some h
    obtain ⟨b4, h⟩ := h
    refine tm_idiv dX6_timesWithin_16 (nz4_ne b4) ?_
    obtain rfl := Option.some.inj h
    exact tm_iret rfl dX6_timesWithin_17
  exact TMet.of (by decide) (Nat.le_of_ble_eq_true rfl) key
abbrev iX6_writeItem : tY := (RX6, cX6_writeItem, 2, none, "writeItem")
abbrev rmX6_writeItem : Room := { frames := 0, cells := 0, slots := 0, locals := 0 }
def fX6_writeItem (a1 : Int32) (M : tM) : Option (tM) :=
  if (nI (mN M 706 0)) ≤ (mI M 6 0 7) then (
  some M
  ) else (
  chk (inb (mI M 6 0 7) (mN M 706 0)) <|
  bnd (sI M 706 0 ((mI M 6 0 7).toNatClampNeg) a1) fun M3 =>
  bnd (sI M3 6 0 7 ((mI M3 6 0 7) + 1)) fun M4 =>
  some M4
  )
set_option maxHeartbeats 4000000 in
set_option maxRecDepth 100000 in
theorem okX6_writeItem {g : tG} {a1 : Int32} {M : tM} {Mz : tM} (h : fX6_writeItem a1 M = some Mz) : TMet g yX6_writeItem (Cond.code yX6_writeItem cX6_writeItem 2 (none) :: tgd) rmX6_writeItem [tr 6 0, ti a1] M none Mz 0 0 := by
  have key : TW g iX6_writeItem rmX6_writeItem 0 0 none Mz 0 0 0 [(0, tr 6 0), (1, ti a1)] [] M := by
    rw [fX6_writeItem] at h
    refine tm_aload_n dX6_writeItem_0 rfl rfl ?_
    refine tm_get kX6 rfl (j := 7) (by decide) wfX6_34 dX6_writeItem_1 (v := ti (mI M 6 0 7)) rfl ?_
    refine tm_aload_n dX6_writeItem_4 rfl rfl ?_
    refine tm_get kX6 rfl (j := 6) (by decide) wfX6_27 dX6_writeItem_5 (v := tr 706 0) rfl ?_
    refine tm_alen ⟨rfl, rfl⟩ dX6_writeItem_8 ?_
    refine tm_icmp_ge (tgt := 32) dX6_writeItem_9 (by decide) (fun c1 => ?_) (fun c1 => ?_)
    · rw [if_pos c1] at h
      obtain rfl := Option.some.inj h
      exact tm_vret rfl dX6_writeItem_32
    · rw [if_neg c1] at h
      refine tm_aload_n dX6_writeItem_12 rfl rfl ?_
      refine tm_get kX6 rfl (j := 6) (by decide) wfX6_27 dX6_writeItem_13 (v := tr 706 0) rfl ?_
      refine tm_aload_n dX6_writeItem_16 rfl rfl ?_
      refine tm_get kX6 rfl (j := 7) (by decide) wfX6_34 dX6_writeItem_17 (v := ti (mI M 6 0 7)) rfl ?_
      refine tm_iload_n dX6_writeItem_20 rfl rfl ?_
      replace h := chk_some h
      obtain ⟨b2, h⟩ := h
      replace h := bnd_some h
      obtain ⟨M3, eM3, h⟩ := h
      refine tm_iast rfl dX6_writeItem_21 (inb_vp b2) ?_
      refine tm_nmM eM3 ?_
      refine tm_aload_n dX6_writeItem_22 rfl rfl ?_
      refine tm_dup dX6_writeItem_23 rfl ?_
      refine tm_get kX6 rfl (j := 7) (by decide) wfX6_34 dX6_writeItem_24 (v := ti (mI M3 6 0 7)) rfl ?_
      refine tm_iconst (v := 1) dX6_writeItem_27 (by decide) ?_
      refine tm_iadd dX6_writeItem_28 ?_
      replace h := bnd_some h
      obtain ⟨M4, eM4, h⟩ := h
      refine tm_put kX6 rfl (j := 7) (by decide) wfX6_34 rfl dX6_writeItem_29 (fun _ => ⟨rfl, rfl⟩) (tPut_I ((mI M3 6 0 7) + 1) rfl) ?_
      refine tm_nmM eM4 ?_
      obtain rfl := Option.some.inj h
      exact tm_vret rfl dX6_writeItem_32
  exact TMet.of (by decide) (Nat.le_of_ble_eq_true rfl) key
theorem wfX7_9 : Cond.fieldLink RX7 9 "EvenFlow$Part" "time" "I" ∈ tgd := (tgd_t 420 (by decide +kernel) (by decide +kernel))
theorem wfX7_18 : Cond.fieldLink RX7 18 "EvenFlow$Part" "kind" "I" ∈ tgd := (tgd_t 410 (by decide +kernel) (by decide +kernel))
theorem wfX7_34 : Cond.fieldLink RX7 34 "EvenFlow$Part" "toldRow" "[J" ∈ tgd := (tgd_t 435 (by decide +kernel) (by decide +kernel))
theorem wfX7_41 : Cond.fieldLink RX7 41 "EvenFlow$Part" "thread" "I" ∈ tgd := (tgd_t 423 (by decide +kernel) (by decide +kernel))
abbrev iX7_toldOf : tY := (RX7, cX7_toldOf, 2, some .int, "toldOf")
abbrev rmX7_toldOf : Room := { frames := 0, cells := 0, slots := 0, locals := 0 }
def fX7_toldOf (i : Nat) (a1 : Int32) (M : tM) : Option (Int32) :=
  if a1.toInt < 0 ∨ 3 < a1.toInt then (
  bnd (mR M 7 i 9) fun r2 =>
  if r2 = none then (
  some (-9)
  ) else (
  bnd (mR M 7 i 9) fun r4 =>
  Option.bind r4 fun i5 =>
  some (nI (mN M 809 i5))
  )
  ) else (
  if a1 = 0 then (
  some (mI M 7 i 1)
  ) else (
  if a1 = 1 then (
  some (mI M 7 i 3)
  ) else (
  if a1 = 2 then (
  some (mI M 7 i 4)
  ) else (
  if a1 = 3 then (
  some (mI M 7 i 5)
  ) else (
  none)))))
set_option maxHeartbeats 4000000 in
set_option maxRecDepth 100000 in
theorem okX7_toldOf {g : tG} {i : Nat} {a1 : Int32} {M : tM} {v : Int32} (h : fX7_toldOf i a1 M = some v) : TMet g yX7_toldOf (Cond.code yX7_toldOf cX7_toldOf 2 (some .int) :: tgd) rmX7_toldOf [tr 7 i, ti a1] M (some (ti v)) M 0 0 := by
  have key : TW g iX7_toldOf rmX7_toldOf 0 0 (some (ti v)) M 0 0 0 [(0, tr 7 i), (1, ti a1)] [] M := by
    rw [fX7_toldOf] at h
    refine tm_iload_n dX7_toldOf_0 rfl rfl ?_
    by_cases c1 : a1.toInt < 0 ∨ 3 < a1.toInt
    · rw [if_pos c1] at h
      refine tm_tableOut (tgt := 52) dX7_toldOf_1 c1 (by decide) ?_
      refine tm_aload_n dX7_toldOf_52 rfl rfl ?_
      refine tm_get kX7 rfl (j := 9) (by decide) wfX7_34 dX7_toldOf_53 (v := tq 809 (mR M 7 i 9)) rfl ?_
      replace h := bnd_some h
      obtain ⟨r2, er2, h⟩ := h
      refine tm_nmQ er2 ?_
      refine tm_ifnonnull (k2 := 809) (q := r2) (tgt := 64) dX7_toldOf_56 (by decide) (fun c3 => ?_) (fun c3 => ?_)
      · rw [if_neg c3] at h
        refine tm_aload_n dX7_toldOf_64 rfl rfl ?_
        refine tm_get kX7 rfl (j := 9) (by decide) wfX7_34 dX7_toldOf_65 (v := tq 809 (mR M 7 i 9)) rfl ?_
        replace h := bnd_some h
        obtain ⟨r4, er4, h⟩ := h
        refine tm_nmQ er4 ?_
        replace h := obind_some h
        obtain ⟨i5, ei5, h⟩ := h
        subst ei5
        refine tm_alen ⟨rfl, rfl⟩ dX7_toldOf_68 ?_
        obtain rfl := Option.some.inj h
        exact tm_iret rfl dX7_toldOf_69
      · rw [if_pos c3] at h
        refine tm_bipush (v := (-9)) dX7_toldOf_59 (by decide) ?_
        refine tm_goto (tgt := 69) dX7_toldOf_61 (by decide) ?_
        obtain rfl := Option.some.inj h
        exact tm_iret rfl dX7_toldOf_69
    · rw [if_neg c1] at h
      by_cases c6 : a1 = 0
      · rw [if_pos c6] at h
        subst c6
        refine tm_tableIn (tgt := 32) dX7_toldOf_1 (by decide) (by decide) rfl (by decide) ?_
        refine tm_aload_n dX7_toldOf_32 rfl rfl ?_
        refine tm_get kX7 rfl (j := 1) (by decide) wfX7_18 dX7_toldOf_33 (v := ti (mI M 7 i 1)) rfl ?_
        obtain rfl := Option.some.inj h
        exact tm_iret rfl dX7_toldOf_36
      · rw [if_neg c6] at h
        by_cases c7 : a1 = 1
        · rw [if_pos c7] at h
          subst c7
          refine tm_tableIn (tgt := 37) dX7_toldOf_1 (by decide) (by decide) rfl (by decide) ?_
          refine tm_aload_n dX7_toldOf_37 rfl rfl ?_
          refine tm_get kX7 rfl (j := 3) (by decide) wfX7_31 dX7_toldOf_38 (v := ti (mI M 7 i 3)) rfl ?_
          obtain rfl := Option.some.inj h
          exact tm_iret rfl dX7_toldOf_41
        · rw [if_neg c7] at h
          by_cases c8 : a1 = 2
          · rw [if_pos c8] at h
            subst c8
            refine tm_tableIn (tgt := 42) dX7_toldOf_1 (by decide) (by decide) rfl (by decide) ?_
            refine tm_aload_n dX7_toldOf_42 rfl rfl ?_
            refine tm_get kX7 rfl (j := 4) (by decide) wfX7_9 dX7_toldOf_43 (v := ti (mI M 7 i 4)) rfl ?_
            obtain rfl := Option.some.inj h
            exact tm_iret rfl dX7_toldOf_46
          · rw [if_neg c8] at h
            by_cases c9 : a1 = 3
            · rw [if_pos c9] at h
              subst c9
              refine tm_tableIn (tgt := 47) dX7_toldOf_1 (by decide) (by decide) rfl (by decide) ?_
              refine tm_aload_n dX7_toldOf_47 rfl rfl ?_
              refine tm_get kX7 rfl (j := 5) (by decide) wfX7_41 dX7_toldOf_48 (v := ti (mI M 7 i 5)) rfl ?_
              obtain rfl := Option.some.inj h
              exact tm_iret rfl dX7_toldOf_51
            · rw [if_neg c9] at h
              cases h
  exact TMet.of (by decide) (Nat.le_of_ble_eq_true rfl) key
theorem wcX7_50 : tCB RX7 50 yJ9_min_7cf53 cJ9_min_7cf53 2 (some .int) 2 ∧ Cond.methodLink RX7 50 yJ9_min_7cf53 ∈ tgd ∧ Cond.static yJ9_min_7cf53 ∈ tgd := ⟨⟨(tgd_t 520 (by decide +kernel) (by decide +kernel)), (tgd_t 12 (by decide +kernel) (by decide +kernel)), by decide, by decide +kernel⟩, (tgd_t 518 (by decide +kernel) (by decide +kernel)), (tgd_t 519 (by decide +kernel) (by decide +kernel))⟩
theorem wcwX7_53 : tCW RX7 53 := ⟨(tgd_t 521 (by decide +kernel) (by decide +kernel)), (tgd_t 523 (by decide +kernel) (by decide +kernel)), (tgd_t 522 (by decide +kernel) (by decide +kernel)), (tgd_t 13 (by decide +kernel) (by decide +kernel))⟩
theorem wfX7_38 : Cond.fieldLink RX7 38 "EvenFlow$Part" "row" "[J" ∈ tgd := (tgd_t 437 (by decide +kernel) (by decide +kernel))
theorem wfX7_44 : Cond.fieldLink RX7 44 "EvenFlow$Part" "phase" "I" ∈ tgd := (tgd_t 432 (by decide +kernel) (by decide +kernel))
theorem wfX7_47 : Cond.fieldLink RX7 47 "EvenFlow$Part" "kept" "J" ∈ tgd := (tgd_t 433 (by decide +kernel) (by decide +kernel))
abbrev iX7_toFirst : tY := (RX7, cX7_toFirst, 1, none, "toFirst")
abbrev rmX7_toFirst : Room := { frames := 1, cells := 0, slots := 0, locals := 26 }
def fX7_toFirst (i : Nat) (M : tM) : Option (tM) :=
  bnd (sI M 7 i 7 0) fun M1 =>
  bnd (sL M1 7 i 8 0) fun M2 =>
  bnd (mR M2 7 i 9) fun r3 =>
  if r3 = none then (
  some M2
  ) else (
  bnd (mR M2 7 i 10) fun r5 =>
  if r5 = none then (
  some M2
  ) else (
  bnd (mR M2 7 i 9) fun r7 =>
  bnd (mR M2 7 i 10) fun r8 =>
  bnd (mR M2 7 i 9) fun r9 =>
  Option.bind r9 fun i10 =>
  bnd (mR M2 7 i 10) fun r11 =>
  Option.bind r11 fun i12 =>
  (fJ9_min_7cf53 (nI (mN M2 809 i10)) (nI (mN M2 810 i12)) M2).bind fun x13 =>
  Option.bind r8 fun i15 =>
  Option.bind r7 fun i16 =>
  chk (cpok 0 0 x13 (mN M2 809 i16) (mN M2 810 i15)) <|
  bnd (cL M2 810 i15 (va_cpy (mL M2 809 i16) (mL M2 810 i15) ((0 : Int32).toNatClampNeg) ((0 : Int32).toNatClampNeg) (x13.toNatClampNeg))) fun M18 =>
  some M18
  )
  )
set_option maxHeartbeats 4000000 in
set_option maxRecDepth 100000 in
theorem okX7_toFirst {g : tG} {i : Nat} {M : tM} {Mz : tM} (h : fX7_toFirst i M = some Mz) : TMet g yX7_toFirst (Cond.code yX7_toFirst cX7_toFirst 1 (none) :: tgd) rmX7_toFirst [tr 7 i] M none Mz 0 0 := by
  have key : TW g iX7_toFirst rmX7_toFirst 0 0 none Mz 0 0 0 [(0, tr 7 i)] [] M := by
    rw [fX7_toFirst] at h
    refine tm_aload_n dX7_toFirst_0 rfl rfl ?_
    refine tm_iconst (v := 0) dX7_toFirst_1 (by decide) ?_
    replace h := bnd_some h
    obtain ⟨M1, eM1, h⟩ := h
    refine tm_put kX7 rfl (j := 7) (by decide) wfX7_44 rfl dX7_toFirst_2 (fun _ => ⟨rfl, rfl⟩) (tPut_I 0 rfl) ?_
    refine tm_nmM eM1 ?_
    refine tm_aload_n dX7_toFirst_5 rfl rfl ?_
    refine tm_lconst (v := 0) dX7_toFirst_6 (by decide) ?_
    replace h := bnd_some h
    obtain ⟨M2, eM2, h⟩ := h
    refine tm_put kX7 rfl (j := 8) (by decide) wfX7_47 rfl dX7_toFirst_7 (fun _ => ⟨rfl, rfl⟩) (tPut_L 0 rfl) ?_
    refine tm_nmM eM2 ?_
    refine tm_aload_n dX7_toFirst_10 rfl rfl ?_
    refine tm_get kX7 rfl (j := 9) (by decide) wfX7_34 dX7_toFirst_11 (v := tq 809 (mR M2 7 i 9)) rfl ?_
    replace h := bnd_some h
    obtain ⟨r3, er3, h⟩ := h
    refine tm_nmQ er3 ?_
    refine tm_ifnull (k2 := 809) (q := r3) (tgt := 50) dX7_toFirst_14 (by decide) (fun c4 => ?_) (fun c4 => ?_)
    · rw [if_pos c4] at h
      obtain rfl := Option.some.inj h
      exact tm_vret rfl dX7_toFirst_50
    · rw [if_neg c4] at h
      refine tm_aload_n dX7_toFirst_17 rfl rfl ?_
      refine tm_get kX7 rfl (j := 10) (by decide) wfX7_38 dX7_toFirst_18 (v := tq 810 (mR M2 7 i 10)) rfl ?_
      replace h := bnd_some h
      obtain ⟨r5, er5, h⟩ := h
      refine tm_nmQ er5 ?_
      refine tm_ifnull (k2 := 810) (q := r5) (tgt := 50) dX7_toFirst_21 (by decide) (fun c6 => ?_) (fun c6 => ?_)
      · rw [if_pos c6] at h
        obtain rfl := Option.some.inj h
        exact tm_vret rfl dX7_toFirst_50
      · rw [if_neg c6] at h
        refine tm_aload_n dX7_toFirst_24 rfl rfl ?_
        refine tm_get kX7 rfl (j := 9) (by decide) wfX7_34 dX7_toFirst_25 (v := tq 809 (mR M2 7 i 9)) rfl ?_
        replace h := bnd_some h
        obtain ⟨r7, er7, h⟩ := h
        refine tm_nmQ er7 ?_
        refine tm_iconst (v := 0) dX7_toFirst_28 (by decide) ?_
        refine tm_aload_n dX7_toFirst_29 rfl rfl ?_
        refine tm_get kX7 rfl (j := 10) (by decide) wfX7_38 dX7_toFirst_30 (v := tq 810 (mR M2 7 i 10)) rfl ?_
        replace h := bnd_some h
        obtain ⟨r8, er8, h⟩ := h
        refine tm_nmQ er8 ?_
        refine tm_iconst (v := 0) dX7_toFirst_33 (by decide) ?_
        refine tm_aload_n dX7_toFirst_34 rfl rfl ?_
        refine tm_get kX7 rfl (j := 9) (by decide) wfX7_34 dX7_toFirst_35 (v := tq 809 (mR M2 7 i 9)) rfl ?_
        replace h := bnd_some h
        obtain ⟨r9, er9, h⟩ := h
        refine tm_nmQ er9 ?_
        replace h := obind_some h
        obtain ⟨i10, ei10, h⟩ := h
        subst ei10
        refine tm_alen ⟨rfl, rfl⟩ dX7_toFirst_38 ?_
        refine tm_aload_n dX7_toFirst_39 rfl rfl ?_
        refine tm_get kX7 rfl (j := 10) (by decide) wfX7_38 dX7_toFirst_40 (v := tq 810 (mR M2 7 i 10)) rfl ?_
        replace h := bnd_some h
        obtain ⟨r11, er11, h⟩ := h
        refine tm_nmQ er11 ?_
        replace h := obind_some h
        obtain ⟨i12, ei12, h⟩ := h
        subst ei12
        refine tm_alen ⟨rfl, rfl⟩ dX7_toFirst_43 ?_
        replace h := obind_some h
        obtain ⟨x13, hc14, h⟩ := h
        refine tm_callS (avs := [ti (nI (mN M2 809 i10)), ti (nI (mN M2 810 i12))]) (st := [ti 0, tq 810 r8, ti 0, tq 809 r7]) (okJ9_min_7cf53 hc14) wcX7_50.1 wcX7_50.2.1 wcX7_50.2.2 ⟨rfl, rfl, Nat.le_of_ble_eq_true rfl, Nat.le_of_ble_eq_true rfl⟩ rfl (Nat.le_of_ble_eq_true rfl) ⟨Nat.zero_le _, Nat.zero_le _⟩ dX7_toFirst_44 ?_
        replace h := obind_some h
        obtain ⟨i15, ei15, h⟩ := h
        subst ei15
        replace h := obind_some h
        obtain ⟨i16, ei16, h⟩ := h
        subst ei16
        replace h := chk_some h
        obtain ⟨b17, h⟩ := h
        replace h := bnd_some h
        obtain ⟨M18, eM18, h⟩ := h
        have q19 := (cpok_of b17)
        refine tm_copyL rfl rfl wcwX7_53 ⟨by decide, by decide⟩ dX7_toFirst_47 q19.1 q19.2.1 q19.2.2.1 q19.2.2.2.1 q19.2.2.2.2 ?_
        refine tm_nmM eM18 ?_
        obtain rfl := Option.some.inj h
        exact tm_vret rfl dX7_toFirst_50
  exact TMet.of (by decide) (Nat.le_of_ble_eq_true rfl) key
theorem wcX7_61 : tCB RX7 61 yX7_toldOf cX7_toldOf 2 (some .int) 1 ∧ Cond.methodLink RX7 61 yX7_toldOf ∈ tgd ∧ Cond.instanceMethod yX7_toldOf ∈ tgd ∧ Cond.selects RX7 yX7_toldOf yX7_toldOf ∈ tgd := ⟨⟨(tgd_t 675 (by decide +kernel) (by decide +kernel)), (tgd_t 11 (by decide +kernel) (by decide +kernel)), by decide, by decide +kernel⟩, (tgd_t 1210 (by decide +kernel) (by decide +kernel)), (tgd_t 673 (by decide +kernel) (by decide +kernel)), (tgd_t 674 (by decide +kernel) (by decide +kernel))⟩
theorem wconstlX7_59 : Cond.constantLong RX7 59 31 ∈ tgd := (tgd_t 1209 (by decide +kernel) (by decide +kernel))
abbrev iX7_digestFrom : tY := (RX7, cX7_digestFrom, 8, some .long, "digestFrom")
abbrev rmX7_digestFrom : Room := { frames := 1, cells := 0, slots := 0, locals := 21 }
def fX7_digestFrom_l2 (z0 : Nat) (M : tM) : Nat → Int64 → Int32 → Option (Int64)
  | 0, _, _ => none
  | n + 1, y1, y3 =>
    if 4 < y3 then (
    some y1
    ) else (
    (fX7_toldOf z0 y3 M).bind fun x2 =>
    bnd ((31 * y1) + (x2.toInt64)) fun x4 =>
    bnd (y3 + 1) fun x5 =>
    fX7_digestFrom_l2 z0 M n x4 x5
    )
def fX7_digestFrom_l68 (z3 : Nat) (z4 : Int32) (M : tM) : Nat → Int64 → Int32 → Option (Int64)
  | 0, _, _ => none
  | n + 1, y1, y5 =>
    if z4 ≤ y5 then (
    some y1
    ) else (
    chk (inb y5 (mN M 810 z3)) <|
    bnd (mL M 810 z3 (y5.toNatClampNeg)) fun x18 =>
    bnd ((31 * y1) + x18) fun x19 =>
    bnd (y5 + 1) fun x20 =>
    fX7_digestFrom_l68 z3 z4 M n x19 x20
    )
def fX7_digestFrom (i : Nat) (a1 : Int64) (M : tM) : Option (Int64) :=
  Option.bind (fX7_digestFrom_l2 i M FU a1 0) fun x8 =>
  bnd ((31 * x8) + ((mI M 7 i 7).toInt64)) fun x9 =>
  bnd ((31 * x9) + (mL M 7 i 8)) fun x10 =>
  bnd (mR M 7 i 10) fun r11 =>
  if r11 = none then (
  some x10
  ) else (
  bnd (mR M 7 i 10) fun r13 =>
  Option.bind r13 fun i14 =>
  bnd (nI (mN M 810 i14)) fun x15 =>
  Option.bind (fX7_digestFrom_l68 i14 x15 M FU x10 0) fun x23 =>
  some x23
  )
set_option maxHeartbeats 4000000 in
set_option maxRecDepth 100000 in
theorem okX7_digestFrom_l2 {g : tG} (z0 : Nat) (M : tM) {r : Option tV} {Mz : tM} : ∀ (n : Nat) (y1 : Int64) (y3 : Int32) (w : Int64), fX7_digestFrom_l2 z0 M n y1 y3 = some w → (∀ (w1 : Int64), w1 = w → TW g iX7_digestFrom rmX7_digestFrom 0 0 r Mz 0 0 26 [(0, tr 7 z0), (1, tl w1)] [] M) → TW g iX7_digestFrom rmX7_digestFrom 0 0 r Mz 0 0 2 [(0, tr 7 z0), (1, tl y1), (3, ti y3)] [] M := by
  intro n
  induction n with
  | zero => intro y1 y3 w h; cases h
  | succ n ih =>
    intro y1 y3 w h J
    rw [fX7_digestFrom_l2] at h
    refine tm_iload_n dX7_digestFrom_2 rfl rfl ?_
    refine tm_iconst (v := 4) dX7_digestFrom_3 (by decide) ?_
    refine tm_icmp_gt (tgt := 26) dX7_digestFrom_4 (by decide) (fun c1 => ?_) (fun c1 => ?_)
    · rw [if_pos c1] at h
      obtain rfl := Option.some.inj h
      refine tm_lcp [0, 1] rfl ?_
      exact J _ rfl
    · rw [if_neg c1] at h
      refine tm_ldc2 (v := 31) dX7_digestFrom_7 wconstlX7_59 ?_
      refine tm_lload_n dX7_digestFrom_10 rfl rfl ?_
      refine tm_lmul dX7_digestFrom_11 ?_
      refine tm_aload_n dX7_digestFrom_12 rfl rfl ?_
      refine tm_iload_n dX7_digestFrom_13 rfl rfl ?_
      replace h := obind_some h
      obtain ⟨x2, hc3, h⟩ := h
      refine tm_callV kX7 rfl (avs := [ti y3]) (st := [tl (31 * y1)]) (okX7_toldOf hc3) wcX7_61.1 wcX7_61.2.1 wcX7_61.2.2.1 wcX7_61.2.2.2 ⟨rfl, rfl, Nat.le_of_ble_eq_true rfl, Nat.le_of_ble_eq_true rfl⟩ rfl (Nat.le_of_ble_eq_true rfl) ⟨Nat.zero_le _, Nat.zero_le _⟩ dX7_digestFrom_14 ?_
      refine tm_i2l dX7_digestFrom_17 ?_
      refine tm_ladd dX7_digestFrom_18 ?_
      replace h := bnd_some h
      obtain ⟨x4, ex4, h⟩ := h
      refine tm_nmL ex4 ?_
      refine tm_lstore_n (lc' := [(1, tl x4), (0, tr 7 z0), (3, ti y3)]) dX7_digestFrom_19 rfl (by decide) rfl ?_
      replace h := bnd_some h
      obtain ⟨x5, ex5, h⟩ := h
      refine tm_iinc (v := x5) (lc' := [(3, ti x5), (1, tl x4), (0, tr 7 z0)]) dX7_digestFrom_20 rfl (by rw [ex5]; rfl) (by decide) rfl ?_
      refine tm_goto (tgt := 2) dX7_digestFrom_23 (by decide) ?_
      refine tm_lcp [0, 1, 3] rfl ?_
      exact ih x4 x5 _ h J
set_option maxHeartbeats 4000000 in
set_option maxRecDepth 100000 in
theorem okX7_digestFrom_l68 {g : tG} (z3 : Nat) (z4 : Int32) (M : tM) {r : Option tV} {Mz : tM} : ∀ (n : Nat) (y1 : Int64) (y5 : Int32) (w : Int64), fX7_digestFrom_l68 z3 z4 M n y1 y5 = some w → (∀ (w1 : Int64), w1 = w → TW g iX7_digestFrom rmX7_digestFrom 0 0 r Mz 0 0 96 [(1, tl w1)] [] M) → TW g iX7_digestFrom rmX7_digestFrom 0 0 r Mz 0 0 68 [(1, tl y1), (3, tr 810 z3), (4, ti z4), (5, ti y5)] [] M := by
  intro n
  induction n with
  | zero => intro y1 y5 w h; cases h
  | succ n ih =>
    intro y1 y5 w h J
    rw [fX7_digestFrom_l68] at h
    refine tm_iload dX7_digestFrom_68 rfl ?_
    refine tm_iload dX7_digestFrom_70 rfl ?_
    refine tm_icmp_ge (tgt := 96) dX7_digestFrom_72 (by decide) (fun c16 => ?_) (fun c16 => ?_)
    · rw [if_pos c16] at h
      obtain rfl := Option.some.inj h
      refine tm_lcp [1] rfl ?_
      exact J _ rfl
    · rw [if_neg c16] at h
      refine tm_aload_n dX7_digestFrom_75 rfl rfl ?_
      refine tm_iload dX7_digestFrom_76 rfl ?_
      replace h := chk_some h
      obtain ⟨b17, h⟩ := h
      refine tm_lald rfl dX7_digestFrom_78 (inb_vp b17) ?_
      replace h := bnd_some h
      obtain ⟨x18, ex18, h⟩ := h
      refine tm_nmL ex18 ?_
      refine tm_lstore (lc' := [(6, tl x18), (1, tl y1), (3, tr 810 z3), (4, ti z4), (5, ti y5)]) dX7_digestFrom_79 (by decide) rfl ?_
      refine tm_ldc2 (v := 31) dX7_digestFrom_81 wconstlX7_59 ?_
      refine tm_lload_n dX7_digestFrom_84 rfl rfl ?_
      refine tm_lmul dX7_digestFrom_85 ?_
      refine tm_lload dX7_digestFrom_86 rfl ?_
      refine tm_ladd dX7_digestFrom_88 ?_
      replace h := bnd_some h
      obtain ⟨x19, ex19, h⟩ := h
      refine tm_nmL ex19 ?_
      refine tm_lstore_n (lc' := [(1, tl x19), (6, tl x18), (3, tr 810 z3), (4, ti z4), (5, ti y5)]) dX7_digestFrom_89 rfl (by decide) rfl ?_
      replace h := bnd_some h
      obtain ⟨x20, ex20, h⟩ := h
      refine tm_iinc (v := x20) (lc' := [(5, ti x20), (1, tl x19), (6, tl x18), (3, tr 810 z3), (4, ti z4)]) dX7_digestFrom_90 rfl (by rw [ex20]; rfl) (by decide) rfl ?_
      refine tm_goto (tgt := 68) dX7_digestFrom_93 (by decide) ?_
      refine tm_lcp [1, 3, 4, 5] rfl ?_
      exact ih x19 x20 _ h J
set_option maxHeartbeats 4000000 in
set_option maxRecDepth 100000 in
theorem okX7_digestFrom {g : tG} {i : Nat} {a1 : Int64} {M : tM} {v : Int64} (h : fX7_digestFrom i a1 M = some v) : TMet g yX7_digestFrom (Cond.code yX7_digestFrom cX7_digestFrom 8 (some .long) :: tgd) rmX7_digestFrom [tr 7 i, tl a1] M (some (tl v)) M 0 0 := by
  have key : TW g iX7_digestFrom rmX7_digestFrom 0 0 (some (tl v)) M 0 0 0 [(0, tr 7 i), (1, tl a1)] [] M := by
    rw [fX7_digestFrom] at h
    refine tm_iconst (v := 0) dX7_digestFrom_0 (by decide) ?_
    refine tm_istore_n (lc' := [(3, ti 0), (0, tr 7 i), (1, tl a1)]) dX7_digestFrom_1 rfl (by decide) rfl ?_
    replace h := obind_some h
    obtain ⟨w6, hE7, h⟩ := h
    refine tm_lcp [0, 1, 3] rfl ?_
    refine okX7_digestFrom_l2 i M FU a1 0 _ hE7 (fun x8 e => ?_)
    subst e
    refine tm_ldc2 (v := 31) dX7_digestFrom_26 wconstlX7_59 ?_
    refine tm_lload_n dX7_digestFrom_29 rfl rfl ?_
    refine tm_lmul dX7_digestFrom_30 ?_
    refine tm_aload_n dX7_digestFrom_31 rfl rfl ?_
    refine tm_get kX7 rfl (j := 7) (by decide) wfX7_44 dX7_digestFrom_32 (v := ti (mI M 7 i 7)) rfl ?_
    refine tm_i2l dX7_digestFrom_35 ?_
    refine tm_ladd dX7_digestFrom_36 ?_
    replace h := bnd_some h
    obtain ⟨x9, ex9, h⟩ := h
    refine tm_nmL ex9 ?_
    refine tm_lstore_n (lc' := [(1, tl x9), (0, tr 7 i)]) dX7_digestFrom_37 rfl (by decide) rfl ?_
    refine tm_ldc2 (v := 31) dX7_digestFrom_38 wconstlX7_59 ?_
    refine tm_lload_n dX7_digestFrom_41 rfl rfl ?_
    refine tm_lmul dX7_digestFrom_42 ?_
    refine tm_aload_n dX7_digestFrom_43 rfl rfl ?_
    refine tm_get kX7 rfl (j := 8) (by decide) wfX7_47 dX7_digestFrom_44 (v := tl (mL M 7 i 8)) rfl ?_
    refine tm_ladd dX7_digestFrom_47 ?_
    replace h := bnd_some h
    obtain ⟨x10, ex10, h⟩ := h
    refine tm_nmL ex10 ?_
    refine tm_lstore_n (lc' := [(1, tl x10), (0, tr 7 i)]) dX7_digestFrom_48 rfl (by decide) rfl ?_
    refine tm_aload_n dX7_digestFrom_49 rfl rfl ?_
    refine tm_get kX7 rfl (j := 10) (by decide) wfX7_38 dX7_digestFrom_50 (v := tq 810 (mR M 7 i 10)) rfl ?_
    replace h := bnd_some h
    obtain ⟨r11, er11, h⟩ := h
    refine tm_nmQ er11 ?_
    refine tm_ifnull (k2 := 810) (q := r11) (tgt := 96) dX7_digestFrom_53 (by decide) (fun c12 => ?_) (fun c12 => ?_)
    · rw [if_pos c12] at h
      refine tm_lload_n dX7_digestFrom_96 rfl rfl ?_
      obtain rfl := Option.some.inj h
      exact tm_lret rfl dX7_digestFrom_97
    · rw [if_neg c12] at h
      refine tm_aload_n dX7_digestFrom_56 rfl rfl ?_
      refine tm_get kX7 rfl (j := 10) (by decide) wfX7_38 dX7_digestFrom_57 (v := tq 810 (mR M 7 i 10)) rfl ?_
      replace h := bnd_some h
      obtain ⟨r13, er13, h⟩ := h
      refine tm_nmQ er13 ?_
      refine tm_astore_n (lc' := [(3, tq 810 r13), (1, tl x10), (0, tr 7 i)]) dX7_digestFrom_60 rfl (by decide) rfl ?_
      refine tm_aload_n dX7_digestFrom_61 rfl rfl ?_
      replace h := obind_some h
      obtain ⟨i14, ei14, h⟩ := h
      subst ei14
      refine tm_alen ⟨rfl, rfl⟩ dX7_digestFrom_62 ?_
      replace h := bnd_some h
      obtain ⟨x15, ex15, h⟩ := h
      refine tm_nmI ex15 ?_
      refine tm_istore (lc' := [(4, ti x15), (3, tr 810 i14), (1, tl x10), (0, tr 7 i)]) dX7_digestFrom_63 (by decide) rfl ?_
      refine tm_iconst (v := 0) dX7_digestFrom_65 (by decide) ?_
      refine tm_istore (lc' := [(5, ti 0), (4, ti x15), (3, tr 810 i14), (1, tl x10), (0, tr 7 i)]) dX7_digestFrom_66 (by decide) rfl ?_
      replace h := obind_some h
      obtain ⟨w21, hE22, h⟩ := h
      refine tm_lcp [1, 3, 4, 5] rfl ?_
      refine okX7_digestFrom_l68 i14 x15 M FU x10 0 _ hE22 (fun x23 e => ?_)
      subst e
      refine tm_lload_n dX7_digestFrom_96 rfl rfl ?_
      obtain rfl := Option.some.inj h
      exact tm_lret rfl dX7_digestFrom_97
  exact TMet.of (by decide) (Nat.le_of_ble_eq_true rfl) key
theorem wfX8_29 : Cond.fieldLink RX8 29 "EvenFlow$Plan" "length" "I" ∈ tgd := (tgd_t 150 (by decide +kernel) (by decide +kernel))
abbrev iX8_drop : tY := (RX8, cX8_drop, 1, none, "drop")
abbrev rmX8_drop : Room := { frames := 0, cells := 0, slots := 0, locals := 0 }
def fX8_drop  (M : tM) : Option (tM) :=
  bnd (sI M 8 0 3 0) fun M1 =>
  some M1
set_option maxHeartbeats 4000000 in
set_option maxRecDepth 100000 in
theorem okX8_drop {g : tG}  {M : tM} {Mz : tM} (h : fX8_drop  M = some Mz) : TMet g yX8_drop (Cond.code yX8_drop cX8_drop 1 (none) :: tgd) rmX8_drop [tr 8 0] M none Mz 0 0 := by
  have key : TW g iX8_drop rmX8_drop 0 0 none Mz 0 0 0 [(0, tr 8 0)] [] M := by
    rw [fX8_drop] at h
    refine tm_aload_n dX8_drop_0 rfl rfl ?_
    refine tm_iconst (v := 0) dX8_drop_1 (by decide) ?_
    replace h := bnd_some h
    obtain ⟨M1, eM1, h⟩ := h
    refine tm_put kX8 rfl (j := 3) (by decide) wfX8_29 rfl dX8_drop_2 (fun _ => ⟨rfl, rfl⟩) (tPut_I 0 rfl) ?_
    refine tm_nmM eM1 ?_
    obtain rfl := Option.some.inj h
    exact tm_vret rfl dX8_drop_5
  exact TMet.of (by decide) (Nat.le_of_ble_eq_true rfl) key
abbrev iX8_has : tY := (RX8, cX8_has, 2, some .boolean, "has")
abbrev rmX8_has : Room := { frames := 0, cells := 0, slots := 0, locals := 0 }
def fX8_has (a1 : Int32) (M : tM) : Option (Int32) :=
  if a1 < 0 then (
  some 0
  ) else (
  if (mI M 8 0 3) ≤ a1 then (
  some 0
  ) else (
  some 1
  )
  )
set_option maxHeartbeats 4000000 in
set_option maxRecDepth 100000 in
theorem okX8_has {g : tG} {a1 : Int32} {M : tM} {v : Int32} (h : fX8_has a1 M = some v) : TMet g yX8_has (Cond.code yX8_has cX8_has 2 (some .boolean) :: tgd) rmX8_has [tr 8 0, ti a1] M (some (ti v)) M 0 0 := by
  have key : TW g iX8_has rmX8_has 0 0 (some (ti v)) M 0 0 0 [(0, tr 8 0), (1, ti a1)] [] M := by
    rw [fX8_has] at h
    refine tm_iload_n dX8_has_0 rfl rfl ?_
    refine tm_if_lt (tgt := 16) dX8_has_1 (by decide) (fun c1 => ?_) (fun c1 => ?_)
    · rw [if_pos c1] at h
      refine tm_iconst (v := 0) dX8_has_16 (by decide) ?_
      obtain rfl := Option.some.inj h
      exact tm_zret (by decide) rfl dX8_has_17
    · rw [if_neg c1] at h
      refine tm_iload_n dX8_has_4 rfl rfl ?_
      refine tm_aload_n dX8_has_5 rfl rfl ?_
      refine tm_get kX8 rfl (j := 3) (by decide) wfX8_29 dX8_has_6 (v := ti (mI M 8 0 3)) rfl ?_
      refine tm_icmp_ge (tgt := 16) dX8_has_9 (by decide) (fun c2 => ?_) (fun c2 => ?_)
      · rw [if_pos c2] at h
        refine tm_iconst (v := 0) dX8_has_16 (by decide) ?_
        obtain rfl := Option.some.inj h
        exact tm_zret (by decide) rfl dX8_has_17
      · rw [if_neg c2] at h
        refine tm_iconst (v := 1) dX8_has_12 (by decide) ?_
        refine tm_goto (tgt := 17) dX8_has_13 (by decide) ?_
        obtain rfl := Option.some.inj h
        exact tm_zret (by decide) rfl dX8_has_17
  exact TMet.of (by decide) (Nat.le_of_ble_eq_true rfl) key
theorem wcX8_33 : tCB RX8 33 yJ7_fill_53178 cJ7_fill_53178 4 (none) 2 ∧ Cond.methodLink RX8 33 yJ7_fill_53178 ∈ tgd ∧ Cond.static yJ7_fill_53178 ∈ tgd := ⟨⟨(tgd_t 535 (by decide +kernel) (by decide +kernel)), (tgd_t 14 (by decide +kernel) (by decide +kernel)), by decide, by decide +kernel⟩, (tgd_t 533 (by decide +kernel) (by decide +kernel)), (tgd_t 534 (by decide +kernel) (by decide +kernel))⟩
theorem wfX8_18 : Cond.fieldLink RX8 18 "EvenFlow$Plan" "threadNext" "[I" ∈ tgd := (tgd_t 154 (by decide +kernel) (by decide +kernel))
abbrev iX8_beginThreads : tY := (RX8, cX8_beginThreads, 1, none, "beginThreads")
abbrev rmX8_beginThreads : Room := { frames := 1, cells := 0, slots := 0, locals := 23 }
def fX8_beginThreads  (M : tM) : Option (tM) :=
  (fJ7_fill_53178 905 0 0 M).bind fun M2 =>
  some M2
set_option maxHeartbeats 4000000 in
set_option maxRecDepth 100000 in
theorem okX8_beginThreads {g : tG}  {M : tM} {Mz : tM} (h : fX8_beginThreads  M = some Mz) : TMet g yX8_beginThreads (Cond.code yX8_beginThreads cX8_beginThreads 1 (none) :: tgd) rmX8_beginThreads [tr 8 0] M none Mz 0 0 := by
  have key : TW g iX8_beginThreads rmX8_beginThreads 0 0 none Mz 0 0 0 [(0, tr 8 0)] [] M := by
    rw [fX8_beginThreads] at h
    refine tm_aload_n dX8_beginThreads_0 rfl rfl ?_
    refine tm_get kX8 rfl (j := 5) (by decide) wfX8_18 dX8_beginThreads_1 (v := tr 905 0) rfl ?_
    refine tm_iconst (v := 0) dX8_beginThreads_4 (by decide) ?_
    replace h := obind_some h
    obtain ⟨M2, hc1, h⟩ := h
    refine tm_callS (avs := [tr 905 0, ti 0]) (st := []) (okJ7_fill_53178 hc1) wcX8_33.1 wcX8_33.2.1 wcX8_33.2.2 ⟨rfl, rfl, Nat.le_of_ble_eq_true rfl, Nat.le_of_ble_eq_true rfl⟩ rfl (Nat.le_of_ble_eq_true rfl) ⟨Nat.zero_le _, Nat.zero_le _⟩ dX8_beginThreads_5 ?_
    obtain rfl := Option.some.inj h
    exact tm_vret rfl dX8_beginThreads_8
  exact TMet.of (by decide) (Nat.le_of_ble_eq_true rfl) key
theorem wcX8_76 : tCB RX8 76 yJ9_min_7cf53 cJ9_min_7cf53 2 (some .int) 2 ∧ Cond.methodLink RX8 76 yJ9_min_7cf53 ∈ tgd ∧ Cond.static yJ9_min_7cf53 ∈ tgd := ⟨⟨(tgd_t 520 (by decide +kernel) (by decide +kernel)), (tgd_t 12 (by decide +kernel) (by decide +kernel)), by decide, by decide +kernel⟩, (tgd_t 849 (by decide +kernel) (by decide +kernel)), (tgd_t 519 (by decide +kernel) (by decide +kernel))⟩
theorem wcX8_89 : tCB RX8 89 yX8_beginThreads cX8_beginThreads 1 (none) 0 ∧ Cond.methodLink RX8 89 yX8_beginThreads ∈ tgd ∧ Cond.instanceMethod yX8_beginThreads ∈ tgd ∧ Cond.selects RX8 yX8_beginThreads yX8_beginThreads ∈ tgd := ⟨⟨(tgd_t 532 (by decide +kernel) (by decide +kernel)), (tgd_t 4 (by decide +kernel) (by decide +kernel)), by decide, by decide +kernel⟩, (tgd_t 851 (by decide +kernel) (by decide +kernel)), (tgd_t 530 (by decide +kernel) (by decide +kernel)), (tgd_t 531 (by decide +kernel) (by decide +kernel))⟩
theorem wcwX8_83 : tCW RX8 83 := ⟨(tgd_t 850 (by decide +kernel) (by decide +kernel)), (tgd_t 523 (by decide +kernel) (by decide +kernel)), (tgd_t 522 (by decide +kernel) (by decide +kernel)), (tgd_t 13 (by decide +kernel) (by decide +kernel))⟩
theorem wfX8_9 : Cond.fieldLink RX8 9 "EvenFlow$Plan" "row" "[I" ∈ tgd := (tgd_t 148 (by decide +kernel) (by decide +kernel))
theorem wfX8_15 : Cond.fieldLink RX8 15 "EvenFlow$Plan" "stores" "[I" ∈ tgd := (tgd_t 152 (by decide +kernel) (by decide +kernel))
theorem wfX8_25 : Cond.fieldLink RX8 25 "EvenFlow$Plan" "ahead" "LEvenFlow$Marking;" ∈ tgd := (tgd_t 147 (by decide +kernel) (by decide +kernel))
theorem wfX8_82 : Cond.fieldLink RX8 82 "EvenFlow$Marking" "stores" "[I" ∈ tgd := (tgd_t 107 (by decide +kernel) (by decide +kernel))
theorem wfX8_92 : Cond.fieldLink RX8 92 "EvenFlow$Marking" "sumOfStores" "I" ∈ tgd := (tgd_t 119 (by decide +kernel) (by decide +kernel))
abbrev iX8_settle : tY := (RX8, cX8_settle, 2, some .int, "settle")
abbrev rmX8_settle : Room := { frames := 2, cells := 0, slots := 0, locals := 43 }
def fX8_settle (a1 : Int32) (M : tM) : Option (Int32 × tM) :=
  (fJ9_min_7cf53 a1 (nI (mN M 902 0)) M).bind fun x1 =>
  bnd (sI M 8 0 3 x1) fun M3 =>
  chk (cpok 0 0 (nI (mN M3 904 0)) (mN M3 602 0) (mN M3 904 0)) <|
  bnd (cI M3 904 0 (va_cpy (mI M3 602 0) (mI M3 904 0) ((0 : Int32).toNatClampNeg) ((0 : Int32).toNatClampNeg) ((nI (mN M3 904 0)).toNatClampNeg))) fun M5 =>
  (fX8_beginThreads M5).bind fun M8 =>
  some ((mI M8 5 0 7, M8))
set_option maxHeartbeats 4000000 in
set_option maxRecDepth 100000 in
theorem okX8_settle {g : tG} {a1 : Int32} {M : tM} {v : Int32} {Mz : tM} (h : fX8_settle a1 M = some ((v, Mz))) : TMet g yX8_settle (Cond.code yX8_settle cX8_settle 2 (some .int) :: tgd) rmX8_settle [tr 8 0, ti a1] M (some (ti v)) Mz 0 0 := by
  have key : TW g iX8_settle rmX8_settle 0 0 (some (ti v)) Mz 0 0 0 [(0, tr 8 0), (1, ti a1)] [] M := by
    rw [fX8_settle] at h
    refine tm_aload_n dX8_settle_0 rfl rfl ?_
    refine tm_iload_n dX8_settle_1 rfl rfl ?_
    refine tm_aload_n dX8_settle_2 rfl rfl ?_
    refine tm_get kX8 rfl (j := 2) (by decide) wfX8_9 dX8_settle_3 (v := tr 902 0) rfl ?_
    refine tm_alen ⟨rfl, rfl⟩ dX8_settle_6 ?_
    replace h := obind_some h
    obtain ⟨x1, hc2, h⟩ := h
    refine tm_callS (avs := [ti a1, ti (nI (mN M 902 0))]) (st := [tr 8 0]) (okJ9_min_7cf53 hc2) wcX8_76.1 wcX8_76.2.1 wcX8_76.2.2 ⟨rfl, rfl, Nat.le_of_ble_eq_true rfl, Nat.le_of_ble_eq_true rfl⟩ rfl (Nat.le_of_ble_eq_true rfl) ⟨Nat.zero_le _, Nat.zero_le _⟩ dX8_settle_7 ?_
    replace h := bnd_some h
    obtain ⟨M3, eM3, h⟩ := h
    refine tm_put kX8 rfl (j := 3) (by decide) wfX8_29 rfl dX8_settle_10 (fun _ => ⟨rfl, rfl⟩) (tPut_I x1 rfl) ?_
    refine tm_nmM eM3 ?_
    refine tm_aload_n dX8_settle_13 rfl rfl ?_
    refine tm_get kX8 rfl (j := 1) (by decide) wfX8_25 dX8_settle_14 (v := tr 5 0) rfl ?_
    refine tm_get kX5 rfl (j := 2) (by decide) wfX8_82 dX8_settle_17 (v := tr 602 0) rfl ?_
    refine tm_iconst (v := 0) dX8_settle_20 (by decide) ?_
    refine tm_aload_n dX8_settle_21 rfl rfl ?_
    refine tm_get kX8 rfl (j := 4) (by decide) wfX8_15 dX8_settle_22 (v := tr 904 0) rfl ?_
    refine tm_iconst (v := 0) dX8_settle_25 (by decide) ?_
    refine tm_aload_n dX8_settle_26 rfl rfl ?_
    refine tm_get kX8 rfl (j := 4) (by decide) wfX8_15 dX8_settle_27 (v := tr 904 0) rfl ?_
    refine tm_alen ⟨rfl, rfl⟩ dX8_settle_30 ?_
    replace h := chk_some h
    obtain ⟨b4, h⟩ := h
    replace h := bnd_some h
    obtain ⟨M5, eM5, h⟩ := h
    have q6 := (cpok_of b4)
    refine tm_copyI rfl rfl wcwX8_83 ⟨by decide, by decide⟩ dX8_settle_31 q6.1 q6.2.1 q6.2.2.1 q6.2.2.2.1 q6.2.2.2.2 ?_
    refine tm_nmM eM5 ?_
    refine tm_aload_n dX8_settle_34 rfl rfl ?_
    replace h := obind_some h
    obtain ⟨M8, hc7, h⟩ := h
    refine tm_callV kX8 rfl (avs := []) (st := []) (okX8_beginThreads hc7) wcX8_89.1 wcX8_89.2.1 wcX8_89.2.2.1 wcX8_89.2.2.2 ⟨rfl, rfl, Nat.le_of_ble_eq_true rfl, Nat.le_of_ble_eq_true rfl⟩ rfl (Nat.le_of_ble_eq_true rfl) ⟨Nat.zero_le _, Nat.zero_le _⟩ dX8_settle_35 ?_
    refine tm_aload_n dX8_settle_38 rfl rfl ?_
    refine tm_get kX8 rfl (j := 1) (by decide) wfX8_25 dX8_settle_39 (v := tr 5 0) rfl ?_
    refine tm_get kX5 rfl (j := 7) (by decide) wfX8_92 dX8_settle_42 (v := ti (mI M8 5 0 7)) rfl ?_
    obtain ⟨rfl, rfl⟩ := pj2 h
    exact tm_iret rfl dX8_settle_45
  exact TMet.of (by decide) (Nat.le_of_ble_eq_true rfl) key
theorem wcX8_39 : tCB RX8 39 yX5_begin cX5_begin 2 (none) 0 ∧ Cond.methodLink RX8 39 yX5_begin ∈ tgd ∧ Cond.instanceMethod yX5_begin ∈ tgd ∧ Cond.selects RX5 yX5_begin yX5_begin ∈ tgd := ⟨⟨(tgd_t 777 (by decide +kernel) (by decide +kernel)), (tgd_t 3 (by decide +kernel) (by decide +kernel)), by decide, by decide +kernel⟩, (tgd_t 831 (by decide +kernel) (by decide +kernel)), (tgd_t 775 (by decide +kernel) (by decide +kernel)), (tgd_t 776 (by decide +kernel) (by decide +kernel))⟩
theorem wcX8_49 : tCB RX8 49 yX5_chosenBy cX5_chosenBy 7 (some (.object "EvenFlow$Part")) 1 ∧ Cond.methodLink RX8 49 yX5_chosenBy ∈ tgd ∧ Cond.instanceMethod yX5_chosenBy ∈ tgd ∧ Cond.selects RX5 yX5_chosenBy yX5_chosenBy ∈ tgd := ⟨⟨(tgd_t 835 (by decide +kernel) (by decide +kernel)), (tgd_t 3 (by decide +kernel) (by decide +kernel)), by decide, by decide +kernel⟩, (tgd_t 832 (by decide +kernel) (by decide +kernel)), (tgd_t 833 (by decide +kernel) (by decide +kernel)), (tgd_t 834 (by decide +kernel) (by decide +kernel))⟩
theorem wcX8_58 : tCB RX8 58 yX5_step cX5_step 5 (none) 1 ∧ Cond.methodLink RX8 58 yX5_step ∈ tgd ∧ Cond.instanceMethod yX5_step ∈ tgd ∧ Cond.selects RX5 yX5_step yX5_step ∈ tgd := ⟨⟨(tgd_t 790 (by decide +kernel) (by decide +kernel)), (tgd_t 3 (by decide +kernel) (by decide +kernel)), by decide, by decide +kernel⟩, (tgd_t 844 (by decide +kernel) (by decide +kernel)), (tgd_t 788 (by decide +kernel) (by decide +kernel)), (tgd_t 789 (by decide +kernel) (by decide +kernel))⟩
theorem wcX8_62 : tCB RX8 62 yX8_settle cX8_settle 2 (some .int) 1 ∧ Cond.methodLink RX8 62 yX8_settle ∈ tgd ∧ Cond.instanceMethod yX8_settle ∈ tgd ∧ Cond.selects RX8 yX8_settle yX8_settle ∈ tgd := ⟨⟨(tgd_t 848 (by decide +kernel) (by decide +kernel)), (tgd_t 4 (by decide +kernel) (by decide +kernel)), by decide, by decide +kernel⟩, (tgd_t 845 (by decide +kernel) (by decide +kernel)), (tgd_t 847 (by decide +kernel) (by decide +kernel)), (tgd_p 19 (by decide +kernel) (by decide +kernel))⟩
theorem wfX8_21 : Cond.fieldLink RX8 21 "EvenFlow$Plan" "graph" "LEvenFlow$Graph;" ∈ tgd := (tgd_t 146 (by decide +kernel) (by decide +kernel))
theorem wfX8_44 : Cond.fieldLink RX8 44 "EvenFlow$Graph" "inRound" "I" ∈ tgd := (tgd_t 64 (by decide +kernel) (by decide +kernel))
theorem wfX8_53 : Cond.fieldLink RX8 53 "EvenFlow$Part" "number" "I" ∈ tgd := (tgd_t 404 (by decide +kernel) (by decide +kernel))
abbrev iX8_goByRule : tY := (RX8, cX8_goByRule, 4, some .int, "goByRule")
abbrev rmX8_goByRule : Room := { frames := 4, cells := 0, slots := 0, locals := 93 }
def fX8_goByRule_l9 (z1 : Int32) : Nat → Int32 → tM → Option (tM)
  | 0, _, _ => none
  | n + 1, y2, M =>
    if (mI M 1 0 4) ≤ y2 then (
    some M
    ) else (
    if (nI (mN M 902 0)) ≤ y2 then (
    some M
    ) else (
    (fX5_chosenBy z1 M).bind fun r5 =>
    Option.bind (α := tM) (
    if r5 = none then (
    some M
    ) else (
    Option.bind r5 fun i8 =>
    chk (inb y2 (mN M 902 0)) <|
    bnd (sI M 902 0 (y2.toNatClampNeg) (mI M 7 i8 0)) fun M10 =>
    (fX5_step (some i8) M10).bind fun M12 =>
    some M12
    )
    ) fun M8 =>
    bnd (y2 + 1) fun x13 =>
    fX8_goByRule_l9 z1 n x13 M8
    )
    )
def fX8_goByRule (a1 : Int32) (M : tM) : Option (Int32 × tM) :=
  (fX5_begin M).bind fun M2 =>
  Option.bind (fX8_goByRule_l9 a1 FU 0 M2) fun M16 =>
  (fX8_settle (mI M16 1 0 4) M16).bind fun (x17, M19) =>
  some ((x17, M19))
set_option maxHeartbeats 4000000 in
set_option maxRecDepth 100000 in
theorem okX8_goByRule_l9 {g : tG} (z1 : Int32) {r : Option tV} {Mz : tM} : ∀ (n : Nat) (y2 : Int32) (M : tM) (w : tM), fX8_goByRule_l9 z1 n y2 M = some w → (∀ (Mw : tM), Mw = w → TW g iX8_goByRule rmX8_goByRule 0 0 r Mz 0 0 66 [(0, tr 8 0)] [] Mw) → TW g iX8_goByRule rmX8_goByRule 0 0 r Mz 0 0 9 [(0, tr 8 0), (1, ti z1), (2, ti y2)] [] M := by
  intro n
  induction n with
  | zero => intro y2 M w h; cases h
  | succ n ih =>
    intro y2 M w h J
    rw [fX8_goByRule_l9] at h
    refine tm_iload_n dX8_goByRule_9 rfl rfl ?_
    refine tm_aload_n dX8_goByRule_10 rfl rfl ?_
    refine tm_get kX8 rfl (j := 0) (by decide) wfX8_21 dX8_goByRule_11 (v := tr 1 0) rfl ?_
    refine tm_get kX1 rfl (j := 4) (by decide) wfX8_44 dX8_goByRule_14 (v := ti (mI M 1 0 4)) rfl ?_
    refine tm_icmp_ge (tgt := 66) dX8_goByRule_17 (by decide) (fun c3 => ?_) (fun c3 => ?_)
    · rw [if_pos c3] at h
      obtain rfl := Option.some.inj h
      refine tm_lcp [0] rfl ?_
      exact J _ rfl
    · rw [if_neg c3] at h
      refine tm_iload_n dX8_goByRule_20 rfl rfl ?_
      refine tm_aload_n dX8_goByRule_21 rfl rfl ?_
      refine tm_get kX8 rfl (j := 2) (by decide) wfX8_9 dX8_goByRule_22 (v := tr 902 0) rfl ?_
      refine tm_alen ⟨rfl, rfl⟩ dX8_goByRule_25 ?_
      refine tm_icmp_ge (tgt := 66) dX8_goByRule_26 (by decide) (fun c4 => ?_) (fun c4 => ?_)
      · rw [if_pos c4] at h
        obtain rfl := Option.some.inj h
        refine tm_lcp [0] rfl ?_
        exact J _ rfl
      · rw [if_neg c4] at h
        refine tm_aload_n dX8_goByRule_29 rfl rfl ?_
        refine tm_get kX8 rfl (j := 1) (by decide) wfX8_25 dX8_goByRule_30 (v := tr 5 0) rfl ?_
        refine tm_iload_n dX8_goByRule_33 rfl rfl ?_
        replace h := obind_some h
        obtain ⟨r5, hc6, h⟩ := h
        refine tm_callV kX5 rfl (avs := [ti z1]) (st := []) (okX5_chosenBy hc6) wcX8_49.1 wcX8_49.2.1 wcX8_49.2.2.1 wcX8_49.2.2.2 ⟨rfl, rfl, Nat.le_of_ble_eq_true rfl, Nat.le_of_ble_eq_true rfl⟩ rfl (Nat.le_of_ble_eq_true rfl) ⟨Nat.zero_le _, Nat.zero_le _⟩ dX8_goByRule_34 ?_
        refine tm_astore_n (lc' := [(3, tq 7 r5), (0, tr 8 0), (1, ti z1), (2, ti y2)]) dX8_goByRule_37 rfl (by decide) rfl ?_
        refine tm_aload_n dX8_goByRule_38 rfl rfl ?_
        replace h := obind_some h
        obtain ⟨M8, hE9, h⟩ := h
        have J10 : TW g iX8_goByRule rmX8_goByRule 0 0 r Mz 0 0 60 [(0, tr 8 0), (1, ti z1), (2, ti y2)] [] M8 := by
          replace h := bnd_some h
          obtain ⟨x13, ex13, h⟩ := h
          refine tm_iinc (v := x13) (lc' := [(2, ti x13), (0, tr 8 0), (1, ti z1)]) dX8_goByRule_60 rfl (by rw [ex13]; rfl) (by decide) rfl ?_
          refine tm_goto (tgt := 9) dX8_goByRule_63 (by decide) ?_
          refine tm_lcp [0, 1, 2] rfl ?_
          exact ih x13 M8 _ h J
        refine tm_ifnull (k2 := 7) (q := r5) (tgt := 60) dX8_goByRule_39 (by decide) (fun c7 => ?_) (fun c7 => ?_)
        · rw [if_pos c7] at hE9
          obtain rfl := Option.some.inj hE9
          refine tm_lcp [0, 1, 2] rfl ?_
          exact J10
        · rw [if_neg c7] at hE9
          refine tm_aload_n dX8_goByRule_42 rfl rfl ?_
          refine tm_get kX8 rfl (j := 2) (by decide) wfX8_9 dX8_goByRule_43 (v := tr 902 0) rfl ?_
          refine tm_iload_n dX8_goByRule_46 rfl rfl ?_
          refine tm_aload_n dX8_goByRule_47 rfl rfl ?_
          replace hE9 := obind_some hE9
          obtain ⟨i8, ei8, hE9⟩ := hE9
          subst ei8
          refine tm_get kX7 rfl (j := 0) (by decide) wfX8_53 dX8_goByRule_48 (v := ti (mI M 7 i8 0)) rfl ?_
          replace hE9 := chk_some hE9
          obtain ⟨b9, hE9⟩ := hE9
          replace hE9 := bnd_some hE9
          obtain ⟨M10, eM10, hE9⟩ := hE9
          refine tm_iast rfl dX8_goByRule_51 (inb_vp b9) ?_
          refine tm_nmM eM10 ?_
          refine tm_aload_n dX8_goByRule_52 rfl rfl ?_
          refine tm_get kX8 rfl (j := 1) (by decide) wfX8_25 dX8_goByRule_53 (v := tr 5 0) rfl ?_
          refine tm_aload_n dX8_goByRule_56 rfl rfl ?_
          replace hE9 := obind_some hE9
          obtain ⟨M12, hc11, hE9⟩ := hE9
          refine tm_callV kX5 rfl (avs := [tr 7 i8]) (st := []) (okX5_step hc11) wcX8_58.1 wcX8_58.2.1 wcX8_58.2.2.1 wcX8_58.2.2.2 ⟨rfl, rfl, Nat.le_of_ble_eq_true rfl, Nat.le_of_ble_eq_true rfl⟩ rfl (Nat.le_of_ble_eq_true rfl) ⟨Nat.zero_le _, Nat.zero_le _⟩ dX8_goByRule_57 ?_
          obtain rfl := Option.some.inj hE9
          refine tm_lcp [0, 1, 2] rfl ?_
          exact J10
set_option maxHeartbeats 4000000 in
set_option maxRecDepth 100000 in
theorem okX8_goByRule {g : tG} {a1 : Int32} {M : tM} {v : Int32} {Mz : tM} (h : fX8_goByRule a1 M = some ((v, Mz))) : TMet g yX8_goByRule (Cond.code yX8_goByRule cX8_goByRule 4 (some .int) :: tgd) rmX8_goByRule [tr 8 0, ti a1] M (some (ti v)) Mz 0 0 := by
  have key : TW g iX8_goByRule rmX8_goByRule 0 0 (some (ti v)) Mz 0 0 0 [(0, tr 8 0), (1, ti a1)] [] M := by
    rw [fX8_goByRule] at h
    refine tm_aload_n dX8_goByRule_0 rfl rfl ?_
    refine tm_get kX8 rfl (j := 1) (by decide) wfX8_25 dX8_goByRule_1 (v := tr 5 0) rfl ?_
    replace h := obind_some h
    obtain ⟨M2, hc1, h⟩ := h
    refine tm_callV kX5 rfl (avs := []) (st := []) (okX5_begin hc1) wcX8_39.1 wcX8_39.2.1 wcX8_39.2.2.1 wcX8_39.2.2.2 ⟨rfl, rfl, Nat.le_of_ble_eq_true rfl, Nat.le_of_ble_eq_true rfl⟩ rfl (Nat.le_of_ble_eq_true rfl) ⟨Nat.zero_le _, Nat.zero_le _⟩ dX8_goByRule_4 ?_
    refine tm_iconst (v := 0) dX8_goByRule_7 (by decide) ?_
    refine tm_istore_n (lc' := [(2, ti 0), (0, tr 8 0), (1, ti a1)]) dX8_goByRule_8 rfl (by decide) rfl ?_
    replace h := obind_some h
    obtain ⟨w14, hE15, h⟩ := h
    refine tm_lcp [0, 1, 2] rfl ?_
    refine okX8_goByRule_l9 a1 FU 0 M2 _ hE15 (fun M16 e => ?_)
    subst e
    refine tm_aload_n dX8_goByRule_66 rfl rfl ?_
    refine tm_aload_n dX8_goByRule_67 rfl rfl ?_
    refine tm_get kX8 rfl (j := 0) (by decide) wfX8_21 dX8_goByRule_68 (v := tr 1 0) rfl ?_
    refine tm_get kX1 rfl (j := 4) (by decide) wfX8_44 dX8_goByRule_71 (v := ti (mI M16 1 0 4)) rfl ?_
    replace h := obind_some h
    obtain ⟨⟨x17, M19⟩, hc18, h⟩ := h
    dsimp only at h
    refine tm_callV kX8 rfl (avs := [ti (mI M16 1 0 4)]) (st := []) (okX8_settle hc18) wcX8_62.1 wcX8_62.2.1 wcX8_62.2.2.1 wcX8_62.2.2.2 ⟨rfl, rfl, Nat.le_of_ble_eq_true rfl, Nat.le_of_ble_eq_true rfl⟩ rfl (Nat.le_of_ble_eq_true rfl) ⟨Nat.zero_le _, Nat.zero_le _⟩ dX8_goByRule_74 ?_
    obtain ⟨rfl, rfl⟩ := pj2 h
    exact tm_iret rfl dX8_goByRule_77
  exact TMet.of (by decide) (Nat.le_of_ble_eq_true rfl) key
theorem wcX8_66 : tCB RX8 66 yX1_partAt cX1_partAt 2 (some (.object "EvenFlow$Part")) 1 ∧ Cond.methodLink RX8 66 yX1_partAt ∈ tgd ∧ Cond.instanceMethod yX1_partAt ∈ tgd ∧ Cond.selects RX1 yX1_partAt yX1_partAt ∈ tgd := ⟨⟨(tgd_t 543 (by decide +kernel) (by decide +kernel)), (tgd_t 2 (by decide +kernel) (by decide +kernel)), by decide, by decide +kernel⟩, (tgd_t 893 (by decide +kernel) (by decide +kernel)), (tgd_t 541 (by decide +kernel) (by decide +kernel)), (tgd_t 542 (by decide +kernel) (by decide +kernel))⟩
theorem wcX8_69 : tCB RX8 69 yX5_canFire cX5_canFire 4 (some .boolean) 1 ∧ Cond.methodLink RX8 69 yX5_canFire ∈ tgd ∧ Cond.instanceMethod yX5_canFire ∈ tgd ∧ Cond.selects RX5 yX5_canFire yX5_canFire ∈ tgd := ⟨⟨(tgd_t 785 (by decide +kernel) (by decide +kernel)), (tgd_t 3 (by decide +kernel) (by decide +kernel)), by decide, by decide +kernel⟩, (tgd_t 1002 (by decide +kernel) (by decide +kernel)), (tgd_t 783 (by decide +kernel) (by decide +kernel)), (tgd_t 784 (by decide +kernel) (by decide +kernel))⟩
theorem wfX8_73 : Cond.fieldLink RX8 73 "EvenFlow$Marking" "leftInAll" "I" ∈ tgd := (tgd_t 116 (by decide +kernel) (by decide +kernel))
abbrev iX8_faultOf : tY := (RX8, cX8_faultOf, 5, some .int, "faultOf")
abbrev rmX8_faultOf : Room := { frames := 2, cells := 0, slots := 0, locals := 45 }
def fX8_faultOf_l9 (kz1 : Nat) (z1 : Nat) (z2 : Int32) : Nat → Int32 → tM → Option ((Int32 × tM) ⊕ (tM))
  | 0, _, _ => none
  | n + 1, y3, M =>
    if z2 ≤ y3 then (
    some (Sum.inr M)
    ) else (
    chk (decide (tO kz1 = none)) <|
    chk (!tRO kz1) <|
    if (nI (mN M kz1 z1)) ≤ y3 then (
    some (Sum.inr M)
    ) else (
    chk (tIsI kz1) <|
    chk (inb y3 (mN M kz1 z1)) <|
    (fX1_partAt (mI M kz1 z1 (y3.toNatClampNeg)) M).bind fun r9 =>
    if r9 = none then (
    some (Sum.inl ((y3, M)))
    ) else (
    (fX5_canFire r9 M).bind fun x12 =>
    if x12 = 0 then (
    some (Sum.inl ((y3, M)))
    ) else (
    (fX5_step r9 M).bind fun M16 =>
    bnd (y3 + 1) fun x17 =>
    fX8_faultOf_l9 kz1 z1 z2 n x17 M16
    )
    )
    )
    )
def fX8_faultOf (k1 : Nat) (a1 : Nat) (a2 : Int32) (M : tM) : Option (Int32 × tM) :=
  (fX5_begin M).bind fun M2 =>
  Option.bind (fX8_faultOf_l9 k1 a1 a2 FU 0 M2) fun w18 => match w18 with
  | Sum.inl q22 => some q22
  | Sum.inr M20 =>
    if (mI M20 5 0 6) ≤ 0 then (
    some (((-1), M20))
    ) else (
    some ((a2, M20))
    )
set_option maxHeartbeats 4000000 in
set_option maxRecDepth 100000 in
theorem okX8_faultOf_l9 {g : tG} (kz1 : Nat) (z1 : Nat) (z2 : Int32) {r : Option tV} {Mz : tM} : ∀ (n : Nat) (y3 : Int32) (M : tM) (w : (Int32 × tM) ⊕ (tM)), fX8_faultOf_l9 kz1 z1 z2 n y3 M = some w → (∀ (Mw : tM), Sum.inr Mw = w → TW g iX8_faultOf rmX8_faultOf 0 0 r Mz 0 0 66 [(0, tr 8 0), (2, ti z2)] [] Mw) → (∀ (v : Int32) (Mv : tM), Sum.inl ((v, Mv)) = w → r = (some (ti v)) ∧ Mz = Mv) → TW g iX8_faultOf rmX8_faultOf 0 0 r Mz 0 0 9 [(0, tr 8 0), (1, tr kz1 z1), (2, ti z2), (3, ti y3)] [] M := by
  intro n
  induction n with
  | zero => intro y3 M w h; cases h
  | succ n ih =>
    intro y3 M w h J JR
    rw [fX8_faultOf_l9] at h
    refine tm_iload_n dX8_faultOf_9 rfl rfl ?_
    refine tm_iload_n dX8_faultOf_10 rfl rfl ?_
    refine tm_icmp_ge (tgt := 66) dX8_faultOf_11 (by decide) (fun c3 => ?_) (fun c3 => ?_)
    · rw [if_pos c3] at h
      obtain rfl := Option.some.inj h
      refine tm_lcp [0, 2] rfl ?_
      exact J _ rfl
    · rw [if_neg c3] at h
      refine tm_iload_n dX8_faultOf_14 rfl rfl ?_
      refine tm_aload_n dX8_faultOf_15 rfl rfl ?_
      replace h := chk_some h
      obtain ⟨b4, h⟩ := h
      replace h := chk_some h
      obtain ⟨b5, h⟩ := h
      refine tm_alen ⟨(of_decide_eq_true b4), (by simpa using b5)⟩ dX8_faultOf_16 ?_
      refine tm_icmp_ge (tgt := 66) dX8_faultOf_17 (by decide) (fun c6 => ?_) (fun c6 => ?_)
      · rw [if_pos c6] at h
        obtain rfl := Option.some.inj h
        refine tm_lcp [0, 2] rfl ?_
        exact J _ rfl
      · rw [if_neg c6] at h
        refine tm_aload_n dX8_faultOf_20 rfl rfl ?_
        refine tm_get kX8 rfl (j := 0) (by decide) wfX8_21 dX8_faultOf_21 (v := tr 1 0) rfl ?_
        refine tm_aload_n dX8_faultOf_24 rfl rfl ?_
        refine tm_iload_n dX8_faultOf_25 rfl rfl ?_
        replace h := chk_some h
        obtain ⟨b7, h⟩ := h
        replace h := chk_some h
        obtain ⟨b8, h⟩ := h
        refine tm_iald b7 dX8_faultOf_26 (inb_vp b8) ?_
        replace h := obind_some h
        obtain ⟨r9, hc10, h⟩ := h
        refine tm_callV kX1 rfl (avs := [ti (mI M kz1 z1 (y3.toNatClampNeg))]) (st := []) (okX1_partAt hc10) wcX8_66.1 wcX8_66.2.1 wcX8_66.2.2.1 wcX8_66.2.2.2 ⟨rfl, rfl, Nat.le_of_ble_eq_true rfl, Nat.le_of_ble_eq_true rfl⟩ rfl (Nat.le_of_ble_eq_true rfl) ⟨Nat.zero_le _, Nat.zero_le _⟩ dX8_faultOf_27 ?_
        refine tm_astore (lc' := [(4, tq 7 r9), (0, tr 8 0), (1, tr kz1 z1), (2, ti z2), (3, ti y3)]) dX8_faultOf_30 (by decide) rfl ?_
        refine tm_aload dX8_faultOf_32 rfl ?_
        refine tm_ifnull (k2 := 7) (q := r9) (tgt := 49) dX8_faultOf_34 (by decide) (fun c11 => ?_) (fun c11 => ?_)
        · rw [if_pos c11] at h
          refine tm_iload_n dX8_faultOf_49 rfl rfl ?_
          obtain rfl := Option.some.inj h
          obtain ⟨rfl, rfl⟩ := JR _ _ rfl
          exact tm_iret rfl dX8_faultOf_50
        · rw [if_neg c11] at h
          refine tm_aload_n dX8_faultOf_37 rfl rfl ?_
          refine tm_get kX8 rfl (j := 1) (by decide) wfX8_25 dX8_faultOf_38 (v := tr 5 0) rfl ?_
          refine tm_aload dX8_faultOf_41 rfl ?_
          replace h := obind_some h
          obtain ⟨x12, hc13, h⟩ := h
          refine tm_callV kX5 rfl (avs := [tq 7 r9]) (st := []) (okX5_canFire hc13) wcX8_69.1 wcX8_69.2.1 wcX8_69.2.2.1 wcX8_69.2.2.2 ⟨rfl, rfl, Nat.le_of_ble_eq_true rfl, Nat.le_of_ble_eq_true rfl⟩ rfl (Nat.le_of_ble_eq_true rfl) ⟨Nat.zero_le _, Nat.zero_le _⟩ dX8_faultOf_43 ?_
          refine tm_if_ne (tgt := 51) dX8_faultOf_46 (by decide) (fun c14 => ?_) (fun c14 => ?_)
          · rw [if_neg c14] at h
            refine tm_aload_n dX8_faultOf_51 rfl rfl ?_
            refine tm_get kX8 rfl (j := 1) (by decide) wfX8_25 dX8_faultOf_52 (v := tr 5 0) rfl ?_
            refine tm_aload dX8_faultOf_55 rfl ?_
            replace h := obind_some h
            obtain ⟨M16, hc15, h⟩ := h
            refine tm_callV kX5 rfl (avs := [tq 7 r9]) (st := []) (okX5_step hc15) wcX8_58.1 wcX8_58.2.1 wcX8_58.2.2.1 wcX8_58.2.2.2 ⟨rfl, rfl, Nat.le_of_ble_eq_true rfl, Nat.le_of_ble_eq_true rfl⟩ rfl (Nat.le_of_ble_eq_true rfl) ⟨Nat.zero_le _, Nat.zero_le _⟩ dX8_faultOf_57 ?_
            replace h := bnd_some h
            obtain ⟨x17, ex17, h⟩ := h
            refine tm_iinc (v := x17) (lc' := [(3, ti x17), (4, tq 7 r9), (0, tr 8 0), (1, tr kz1 z1), (2, ti z2)]) dX8_faultOf_60 rfl (by rw [ex17]; rfl) (by decide) rfl ?_
            refine tm_goto (tgt := 9) dX8_faultOf_63 (by decide) ?_
            refine tm_lcp [0, 1, 2, 3] rfl ?_
            exact ih x17 M16 _ h J JR
          · rw [if_pos c14] at h
            refine tm_iload_n dX8_faultOf_49 rfl rfl ?_
            obtain rfl := Option.some.inj h
            obtain ⟨rfl, rfl⟩ := JR _ _ rfl
            exact tm_iret rfl dX8_faultOf_50
set_option maxHeartbeats 4000000 in
set_option maxRecDepth 100000 in
theorem okX8_faultOf {g : tG} {k1 : Nat} {a1 : Nat} {a2 : Int32} {M : tM} {v : Int32} {Mz : tM} (h : fX8_faultOf k1 a1 a2 M = some ((v, Mz))) : TMet g yX8_faultOf (Cond.code yX8_faultOf cX8_faultOf 5 (some .int) :: tgd) rmX8_faultOf [tr 8 0, tr k1 a1, ti a2] M (some (ti v)) Mz 0 0 := by
  have key : TW g iX8_faultOf rmX8_faultOf 0 0 (some (ti v)) Mz 0 0 0 [(0, tr 8 0), (1, tr k1 a1), (2, ti a2)] [] M := by
    rw [fX8_faultOf] at h
    refine tm_aload_n dX8_faultOf_0 rfl rfl ?_
    refine tm_get kX8 rfl (j := 1) (by decide) wfX8_25 dX8_faultOf_1 (v := tr 5 0) rfl ?_
    replace h := obind_some h
    obtain ⟨M2, hc1, h⟩ := h
    refine tm_callV kX5 rfl (avs := []) (st := []) (okX5_begin hc1) wcX8_39.1 wcX8_39.2.1 wcX8_39.2.2.1 wcX8_39.2.2.2 ⟨rfl, rfl, Nat.le_of_ble_eq_true rfl, Nat.le_of_ble_eq_true rfl⟩ rfl (Nat.le_of_ble_eq_true rfl) ⟨Nat.zero_le _, Nat.zero_le _⟩ dX8_faultOf_4 ?_
    refine tm_iconst (v := 0) dX8_faultOf_7 (by decide) ?_
    refine tm_istore_n (lc' := [(3, ti 0), (0, tr 8 0), (1, tr k1 a1), (2, ti a2)]) dX8_faultOf_8 rfl (by decide) rfl ?_
    replace h := obind_some h
    obtain ⟨w18, hE19, h⟩ := h
    refine tm_lcp [0, 1, 2, 3] rfl ?_
    refine okX8_faultOf_l9 k1 a1 a2 FU 0 M2 _ hE19 (fun M20 e => ?_) (fun v23 Mv24 e => ?_)
    · subst e
      dsimp only at h
      refine tm_aload_n dX8_faultOf_66 rfl rfl ?_
      refine tm_get kX8 rfl (j := 1) (by decide) wfX8_25 dX8_faultOf_67 (v := tr 5 0) rfl ?_
      refine tm_get kX5 rfl (j := 6) (by decide) wfX8_73 dX8_faultOf_70 (v := ti (mI M20 5 0 6)) rfl ?_
      refine tm_if_le (tgt := 80) dX8_faultOf_73 (by decide) (fun c21 => ?_) (fun c21 => ?_)
      · rw [if_pos c21] at h
        refine tm_iconst (v := (-1)) dX8_faultOf_80 (by decide) ?_
        obtain ⟨rfl, rfl⟩ := pj2 h
        exact tm_iret rfl dX8_faultOf_81
      · rw [if_neg c21] at h
        refine tm_iload_n dX8_faultOf_76 rfl rfl ?_
        refine tm_goto (tgt := 81) dX8_faultOf_77 (by decide) ?_
        obtain ⟨rfl, rfl⟩ := pj2 h
        exact tm_iret rfl dX8_faultOf_81
    · subst e
      obtain ⟨rfl, rfl⟩ := pj2 h
      exact ⟨rfl, rfl⟩
  exact TMet.of (by decide) (Nat.le_of_ble_eq_true rfl) key
