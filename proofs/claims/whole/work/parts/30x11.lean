theorem wcX9_67 : tCB RX9 67 yX9_isReady cX9_isReady 3 (some .boolean) 1 ∧ Cond.methodLink RX9 67 yX9_isReady ∈ tgd ∧ Cond.instanceMethod yX9_isReady ∈ tgd ∧ Cond.selects RX9 yX9_isReady yX9_isReady ∈ tgd := ⟨⟨(tgd_t 1067 (by decide +kernel) (by decide +kernel)), (tgd_t 9 (by decide +kernel) (by decide +kernel)), by decide, by decide +kernel⟩, (tgd_t 1077 (by decide +kernel) (by decide +kernel)), (tgd_t 1065 (by decide +kernel) (by decide +kernel)), (tgd_t 1066 (by decide +kernel) (by decide +kernel))⟩
theorem wcX9_71 : tCB RX9 71 yX9_wouldOverflow cX9_wouldOverflow 4 (some .boolean) 1 ∧ Cond.methodLink RX9 71 yX9_wouldOverflow ∈ tgd ∧ Cond.instanceMethod yX9_wouldOverflow ∈ tgd ∧ Cond.selects RX9 yX9_wouldOverflow yX9_wouldOverflow ∈ tgd := ⟨⟨(tgd_t 1081 (by decide +kernel) (by decide +kernel)), (tgd_t 9 (by decide +kernel) (by decide +kernel)), by decide, by decide +kernel⟩, (tgd_t 1078 (by decide +kernel) (by decide +kernel)), (tgd_t 1080 (by decide +kernel) (by decide +kernel)), (tgd_p 42 (by decide +kernel) (by decide +kernel))⟩
theorem wcX9_77 : tCB RX9 77 yX9_sumTaken cX9_sumTaken 7 (some .long) 1 ∧ Cond.methodLink RX9 77 yX9_sumTaken ∈ tgd ∧ Cond.instanceMethod yX9_sumTaken ∈ tgd ∧ Cond.selects RX9 yX9_sumTaken yX9_sumTaken ∈ tgd := ⟨⟨(tgd_t 1086 (by decide +kernel) (by decide +kernel)), (tgd_t 9 (by decide +kernel) (by decide +kernel)), by decide, by decide +kernel⟩, (tgd_t 1083 (by decide +kernel) (by decide +kernel)), (tgd_t 1085 (by decide +kernel) (by decide +kernel)), (tgd_p 43 (by decide +kernel) (by decide +kernel))⟩
theorem wcX9_85 : tCB RX9 85 yX9_workOf cX9_workOf 2 (some .long) 1 ∧ Cond.methodLink RX9 85 yX9_workOf ∈ tgd ∧ Cond.instanceMethod yX9_workOf ∈ tgd ∧ Cond.selects RX9 yX9_workOf yX9_workOf ∈ tgd := ⟨⟨(tgd_t 1094 (by decide +kernel) (by decide +kernel)), (tgd_t 9 (by decide +kernel) (by decide +kernel)), by decide, by decide +kernel⟩, (tgd_t 1091 (by decide +kernel) (by decide +kernel)), (tgd_t 1093 (by decide +kernel) (by decide +kernel)), (tgd_p 44 (by decide +kernel) (by decide +kernel))⟩
theorem wcX9_88 : tCB RX9 88 yX9_move cX9_move 7 (none) 2 ∧ Cond.methodLink RX9 88 yX9_move ∈ tgd ∧ Cond.instanceMethod yX9_move ∈ tgd ∧ Cond.selects RX9 yX9_move yX9_move ∈ tgd := ⟨⟨(tgd_t 1127 (by decide +kernel) (by decide +kernel)), (tgd_t 9 (by decide +kernel) (by decide +kernel)), by decide, by decide +kernel⟩, (tgd_t 1124 (by decide +kernel) (by decide +kernel)), (tgd_t 1126 (by decide +kernel) (by decide +kernel)), (tgd_p 52 (by decide +kernel) (by decide +kernel))⟩
theorem wfX9_92 : Cond.fieldLink RX9 92 "EvenFlow$Works" "latestGave" "J" ∈ tgd := (tgd_t 321 (by decide +kernel) (by decide +kernel))
abbrev iX9_attempt : tY := (RX9, cX9_attempt, 4, some .int, "attempt")
abbrev rmX9_attempt : Room := { frames := 5, cells := 0, slots := 0, locals := 109 }
def fX9_attempt (a1 : Option Nat) (M : tM) : Option (Int32 × tM) :=
  if (mI M 9 0 1) < 5000 then (
  (fX9_isReady a1 M).bind fun x2 =>
  if x2 = 0 then (
  some ((0, M))
  ) else (
  (fX9_wouldOverflow a1 M).bind fun x5 =>
  if x5 = 0 then (
  bnd (sI M 9 0 6 0) fun M8 =>
  bnd (sI M8 9 0 3 0) fun M9 =>
  (fX9_sumTaken a1 M9).bind fun x10 =>
  bnd (sL M9 9 0 4 x10) fun M12 =>
  (fX9_workOf a1 M12).bind fun (x13, M15) =>
  if (mI M15 9 0 3) = 0 then (
  (fX9_move a1 x13 M15).bind fun M18 =>
  bnd (sI M18 9 0 1 ((mI M18 9 0 1) + 1)) fun M19 =>
  bnd (sL M19 9 0 2 x13) fun M20 =>
  some ((1, M20))
  ) else (
  some (((-3), M15))
  )
  ) else (
  some (((-4), M))
  )
  )
  ) else (
  some (((-4), M))
  )
set_option maxHeartbeats 4000000 in
set_option maxRecDepth 100000 in
theorem okX9_attempt {g : tG} {a1 : Option Nat} {M : tM} {v : Int32} {Mz : tM} (h : fX9_attempt a1 M = some ((v, Mz))) : TMet g yX9_attempt (Cond.code yX9_attempt cX9_attempt 4 (some .int) :: tgd) rmX9_attempt [tr 9 0, tq 7 a1] M (some (ti v)) Mz 0 0 := by
  have key : TW g iX9_attempt rmX9_attempt 0 0 (some (ti v)) Mz 0 0 0 [(0, tr 9 0), (1, tq 7 a1)] [] M := by
    rw [fX9_attempt] at h
    refine tm_aload_n dX9_attempt_0 rfl rfl ?_
    refine tm_get kX9 rfl (j := 1) (by decide) wfX9_19 dX9_attempt_1 (v := ti (mI M 9 0 1)) rfl ?_
    refine tm_sipush (v := 5000) dX9_attempt_4 (by decide) ?_
    refine tm_icmp_lt (tgt := 13) dX9_attempt_7 (by decide) (fun c1 => ?_) (fun c1 => ?_)
    · rw [if_pos c1] at h
      refine tm_aload_n dX9_attempt_13 rfl rfl ?_
      refine tm_aload_n dX9_attempt_14 rfl rfl ?_
      replace h := obind_some h
      obtain ⟨x2, hc3, h⟩ := h
      refine tm_callV kX9 rfl (avs := [tq 7 a1]) (st := []) (okX9_isReady hc3) wcX9_67.1 wcX9_67.2.1 wcX9_67.2.2.1 wcX9_67.2.2.2 ⟨rfl, rfl, Nat.le_of_ble_eq_true rfl, Nat.le_of_ble_eq_true rfl⟩ rfl (Nat.le_of_ble_eq_true rfl) ⟨Nat.zero_le _, Nat.zero_le _⟩ dX9_attempt_15 ?_
      refine tm_if_ne (tgt := 23) dX9_attempt_18 (by decide) (fun c4 => ?_) (fun c4 => ?_)
      · rw [if_neg c4] at h
        refine tm_aload_n dX9_attempt_23 rfl rfl ?_
        refine tm_aload_n dX9_attempt_24 rfl rfl ?_
        replace h := obind_some h
        obtain ⟨x5, hc6, h⟩ := h
        refine tm_callV kX9 rfl (avs := [tq 7 a1]) (st := []) (okX9_wouldOverflow hc6) wcX9_71.1 wcX9_71.2.1 wcX9_71.2.2.1 wcX9_71.2.2.2 ⟨rfl, rfl, Nat.le_of_ble_eq_true rfl, Nat.le_of_ble_eq_true rfl⟩ rfl (Nat.le_of_ble_eq_true rfl) ⟨Nat.zero_le _, Nat.zero_le _⟩ dX9_attempt_25 ?_
        refine tm_if_eq (tgt := 34) dX9_attempt_28 (by decide) (fun c7 => ?_) (fun c7 => ?_)
        · rw [if_pos c7] at h
          refine tm_aload_n dX9_attempt_34 rfl rfl ?_
          refine tm_iconst (v := 0) dX9_attempt_35 (by decide) ?_
          replace h := bnd_some h
          obtain ⟨M8, eM8, h⟩ := h
          refine tm_put kX9 rfl (j := 6) (by decide) wfX9_47 rfl dX9_attempt_36 (fun _ => ⟨rfl, rfl⟩) (tPut_I 0 rfl) ?_
          refine tm_nmM eM8 ?_
          refine tm_aload_n dX9_attempt_39 rfl rfl ?_
          refine tm_iconst (v := 0) dX9_attempt_40 (by decide) ?_
          replace h := bnd_some h
          obtain ⟨M9, eM9, h⟩ := h
          refine tm_put kX9 rfl (j := 3) (by decide) wfX9_74 rfl dX9_attempt_41 (fun _ => ⟨rfl, rfl⟩) (tPut_I 0 rfl) ?_
          refine tm_nmM eM9 ?_
          refine tm_aload_n dX9_attempt_44 rfl rfl ?_
          refine tm_aload_n dX9_attempt_45 rfl rfl ?_
          refine tm_aload_n dX9_attempt_46 rfl rfl ?_
          replace h := obind_some h
          obtain ⟨x10, hc11, h⟩ := h
          refine tm_callV kX9 rfl (avs := [tq 7 a1]) (st := [tr 9 0]) (okX9_sumTaken hc11) wcX9_77.1 wcX9_77.2.1 wcX9_77.2.2.1 wcX9_77.2.2.2 ⟨rfl, rfl, Nat.le_of_ble_eq_true rfl, Nat.le_of_ble_eq_true rfl⟩ rfl (Nat.le_of_ble_eq_true rfl) ⟨Nat.zero_le _, Nat.zero_le _⟩ dX9_attempt_47 ?_
          replace h := bnd_some h
          obtain ⟨M12, eM12, h⟩ := h
          refine tm_put kX9 rfl (j := 4) (by decide) wfX9_81 rfl dX9_attempt_50 (fun _ => ⟨rfl, rfl⟩) (tPut_L x10 rfl) ?_
          refine tm_nmM eM12 ?_
          refine tm_aload_n dX9_attempt_53 rfl rfl ?_
          refine tm_aload_n dX9_attempt_54 rfl rfl ?_
          replace h := obind_some h
          obtain ⟨⟨x13, M15⟩, hc14, h⟩ := h
          dsimp only at h
          refine tm_callV kX9 rfl (avs := [tq 7 a1]) (st := []) (okX9_workOf hc14) wcX9_85.1 wcX9_85.2.1 wcX9_85.2.2.1 wcX9_85.2.2.2 ⟨rfl, rfl, Nat.le_of_ble_eq_true rfl, Nat.le_of_ble_eq_true rfl⟩ rfl (Nat.le_of_ble_eq_true rfl) ⟨Nat.zero_le _, Nat.zero_le _⟩ dX9_attempt_55 ?_
          refine tm_lstore_n (lc' := [(2, tl x13), (0, tr 9 0), (1, tq 7 a1)]) dX9_attempt_58 rfl (by decide) rfl ?_
          refine tm_aload_n dX9_attempt_59 rfl rfl ?_
          refine tm_get kX9 rfl (j := 3) (by decide) wfX9_74 dX9_attempt_60 (v := ti (mI M15 9 0 3)) rfl ?_
          refine tm_if_eq (tgt := 69) dX9_attempt_63 (by decide) (fun c16 => ?_) (fun c16 => ?_)
          · rw [if_pos c16] at h
            refine tm_aload_n dX9_attempt_69 rfl rfl ?_
            refine tm_aload_n dX9_attempt_70 rfl rfl ?_
            refine tm_lload_n dX9_attempt_71 rfl rfl ?_
            replace h := obind_some h
            obtain ⟨M18, hc17, h⟩ := h
            refine tm_callV kX9 rfl (avs := [tq 7 a1, tl x13]) (st := []) (okX9_move hc17) wcX9_88.1 wcX9_88.2.1 wcX9_88.2.2.1 wcX9_88.2.2.2 ⟨rfl, rfl, Nat.le_of_ble_eq_true rfl, Nat.le_of_ble_eq_true rfl⟩ rfl (Nat.le_of_ble_eq_true rfl) ⟨Nat.zero_le _, Nat.zero_le _⟩ dX9_attempt_72 ?_
            refine tm_aload_n dX9_attempt_75 rfl rfl ?_
            refine tm_dup dX9_attempt_76 rfl ?_
            refine tm_get kX9 rfl (j := 1) (by decide) wfX9_19 dX9_attempt_77 (v := ti (mI M18 9 0 1)) rfl ?_
            refine tm_iconst (v := 1) dX9_attempt_80 (by decide) ?_
            refine tm_iadd dX9_attempt_81 ?_
            replace h := bnd_some h
            obtain ⟨M19, eM19, h⟩ := h
            refine tm_put kX9 rfl (j := 1) (by decide) wfX9_19 rfl dX9_attempt_82 (fun _ => ⟨rfl, rfl⟩) (tPut_I ((mI M18 9 0 1) + 1) rfl) ?_
            refine tm_nmM eM19 ?_
            refine tm_aload_n dX9_attempt_85 rfl rfl ?_
            refine tm_lload_n dX9_attempt_86 rfl rfl ?_
            replace h := bnd_some h
            obtain ⟨M20, eM20, h⟩ := h
            refine tm_put kX9 rfl (j := 2) (by decide) wfX9_92 rfl dX9_attempt_87 (fun _ => ⟨rfl, rfl⟩) (tPut_L x13 rfl) ?_
            refine tm_nmM eM20 ?_
            refine tm_iconst (v := 1) dX9_attempt_90 (by decide) ?_
            obtain ⟨rfl, rfl⟩ := pj2 h
            exact tm_iret rfl dX9_attempt_91
          · rw [if_neg c16] at h
            refine tm_bipush (v := (-3)) dX9_attempt_66 (by decide) ?_
            obtain ⟨rfl, rfl⟩ := pj2 h
            exact tm_iret rfl dX9_attempt_68
        · rw [if_neg c7] at h
          refine tm_bipush (v := (-4)) dX9_attempt_31 (by decide) ?_
          obtain ⟨rfl, rfl⟩ := pj2 h
          exact tm_iret rfl dX9_attempt_33
      · rw [if_pos c4] at h
        refine tm_iconst (v := 0) dX9_attempt_21 (by decide) ?_
        obtain ⟨rfl, rfl⟩ := pj2 h
        exact tm_iret rfl dX9_attempt_22
    · rw [if_neg c1] at h
      refine tm_bipush (v := (-4)) dX9_attempt_10 (by decide) ?_
      obtain ⟨rfl, rfl⟩ := pj2 h
      exact tm_iret rfl dX9_attempt_12
  exact TMet.of (by decide) (Nat.le_of_ble_eq_true rfl) key
theorem wfX10_69 : Cond.fieldLink RX10 69 "EvenFlow" "answered" "[I" ∈ tgd := (tgd_t 353 (by decide +kernel) (by decide +kernel))
theorem wfX10_305 : Cond.fieldLink RX10 305 "EvenFlow" "latestFinding" "I" ∈ tgd := (tgd_t 352 (by decide +kernel) (by decide +kernel))
abbrev iX10_meets : tY := (RX10, cX10_meets, 2, some .int, "meets")
abbrev rmX10_meets : Room := { frames := 0, cells := 0, slots := 0, locals := 0 }
def fX10_meets (a1 : Int32) (M : tM) : Option (Int32 × tM) :=
  bnd (sI M 10 0 9 a1) fun M1 =>
  chk (inb a1 (mN M1 1110 0)) <|
  chk (inb a1 (mN M1 1110 0)) <|
  bnd (sI M1 1110 0 (a1.toNatClampNeg) ((mI M1 1110 0 (a1.toNatClampNeg)) + 1)) fun M4 =>
  some (((-3), M4))
set_option maxHeartbeats 4000000 in
set_option maxRecDepth 100000 in
theorem okX10_meets {g : tG} {a1 : Int32} {M : tM} {v : Int32} {Mz : tM} (h : fX10_meets a1 M = some ((v, Mz))) : TMet g yX10_meets (Cond.code yX10_meets cX10_meets 2 (some .int) :: tgd) rmX10_meets [tr 10 0, ti a1] M (some (ti v)) Mz 0 0 := by
  have key : TW g iX10_meets rmX10_meets 0 0 (some (ti v)) Mz 0 0 0 [(0, tr 10 0), (1, ti a1)] [] M := by
    rw [fX10_meets] at h
    refine tm_aload_n dX10_meets_0 rfl rfl ?_
    refine tm_iload_n dX10_meets_1 rfl rfl ?_
    replace h := bnd_some h
    obtain ⟨M1, eM1, h⟩ := h
    refine tm_put kX10 rfl (j := 9) (by decide) wfX10_305 rfl dX10_meets_2 (fun _ => ⟨rfl, rfl⟩) (tPut_I a1 rfl) ?_
    refine tm_nmM eM1 ?_
    refine tm_aload_n dX10_meets_5 rfl rfl ?_
    refine tm_get kX10 rfl (j := 10) (by decide) wfX10_69 dX10_meets_6 (v := tr 1110 0) rfl ?_
    refine tm_iload_n dX10_meets_9 rfl rfl ?_
    refine tm_dup2 dX10_meets_10 rfl rfl ?_
    replace h := chk_some h
    obtain ⟨b2, h⟩ := h
    refine tm_iald rfl dX10_meets_11 (inb_vp b2) ?_
    refine tm_iconst (v := 1) dX10_meets_12 (by decide) ?_
    refine tm_iadd dX10_meets_13 ?_
    replace h := chk_some h
    obtain ⟨b3, h⟩ := h
    replace h := bnd_some h
    obtain ⟨M4, eM4, h⟩ := h
    refine tm_iast rfl dX10_meets_14 (inb_vp b3) ?_
    refine tm_nmM eM4 ?_
    refine tm_bipush (v := (-3)) dX10_meets_15 (by decide) ?_
    obtain ⟨rfl, rfl⟩ := pj2 h
    exact tm_iret rfl dX10_meets_17
  exact TMet.of (by decide) (Nat.le_of_ble_eq_true rfl) key
theorem wcX10_274 : tCB RX10 274 yX8_beginThreads cX8_beginThreads 1 (none) 0 ∧ Cond.methodLink RX10 274 yX8_beginThreads ∈ tgd ∧ Cond.instanceMethod yX8_beginThreads ∈ tgd ∧ Cond.selects RX8 yX8_beginThreads yX8_beginThreads ∈ tgd := ⟨⟨(tgd_t 532 (by decide +kernel) (by decide +kernel)), (tgd_t 4 (by decide +kernel) (by decide +kernel)), by decide, by decide +kernel⟩, (tgd_t 529 (by decide +kernel) (by decide +kernel)), (tgd_t 530 (by decide +kernel) (by decide +kernel)), (tgd_t 531 (by decide +kernel) (by decide +kernel))⟩
theorem wcX10_336 : tCB RX10 336 yX9_toFirst cX9_toFirst 2 (none) 0 ∧ Cond.methodLink RX10 336 yX9_toFirst ∈ tgd ∧ Cond.instanceMethod yX9_toFirst ∈ tgd ∧ Cond.selects RX9 yX9_toFirst yX9_toFirst ∈ tgd := ⟨⟨(tgd_t 513 (by decide +kernel) (by decide +kernel)), (tgd_t 9 (by decide +kernel) (by decide +kernel)), by decide, by decide +kernel⟩, (tgd_t 510 (by decide +kernel) (by decide +kernel)), (tgd_t 511 (by decide +kernel) (by decide +kernel)), (tgd_t 512 (by decide +kernel) (by decide +kernel))⟩
theorem wfX10_26 : Cond.fieldLink RX10 26 "EvenFlow" "plan" "LEvenFlow$Plan;" ∈ tgd := (tgd_t 344 (by decide +kernel) (by decide +kernel))
theorem wfX10_61 : Cond.fieldLink RX10 61 "EvenFlow" "works" "LEvenFlow$Works;" ∈ tgd := (tgd_t 349 (by decide +kernel) (by decide +kernel))
abbrev iX10_toFirstMarking : tY := (RX10, cX10_toFirstMarking, 1, none, "toFirstMarking")
abbrev rmX10_toFirstMarking : Room := { frames := 3, cells := 0, slots := 0, locals := 67 }
def fX10_toFirstMarking  (M : tM) : Option (tM) :=
  (fX9_toFirst M).bind fun M2 =>
  (fX8_beginThreads M2).bind fun M4 =>
  some M4
set_option maxHeartbeats 4000000 in
set_option maxRecDepth 100000 in
theorem okX10_toFirstMarking {g : tG}  {M : tM} {Mz : tM} (h : fX10_toFirstMarking  M = some Mz) : TMet g yX10_toFirstMarking (Cond.code yX10_toFirstMarking cX10_toFirstMarking 1 (none) :: tgd) rmX10_toFirstMarking [tr 10 0] M none Mz 0 0 := by
  have key : TW g iX10_toFirstMarking rmX10_toFirstMarking 0 0 none Mz 0 0 0 [(0, tr 10 0)] [] M := by
    rw [fX10_toFirstMarking] at h
    refine tm_aload_n dX10_toFirstMarking_0 rfl rfl ?_
    refine tm_get kX10 rfl (j := 6) (by decide) wfX10_61 dX10_toFirstMarking_1 (v := tr 9 0) rfl ?_
    replace h := obind_some h
    obtain ⟨M2, hc1, h⟩ := h
    refine tm_callV kX9 rfl (avs := []) (st := []) (okX9_toFirst hc1) wcX10_336.1 wcX10_336.2.1 wcX10_336.2.2.1 wcX10_336.2.2.2 ⟨rfl, rfl, Nat.le_of_ble_eq_true rfl, Nat.le_of_ble_eq_true rfl⟩ rfl (Nat.le_of_ble_eq_true rfl) ⟨Nat.zero_le _, Nat.zero_le _⟩ dX10_toFirstMarking_4 ?_
    refine tm_aload_n dX10_toFirstMarking_7 rfl rfl ?_
    refine tm_get kX10 rfl (j := 1) (by decide) wfX10_26 dX10_toFirstMarking_8 (v := tr 8 0) rfl ?_
    replace h := obind_some h
    obtain ⟨M4, hc3, h⟩ := h
    refine tm_callV kX8 rfl (avs := []) (st := []) (okX8_beginThreads hc3) wcX10_274.1 wcX10_274.2.1 wcX10_274.2.2.1 wcX10_274.2.2.2 ⟨rfl, rfl, Nat.le_of_ble_eq_true rfl, Nat.le_of_ble_eq_true rfl⟩ rfl (Nat.le_of_ble_eq_true rfl) ⟨Nat.zero_le _, Nat.zero_le _⟩ dX10_toFirstMarking_11 ?_
    obtain rfl := Option.some.inj h
    exact tm_vret rfl dX10_toFirstMarking_14
  exact TMet.of (by decide) (Nat.le_of_ble_eq_true rfl) key
theorem wcX10_135 : tCB RX10 135 yX10_toFirstMarking cX10_toFirstMarking 1 (none) 0 ∧ Cond.methodLink RX10 135 yX10_toFirstMarking ∈ tgd ∧ Cond.instanceMethod yX10_toFirstMarking ∈ tgd ∧ Cond.selects RX10 yX10_toFirstMarking yX10_toFirstMarking ∈ tgd := ⟨⟨(tgd_t 509 (by decide +kernel) (by decide +kernel)), (tgd_t 1 (by decide +kernel) (by decide +kernel)), by decide, by decide +kernel⟩, (tgd_t 506 (by decide +kernel) (by decide +kernel)), (tgd_t 508 (by decide +kernel) (by decide +kernel)), (tgd_p 2 (by decide +kernel) (by decide +kernel))⟩
theorem wcX10_241 : tCB RX10 241 yX0_forget cX0_forget 1 (none) 0 ∧ Cond.methodLink RX10 241 yX0_forget ∈ tgd ∧ Cond.instanceMethod yX0_forget ∈ tgd ∧ Cond.selects RX0 yX0_forget yX0_forget ∈ tgd := ⟨⟨(tgd_t 497 (by decide +kernel) (by decide +kernel)), (tgd_t 8 (by decide +kernel) (by decide +kernel)), by decide, by decide +kernel⟩, (tgd_t 494 (by decide +kernel) (by decide +kernel)), (tgd_t 495 (by decide +kernel) (by decide +kernel)), (tgd_t 496 (by decide +kernel) (by decide +kernel))⟩
theorem wcX10_328 : tCB RX10 328 yX1_forgetRound cX1_forgetRound 1 (none) 0 ∧ Cond.methodLink RX10 328 yX1_forgetRound ∈ tgd ∧ Cond.instanceMethod yX1_forgetRound ∈ tgd ∧ Cond.selects RX1 yX1_forgetRound yX1_forgetRound ∈ tgd := ⟨⟨(tgd_t 489 (by decide +kernel) (by decide +kernel)), (tgd_t 2 (by decide +kernel) (by decide +kernel)), by decide, by decide +kernel⟩, (tgd_t 486 (by decide +kernel) (by decide +kernel)), (tgd_t 487 (by decide +kernel) (by decide +kernel)), (tgd_t 488 (by decide +kernel) (by decide +kernel))⟩
theorem wcX10_331 : tCB RX10 331 yX2_forget cX2_forget 1 (none) 0 ∧ Cond.methodLink RX10 331 yX2_forget ∈ tgd ∧ Cond.instanceMethod yX2_forget ∈ tgd ∧ Cond.selects RX2 yX2_forget yX2_forget ∈ tgd := ⟨⟨(tgd_t 493 (by decide +kernel) (by decide +kernel)), (tgd_t 5 (by decide +kernel) (by decide +kernel)), by decide, by decide +kernel⟩, (tgd_t 490 (by decide +kernel) (by decide +kernel)), (tgd_t 491 (by decide +kernel) (by decide +kernel)), (tgd_t 492 (by decide +kernel) (by decide +kernel))⟩
theorem wcX10_332 : tCB RX10 332 yX6_drop cX6_drop 1 (none) 0 ∧ Cond.methodLink RX10 332 yX6_drop ∈ tgd ∧ Cond.instanceMethod yX6_drop ∈ tgd ∧ Cond.selects RX6 yX6_drop yX6_drop ∈ tgd := ⟨⟨(tgd_t 501 (by decide +kernel) (by decide +kernel)), (tgd_t 7 (by decide +kernel) (by decide +kernel)), by decide, by decide +kernel⟩, (tgd_t 498 (by decide +kernel) (by decide +kernel)), (tgd_t 499 (by decide +kernel) (by decide +kernel)), (tgd_t 500 (by decide +kernel) (by decide +kernel))⟩
theorem wcX10_335 : tCB RX10 335 yX8_drop cX8_drop 1 (none) 0 ∧ Cond.methodLink RX10 335 yX8_drop ∈ tgd ∧ Cond.instanceMethod yX8_drop ∈ tgd ∧ Cond.selects RX8 yX8_drop yX8_drop ∈ tgd := ⟨⟨(tgd_t 505 (by decide +kernel) (by decide +kernel)), (tgd_t 4 (by decide +kernel) (by decide +kernel)), by decide, by decide +kernel⟩, (tgd_t 502 (by decide +kernel) (by decide +kernel)), (tgd_t 503 (by decide +kernel) (by decide +kernel)), (tgd_t 504 (by decide +kernel) (by decide +kernel))⟩
theorem wfX10_10 : Cond.fieldLink RX10 10 "EvenFlow" "graph" "LEvenFlow$Graph;" ∈ tgd := (tgd_t 343 (by decide +kernel) (by decide +kernel))
theorem wfX10_33 : Cond.fieldLink RX10 33 "EvenFlow" "lack" "LEvenFlow$Lack;" ∈ tgd := (tgd_t 345 (by decide +kernel) (by decide +kernel))
theorem wfX10_47 : Cond.fieldLink RX10 47 "EvenFlow" "brackets" "LEvenFlow$Once;" ∈ tgd := (tgd_t 347 (by decide +kernel) (by decide +kernel))
theorem wfX10_54 : Cond.fieldLink RX10 54 "EvenFlow" "slowest" "LEvenFlow$Beat;" ∈ tgd := (tgd_t 348 (by decide +kernel) (by decide +kernel))
abbrev iX10_graphChanged : tY := (RX10, cX10_graphChanged, 1, none, "graphChanged")
abbrev rmX10_graphChanged : Room := { frames := 4, cells := 0, slots := 0, locals := 87 }
def fX10_graphChanged  (M : tM) : Option (tM) :=
  (fX1_forgetRound M).bind fun M2 =>
  (fX2_forget M2).bind fun M4 =>
  (fX0_forget M4).bind fun M6 =>
  (fX6_drop M6).bind fun M8 =>
  (fX8_drop M8).bind fun M10 =>
  (fX10_toFirstMarking M10).bind fun M12 =>
  some M12
set_option maxHeartbeats 4000000 in
set_option maxRecDepth 100000 in
theorem okX10_graphChanged {g : tG}  {M : tM} {Mz : tM} (h : fX10_graphChanged  M = some Mz) : TMet g yX10_graphChanged (Cond.code yX10_graphChanged cX10_graphChanged 1 (none) :: tgd) rmX10_graphChanged [tr 10 0] M none Mz 0 0 := by
  have key : TW g iX10_graphChanged rmX10_graphChanged 0 0 none Mz 0 0 0 [(0, tr 10 0)] [] M := by
    rw [fX10_graphChanged] at h
    refine tm_aload_n dX10_graphChanged_0 rfl rfl ?_
    refine tm_get kX10 rfl (j := 0) (by decide) wfX10_10 dX10_graphChanged_1 (v := tr 1 0) rfl ?_
    replace h := obind_some h
    obtain ⟨M2, hc1, h⟩ := h
    refine tm_callV kX1 rfl (avs := []) (st := []) (okX1_forgetRound hc1) wcX10_328.1 wcX10_328.2.1 wcX10_328.2.2.1 wcX10_328.2.2.2 ⟨rfl, rfl, Nat.le_of_ble_eq_true rfl, Nat.le_of_ble_eq_true rfl⟩ rfl (Nat.le_of_ble_eq_true rfl) ⟨Nat.zero_le _, Nat.zero_le _⟩ dX10_graphChanged_4 ?_
    refine tm_aload_n dX10_graphChanged_7 rfl rfl ?_
    refine tm_get kX10 rfl (j := 2) (by decide) wfX10_33 dX10_graphChanged_8 (v := tr 2 0) rfl ?_
    replace h := obind_some h
    obtain ⟨M4, hc3, h⟩ := h
    refine tm_callV kX2 rfl (avs := []) (st := []) (okX2_forget hc3) wcX10_331.1 wcX10_331.2.1 wcX10_331.2.2.1 wcX10_331.2.2.2 ⟨rfl, rfl, Nat.le_of_ble_eq_true rfl, Nat.le_of_ble_eq_true rfl⟩ rfl (Nat.le_of_ble_eq_true rfl) ⟨Nat.zero_le _, Nat.zero_le _⟩ dX10_graphChanged_11 ?_
    refine tm_aload_n dX10_graphChanged_14 rfl rfl ?_
    refine tm_get kX10 rfl (j := 5) (by decide) wfX10_54 dX10_graphChanged_15 (v := tr 0 0) rfl ?_
    replace h := obind_some h
    obtain ⟨M6, hc5, h⟩ := h
    refine tm_callV kX0 rfl (avs := []) (st := []) (okX0_forget hc5) wcX10_241.1 wcX10_241.2.1 wcX10_241.2.2.1 wcX10_241.2.2.2 ⟨rfl, rfl, Nat.le_of_ble_eq_true rfl, Nat.le_of_ble_eq_true rfl⟩ rfl (Nat.le_of_ble_eq_true rfl) ⟨Nat.zero_le _, Nat.zero_le _⟩ dX10_graphChanged_18 ?_
    refine tm_aload_n dX10_graphChanged_21 rfl rfl ?_
    refine tm_get kX10 rfl (j := 4) (by decide) wfX10_47 dX10_graphChanged_22 (v := tr 6 0) rfl ?_
    replace h := obind_some h
    obtain ⟨M8, hc7, h⟩ := h
    refine tm_callV kX6 rfl (avs := []) (st := []) (okX6_drop hc7) wcX10_332.1 wcX10_332.2.1 wcX10_332.2.2.1 wcX10_332.2.2.2 ⟨rfl, rfl, Nat.le_of_ble_eq_true rfl, Nat.le_of_ble_eq_true rfl⟩ rfl (Nat.le_of_ble_eq_true rfl) ⟨Nat.zero_le _, Nat.zero_le _⟩ dX10_graphChanged_25 ?_
    refine tm_aload_n dX10_graphChanged_28 rfl rfl ?_
    refine tm_get kX10 rfl (j := 1) (by decide) wfX10_26 dX10_graphChanged_29 (v := tr 8 0) rfl ?_
    replace h := obind_some h
    obtain ⟨M10, hc9, h⟩ := h
    refine tm_callV kX8 rfl (avs := []) (st := []) (okX8_drop hc9) wcX10_335.1 wcX10_335.2.1 wcX10_335.2.2.1 wcX10_335.2.2.2 ⟨rfl, rfl, Nat.le_of_ble_eq_true rfl, Nat.le_of_ble_eq_true rfl⟩ rfl (Nat.le_of_ble_eq_true rfl) ⟨Nat.zero_le _, Nat.zero_le _⟩ dX10_graphChanged_32 ?_
    refine tm_aload_n dX10_graphChanged_35 rfl rfl ?_
    replace h := obind_some h
    obtain ⟨M12, hc11, h⟩ := h
    refine tm_callV kX10 rfl (avs := []) (st := []) (okX10_toFirstMarking hc11) wcX10_135.1 wcX10_135.2.1 wcX10_135.2.2.1 wcX10_135.2.2.2 ⟨rfl, rfl, Nat.le_of_ble_eq_true rfl, Nat.le_of_ble_eq_true rfl⟩ rfl (Nat.le_of_ble_eq_true rfl) ⟨Nat.zero_le _, Nat.zero_le _⟩ dX10_graphChanged_36 ?_
    obtain rfl := Option.some.inj h
    exact tm_vret rfl dX10_graphChanged_39
  exact TMet.of (by decide) (Nat.le_of_ble_eq_true rfl) key
theorem wcX10_76 : tCB RX10 76 yX10_meets cX10_meets 2 (some .int) 1 ∧ Cond.methodLink RX10 76 yX10_meets ∈ tgd ∧ Cond.instanceMethod yX10_meets ∈ tgd ∧ Cond.selects RX10 yX10_meets yX10_meets ∈ tgd := ⟨⟨(tgd_t 387 (by decide +kernel) (by decide +kernel)), (tgd_t 1 (by decide +kernel) (by decide +kernel)), by decide, by decide +kernel⟩, (tgd_t 384 (by decide +kernel) (by decide +kernel)), (tgd_t 386 (by decide +kernel) (by decide +kernel)), (tgd_p 0 (by decide +kernel) (by decide +kernel))⟩
theorem wcX10_84 : tCB RX10 84 yX10_graphChanged cX10_graphChanged 1 (none) 0 ∧ Cond.methodLink RX10 84 yX10_graphChanged ∈ tgd ∧ Cond.instanceMethod yX10_graphChanged ∈ tgd ∧ Cond.selects RX10 yX10_graphChanged yX10_graphChanged ∈ tgd := ⟨⟨(tgd_t 485 (by decide +kernel) (by decide +kernel)), (tgd_t 1 (by decide +kernel) (by decide +kernel)), by decide, by decide +kernel⟩, (tgd_t 482 (by decide +kernel) (by decide +kernel)), (tgd_t 484 (by decide +kernel) (by decide +kernel)), (tgd_p 1 (by decide +kernel) (by decide +kernel))⟩
theorem wcX10_98 : tCB RX10 98 yX1_lineAt cX1_lineAt 2 (some (.object "EvenFlow$Line")) 1 ∧ Cond.methodLink RX10 98 yX1_lineAt ∈ tgd ∧ Cond.instanceMethod yX1_lineAt ∈ tgd ∧ Cond.selects RX1 yX1_lineAt yX1_lineAt ∈ tgd := ⟨⟨(tgd_t 640 (by decide +kernel) (by decide +kernel)), (tgd_t 2 (by decide +kernel) (by decide +kernel)), by decide, by decide +kernel⟩, (tgd_t 637 (by decide +kernel) (by decide +kernel)), (tgd_t 638 (by decide +kernel) (by decide +kernel)), (tgd_t 639 (by decide +kernel) (by decide +kernel))⟩
theorem wfX10_102 : Cond.fieldLink RX10 102 "EvenFlow$Line" "to" "LEvenFlow$Part;" ∈ tgd := (tgd_t 565 (by decide +kernel) (by decide +kernel))
theorem wfX10_108 : Cond.fieldLink RX10 108 "EvenFlow$Line" "from" "LEvenFlow$Part;" ∈ tgd := (tgd_t 559 (by decide +kernel) (by decide +kernel))
theorem wfX10_111 : Cond.fieldLink RX10 111 "EvenFlow$Part" "kind" "I" ∈ tgd := (tgd_t 411 (by decide +kernel) (by decide +kernel))
theorem wfX10_116 : Cond.fieldLink RX10 116 "EvenFlow$Line" "takes" "[I" ∈ tgd := (tgd_t 576 (by decide +kernel) (by decide +kernel))
theorem wfX10_119 : Cond.fieldLink RX10 119 "EvenFlow$Line" "gives" "[I" ∈ tgd := (tgd_t 572 (by decide +kernel) (by decide +kernel))
abbrev iX10_count : tY := (RX10, cX10_count, 9, some .int, "count")
abbrev rmX10_count : Room := { frames := 5, cells := 0, slots := 0, locals := 107 }
def fX10_count (a1 : Int32) (a2 : Int32) (a3 : Int32) (a4 : Int32) (M : tM) : Option (Int32 × tM) :=
  (fX1_lineAt a1 M).bind fun r1 =>
  if r1 = none then (
  some (((-1), M))
  ) else (
  if a4 < 0 then (
  some (((-1), M))
  ) else (
  if a4 ≤ 50 then (
  Option.bind (α := (Option Nat) × (Option Nat)) (
  if a2 = 0 then (
  Option.bind r1 fun i7 =>
  bnd (mR M 4 i7 1) fun r8 =>
  some ((r8, some i7))
  ) else (
  Option.bind r1 fun i9 =>
  bnd (mR M 4 i9 2) fun r10 =>
  some ((r10, some i9))
  )
  ) fun (r7, r8) =>
  Option.bind r7 fun i11 =>
  if (mI M 7 i11 1) = 4 then (
  Option.bind (α := Nat × Nat) (
  if a2 = 0 then (
  Option.bind r8 fun i14 =>
  some ((503, i14))
  ) else (
  Option.bind r8 fun i15 =>
  some ((504, i15))
  )
  ) fun (k14, i15) =>
  if a3 < 0 then (
  (fX10_meets 2 M).bind fun (x19, M21) =>
  some ((x19, M21))
  ) else (
  chk (decide (tO k14 = none)) <|
  chk (!tRO k14) <|
  if a3 < (nI (mN M k14 i15)) then (
  chk (tIsI k14) <|
  chk (inb a3 (mN M k14 i15)) <|
  bnd (mI M k14 i15 (a3.toNatClampNeg)) fun x27 =>
  chk (tIsI k14) <|
  chk (inb a3 (mN M k14 i15)) <|
  bnd (sI M k14 i15 (a3.toNatClampNeg) a4) fun M30 =>
  (fX10_graphChanged M30).bind fun M32 =>
  some ((x27, M32))
  ) else (
  (fX10_meets 2 M).bind fun (x33, M35) =>
  some ((x33, M35))
  )
  )
  ) else (
  (fX10_meets 3 M).bind fun (x36, M38) =>
  some ((x36, M38))
  )
  ) else (
  some (((-1), M))
  )
  )
  )
set_option maxHeartbeats 4000000 in
set_option maxRecDepth 100000 in
theorem okX10_count {g : tG} {a1 : Int32} {a2 : Int32} {a3 : Int32} {a4 : Int32} {M : tM} {v : Int32} {Mz : tM} (h : fX10_count a1 a2 a3 a4 M = some ((v, Mz))) : TMet g yX10_count (Cond.code yX10_count cX10_count 9 (some .int) :: tgd) rmX10_count [tr 10 0, ti a1, ti a2, ti a3, ti a4] M (some (ti v)) Mz 0 0 := by
  have key : TW g iX10_count rmX10_count 0 0 (some (ti v)) Mz 0 0 0 [(0, tr 10 0), (1, ti a1), (2, ti a2), (3, ti a3), (4, ti a4)] [] M := by
    rw [fX10_count] at h
    refine tm_aload_n dX10_count_0 rfl rfl ?_
    refine tm_get kX10 rfl (j := 0) (by decide) wfX10_10 dX10_count_1 (v := tr 1 0) rfl ?_
    refine tm_iload_n dX10_count_4 rfl rfl ?_
    replace h := obind_some h
    obtain ⟨r1, hc2, h⟩ := h
    refine tm_callV kX1 rfl (avs := [ti a1]) (st := []) (okX1_lineAt hc2) wcX10_98.1 wcX10_98.2.1 wcX10_98.2.2.1 wcX10_98.2.2.2 ⟨rfl, rfl, Nat.le_of_ble_eq_true rfl, Nat.le_of_ble_eq_true rfl⟩ rfl (Nat.le_of_ble_eq_true rfl) ⟨Nat.zero_le _, Nat.zero_le _⟩ dX10_count_5 ?_
    refine tm_astore (lc' := [(5, tq 4 r1), (0, tr 10 0), (1, ti a1), (2, ti a2), (3, ti a3), (4, ti a4)]) dX10_count_8 (by decide) rfl ?_
    refine tm_aload dX10_count_10 rfl ?_
    refine tm_ifnull (k2 := 4) (q := r1) (tgt := 27) dX10_count_12 (by decide) (fun c3 => ?_) (fun c3 => ?_)
    · rw [if_pos c3] at h
      refine tm_iconst (v := (-1)) dX10_count_27 (by decide) ?_
      obtain ⟨rfl, rfl⟩ := pj2 h
      exact tm_iret rfl dX10_count_28
    · rw [if_neg c3] at h
      refine tm_iload dX10_count_15 rfl ?_
      refine tm_if_lt (tgt := 27) dX10_count_17 (by decide) (fun c4 => ?_) (fun c4 => ?_)
      · rw [if_pos c4] at h
        refine tm_iconst (v := (-1)) dX10_count_27 (by decide) ?_
        obtain ⟨rfl, rfl⟩ := pj2 h
        exact tm_iret rfl dX10_count_28
      · rw [if_neg c4] at h
        refine tm_iload dX10_count_20 rfl ?_
        refine tm_bipush (v := 50) dX10_count_22 (by decide) ?_
        refine tm_icmp_le (tgt := 29) dX10_count_24 (by decide) (fun c5 => ?_) (fun c5 => ?_)
        · rw [if_pos c5] at h
          refine tm_iload_n dX10_count_29 rfl rfl ?_
          replace h := obind_some h
          obtain ⟨⟨r7, r8⟩, hE9, h⟩ := h
          dsimp only at h
          have J10 : TW g iX10_count rmX10_count 0 0 (some (ti v)) Mz 0 0 46 [(0, tr 10 0), (2, ti a2), (3, ti a3), (4, ti a4), (5, tq 4 r8)] [tq 7 r7] M := by
            refine tm_astore (lc' := [(6, tq 7 r7), (0, tr 10 0), (2, ti a2), (3, ti a3), (4, ti a4), (5, tq 4 r8)]) dX10_count_46 (by decide) rfl ?_
            refine tm_aload dX10_count_48 rfl ?_
            replace h := obind_some h
            obtain ⟨i11, ei11, h⟩ := h
            subst ei11
            refine tm_get kX7 rfl (j := 1) (by decide) wfX10_111 dX10_count_50 (v := ti (mI M 7 i11 1)) rfl ?_
            refine tm_iconst (v := 4) dX10_count_53 (by decide) ?_
            refine tm_icmp_eq (tgt := 63) dX10_count_54 (by decide) (fun c12 => ?_) (fun c12 => ?_)
            · rw [if_pos c12] at h
              refine tm_iload_n dX10_count_63 rfl rfl ?_
              replace h := obind_some h
              obtain ⟨⟨k14, i15⟩, hE16, h⟩ := h
              dsimp only at h
              have J17 : TW g iX10_count rmX10_count 0 0 (some (ti v)) Mz 0 0 80 [(0, tr 10 0), (3, ti a3), (4, ti a4)] [tr k14 i15] M := by
                refine tm_astore (lc' := [(7, tr k14 i15), (0, tr 10 0), (3, ti a3), (4, ti a4)]) dX10_count_80 (by decide) rfl ?_
                refine tm_iload_n dX10_count_82 rfl rfl ?_
                refine tm_if_lt (tgt := 93) dX10_count_83 (by decide) (fun c18 => ?_) (fun c18 => ?_)
                · rw [if_pos c18] at h
                  refine tm_aload_n dX10_count_93 rfl rfl ?_
                  refine tm_iconst (v := 2) dX10_count_94 (by decide) ?_
                  replace h := obind_some h
                  obtain ⟨⟨x19, M21⟩, hc20, h⟩ := h
                  dsimp only at h
                  refine tm_callV kX10 rfl (avs := [ti 2]) (st := []) (okX10_meets hc20) wcX10_76.1 wcX10_76.2.1 wcX10_76.2.2.1 wcX10_76.2.2.2 ⟨rfl, rfl, Nat.le_of_ble_eq_true rfl, Nat.le_of_ble_eq_true rfl⟩ rfl (Nat.le_of_ble_eq_true rfl) ⟨Nat.zero_le _, Nat.zero_le _⟩ dX10_count_95 ?_
                  obtain ⟨rfl, rfl⟩ := pj2 h
                  exact tm_iret rfl dX10_count_98
                · rw [if_neg c18] at h
                  refine tm_iload_n dX10_count_86 rfl rfl ?_
                  refine tm_aload dX10_count_87 rfl ?_
                  replace h := chk_some h
                  obtain ⟨b22, h⟩ := h
                  replace h := chk_some h
                  obtain ⟨b23, h⟩ := h
                  refine tm_alen ⟨(of_decide_eq_true b22), (by simpa using b23)⟩ dX10_count_89 ?_
                  refine tm_icmp_lt (tgt := 99) dX10_count_90 (by decide) (fun c24 => ?_) (fun c24 => ?_)
                  · rw [if_pos c24] at h
                    refine tm_aload dX10_count_99 rfl ?_
                    refine tm_iload_n dX10_count_101 rfl rfl ?_
                    replace h := chk_some h
                    obtain ⟨b25, h⟩ := h
                    replace h := chk_some h
                    obtain ⟨b26, h⟩ := h
                    refine tm_iald b25 dX10_count_102 (inb_vp b26) ?_
                    replace h := bnd_some h
                    obtain ⟨x27, ex27, h⟩ := h
                    refine tm_nmI ex27 ?_
                    refine tm_istore (lc' := [(8, ti x27), (7, tr k14 i15), (0, tr 10 0), (3, ti a3), (4, ti a4)]) dX10_count_103 (by decide) rfl ?_
                    refine tm_aload dX10_count_105 rfl ?_
                    refine tm_iload_n dX10_count_107 rfl rfl ?_
                    refine tm_iload dX10_count_108 rfl ?_
                    replace h := chk_some h
                    obtain ⟨b28, h⟩ := h
                    replace h := chk_some h
                    obtain ⟨b29, h⟩ := h
                    replace h := bnd_some h
                    obtain ⟨M30, eM30, h⟩ := h
                    refine tm_iast b28 dX10_count_110 (inb_vp b29) ?_
                    refine tm_nmM eM30 ?_
                    refine tm_aload_n dX10_count_111 rfl rfl ?_
                    replace h := obind_some h
                    obtain ⟨M32, hc31, h⟩ := h
                    refine tm_callV kX10 rfl (avs := []) (st := []) (okX10_graphChanged hc31) wcX10_84.1 wcX10_84.2.1 wcX10_84.2.2.1 wcX10_84.2.2.2 ⟨rfl, rfl, Nat.le_of_ble_eq_true rfl, Nat.le_of_ble_eq_true rfl⟩ rfl (Nat.le_of_ble_eq_true rfl) ⟨Nat.zero_le _, Nat.zero_le _⟩ dX10_count_112 ?_
                    refine tm_iload dX10_count_115 rfl ?_
                    obtain ⟨rfl, rfl⟩ := pj2 h
                    exact tm_iret rfl dX10_count_117
                  · rw [if_neg c24] at h
                    refine tm_aload_n dX10_count_93 rfl rfl ?_
                    refine tm_iconst (v := 2) dX10_count_94 (by decide) ?_
                    replace h := obind_some h
                    obtain ⟨⟨x33, M35⟩, hc34, h⟩ := h
                    dsimp only at h
                    refine tm_callV kX10 rfl (avs := [ti 2]) (st := []) (okX10_meets hc34) wcX10_76.1 wcX10_76.2.1 wcX10_76.2.2.1 wcX10_76.2.2.2 ⟨rfl, rfl, Nat.le_of_ble_eq_true rfl, Nat.le_of_ble_eq_true rfl⟩ rfl (Nat.le_of_ble_eq_true rfl) ⟨Nat.zero_le _, Nat.zero_le _⟩ dX10_count_95 ?_
                    obtain ⟨rfl, rfl⟩ := pj2 h
                    exact tm_iret rfl dX10_count_98
              refine tm_if_eq (tgt := 75) dX10_count_64 (by decide) (fun c13 => ?_) (fun c13 => ?_)
              · rw [if_pos c13] at hE16
                refine tm_aload dX10_count_75 rfl ?_
                replace hE16 := obind_some hE16
                obtain ⟨i14, ei14, hE16⟩ := hE16
                subst ei14
                refine tm_get kX4 rfl (j := 3) (by decide) wfX10_119 dX10_count_77 (v := tr 503 i14) rfl ?_
                obtain ⟨rfl, rfl⟩ := pj2 hE16
                refine tm_lcp [0, 3, 4] rfl ?_
                exact J17
              · rw [if_neg c13] at hE16
                refine tm_aload dX10_count_67 rfl ?_
                replace hE16 := obind_some hE16
                obtain ⟨i15, ei15, hE16⟩ := hE16
                subst ei15
                refine tm_get kX4 rfl (j := 4) (by decide) wfX10_116 dX10_count_69 (v := tr 504 i15) rfl ?_
                refine tm_goto (tgt := 80) dX10_count_72 (by decide) ?_
                obtain ⟨rfl, rfl⟩ := pj2 hE16
                refine tm_lcp [0, 3, 4] rfl ?_
                exact J17
            · rw [if_neg c12] at h
              refine tm_aload_n dX10_count_57 rfl rfl ?_
              refine tm_iconst (v := 3) dX10_count_58 (by decide) ?_
              replace h := obind_some h
              obtain ⟨⟨x36, M38⟩, hc37, h⟩ := h
              dsimp only at h
              refine tm_callV kX10 rfl (avs := [ti 3]) (st := []) (okX10_meets hc37) wcX10_76.1 wcX10_76.2.1 wcX10_76.2.2.1 wcX10_76.2.2.2 ⟨rfl, rfl, Nat.le_of_ble_eq_true rfl, Nat.le_of_ble_eq_true rfl⟩ rfl (Nat.le_of_ble_eq_true rfl) ⟨Nat.zero_le _, Nat.zero_le _⟩ dX10_count_59 ?_
              obtain ⟨rfl, rfl⟩ := pj2 h
              exact tm_iret rfl dX10_count_62
          refine tm_if_eq (tgt := 41) dX10_count_30 (by decide) (fun c6 => ?_) (fun c6 => ?_)
          · rw [if_pos c6] at hE9
            refine tm_aload dX10_count_41 rfl ?_
            replace hE9 := obind_some hE9
            obtain ⟨i7, ei7, hE9⟩ := hE9
            subst ei7
            refine tm_get kX4 rfl (j := 1) (by decide) wfX10_108 dX10_count_43 (v := tq 7 (mR M 4 i7 1)) rfl ?_
            replace hE9 := bnd_some hE9
            obtain ⟨r8, er8, hE9⟩ := hE9
            refine tm_nmQ er8 ?_
            obtain ⟨rfl, rfl⟩ := pj2 hE9
            refine tm_lcp [0, 2, 3, 4, 5] rfl ?_
            exact J10
          · rw [if_neg c6] at hE9
            refine tm_aload dX10_count_33 rfl ?_
            replace hE9 := obind_some hE9
            obtain ⟨i9, ei9, hE9⟩ := hE9
            subst ei9
            refine tm_get kX4 rfl (j := 2) (by decide) wfX10_102 dX10_count_35 (v := tq 7 (mR M 4 i9 2)) rfl ?_
            replace hE9 := bnd_some hE9
            obtain ⟨r10, er10, hE9⟩ := hE9
            refine tm_nmQ er10 ?_
            refine tm_goto (tgt := 46) dX10_count_38 (by decide) ?_
            obtain ⟨rfl, rfl⟩ := pj2 hE9
            refine tm_lcp [0, 2, 3, 4, 5] rfl ?_
            exact J10
        · rw [if_neg c5] at h
          refine tm_iconst (v := (-1)) dX10_count_27 (by decide) ?_
          obtain ⟨rfl, rfl⟩ := pj2 h
          exact tm_iret rfl dX10_count_28
  exact TMet.of (by decide) (Nat.le_of_ble_eq_true rfl) key
theorem wcX10_126 : tCB RX10 126 yJ7_fill_d0a16 cJ7_fill_d0a16 5 (none) 2 ∧ Cond.methodLink RX10 126 yJ7_fill_d0a16 ∈ tgd ∧ Cond.static yJ7_fill_d0a16 ∈ tgd := ⟨⟨(tgd_t 647 (by decide +kernel) (by decide +kernel)), (tgd_t 14 (by decide +kernel) (by decide +kernel)), by decide, by decide +kernel⟩, (tgd_t 645 (by decide +kernel) (by decide +kernel)), (tgd_t 646 (by decide +kernel) (by decide +kernel))⟩
theorem wfX10_122 : Cond.fieldLink RX10 122 "EvenFlow$Line" "firstThings" "[J" ∈ tgd := (tgd_t 579 (by decide +kernel) (by decide +kernel))
theorem wfX10_132 : Cond.fieldLink RX10 132 "EvenFlow$Line" "firstCount" "I" ∈ tgd := (tgd_t 581 (by decide +kernel) (by decide +kernel))
abbrev iX10_first : tY := (RX10, cX10_first, 4, some .int, "first")
abbrev rmX10_first : Room := { frames := 5, cells := 0, slots := 0, locals := 107 }
def fX10_first (a1 : Int32) (a2 : Int32) (M : tM) : Option (Int32 × tM) :=
  (fX1_lineAt a1 M).bind fun r1 =>
  if r1 = none then (
  some (((-1), M))
  ) else (
  if a2 < 0 then (
  some (((-1), M))
  ) else (
  if a2 ≤ 60 then (
  Option.bind r1 fun i6 =>
  (fJ7_fill_d0a16 505 i6 0 M).bind fun M8 =>
  bnd (sI M8 4 i6 6 a2) fun M9 =>
  (fX10_graphChanged M9).bind fun M11 =>
  some ((a2, M11))
  ) else (
  some (((-1), M))
  )
  )
  )
set_option maxHeartbeats 4000000 in
set_option maxRecDepth 100000 in
theorem okX10_first {g : tG} {a1 : Int32} {a2 : Int32} {M : tM} {v : Int32} {Mz : tM} (h : fX10_first a1 a2 M = some ((v, Mz))) : TMet g yX10_first (Cond.code yX10_first cX10_first 4 (some .int) :: tgd) rmX10_first [tr 10 0, ti a1, ti a2] M (some (ti v)) Mz 0 0 := by
  have key : TW g iX10_first rmX10_first 0 0 (some (ti v)) Mz 0 0 0 [(0, tr 10 0), (1, ti a1), (2, ti a2)] [] M := by
    rw [fX10_first] at h
    refine tm_aload_n dX10_first_0 rfl rfl ?_
    refine tm_get kX10 rfl (j := 0) (by decide) wfX10_10 dX10_first_1 (v := tr 1 0) rfl ?_
    refine tm_iload_n dX10_first_4 rfl rfl ?_
    replace h := obind_some h
    obtain ⟨r1, hc2, h⟩ := h
    refine tm_callV kX1 rfl (avs := [ti a1]) (st := []) (okX1_lineAt hc2) wcX10_98.1 wcX10_98.2.1 wcX10_98.2.2.1 wcX10_98.2.2.2 ⟨rfl, rfl, Nat.le_of_ble_eq_true rfl, Nat.le_of_ble_eq_true rfl⟩ rfl (Nat.le_of_ble_eq_true rfl) ⟨Nat.zero_le _, Nat.zero_le _⟩ dX10_first_5 ?_
    refine tm_astore_n (lc' := [(3, tq 4 r1), (0, tr 10 0), (1, ti a1), (2, ti a2)]) dX10_first_8 rfl (by decide) rfl ?_
    refine tm_aload_n dX10_first_9 rfl rfl ?_
    refine tm_ifnull (k2 := 4) (q := r1) (tgt := 23) dX10_first_10 (by decide) (fun c3 => ?_) (fun c3 => ?_)
    · rw [if_pos c3] at h
      refine tm_iconst (v := (-1)) dX10_first_23 (by decide) ?_
      obtain ⟨rfl, rfl⟩ := pj2 h
      exact tm_iret rfl dX10_first_24
    · rw [if_neg c3] at h
      refine tm_iload_n dX10_first_13 rfl rfl ?_
      refine tm_if_lt (tgt := 23) dX10_first_14 (by decide) (fun c4 => ?_) (fun c4 => ?_)
      · rw [if_pos c4] at h
        refine tm_iconst (v := (-1)) dX10_first_23 (by decide) ?_
        obtain ⟨rfl, rfl⟩ := pj2 h
        exact tm_iret rfl dX10_first_24
      · rw [if_neg c4] at h
        refine tm_iload_n dX10_first_17 rfl rfl ?_
        refine tm_bipush (v := 60) dX10_first_18 (by decide) ?_
        refine tm_icmp_le (tgt := 25) dX10_first_20 (by decide) (fun c5 => ?_) (fun c5 => ?_)
        · rw [if_pos c5] at h
          refine tm_aload_n dX10_first_25 rfl rfl ?_
          replace h := obind_some h
          obtain ⟨i6, ei6, h⟩ := h
          subst ei6
          refine tm_get kX4 rfl (j := 5) (by decide) wfX10_122 dX10_first_26 (v := tr 505 i6) rfl ?_
          refine tm_lconst (v := 0) dX10_first_29 (by decide) ?_
          replace h := obind_some h
          obtain ⟨M8, hc7, h⟩ := h
          refine tm_callS (avs := [tr 505 i6, tl 0]) (st := []) (okJ7_fill_d0a16 hc7) wcX10_126.1 wcX10_126.2.1 wcX10_126.2.2 ⟨rfl, rfl, Nat.le_of_ble_eq_true rfl, Nat.le_of_ble_eq_true rfl⟩ rfl (Nat.le_of_ble_eq_true rfl) ⟨Nat.zero_le _, Nat.zero_le _⟩ dX10_first_30 ?_
          refine tm_aload_n dX10_first_33 rfl rfl ?_
          refine tm_iload_n dX10_first_34 rfl rfl ?_
          replace h := bnd_some h
          obtain ⟨M9, eM9, h⟩ := h
          refine tm_put kX4 rfl (j := 6) (by decide) wfX10_132 rfl dX10_first_35 (fun _ => ⟨rfl, rfl⟩) (tPut_I a2 rfl) ?_
          refine tm_nmM eM9 ?_
          refine tm_aload_n dX10_first_38 rfl rfl ?_
          replace h := obind_some h
          obtain ⟨M11, hc10, h⟩ := h
          refine tm_callV kX10 rfl (avs := []) (st := []) (okX10_graphChanged hc10) wcX10_84.1 wcX10_84.2.1 wcX10_84.2.2.1 wcX10_84.2.2.2 ⟨rfl, rfl, Nat.le_of_ble_eq_true rfl, Nat.le_of_ble_eq_true rfl⟩ rfl (Nat.le_of_ble_eq_true rfl) ⟨Nat.zero_le _, Nat.zero_le _⟩ dX10_first_39 ?_
          refine tm_iload_n dX10_first_42 rfl rfl ?_
          obtain ⟨rfl, rfl⟩ := pj2 h
          exact tm_iret rfl dX10_first_43
        · rw [if_neg c5] at h
          refine tm_iconst (v := (-1)) dX10_first_23 (by decide) ?_
          obtain ⟨rfl, rfl⟩ := pj2 h
          exact tm_iret rfl dX10_first_24
  exact TMet.of (by decide) (Nat.le_of_ble_eq_true rfl) key
abbrev iX10_thing : tY := (RX10, cX10_thing, 6, some .int, "thing")
abbrev rmX10_thing : Room := { frames := 4, cells := 0, slots := 0, locals := 87 }
def fX10_thing (a1 : Int32) (a2 : Int32) (a3 : Int64) (M : tM) : Option (Int32 × tM) :=
  (fX1_lineAt a1 M).bind fun r1 =>
  if r1 = none then (
  some (((-1), M))
  ) else (
  if a2 < 0 then (
  (fX10_meets 2 M).bind fun (x5, M7) =>
  some ((x5, M7))
  ) else (
  Option.bind r1 fun i8 =>
  if (mI M 4 i8 6) ≤ a2 then (
  (fX10_meets 2 M).bind fun (x10, M12) =>
  some ((x10, M12))
  ) else (
  if a2 < (nI (mN M 505 i8)) then (
  chk (inb a2 (mN M 505 i8)) <|
  bnd (sL M 505 i8 (a2.toNatClampNeg) a3) fun M15 =>
  (fX10_toFirstMarking M15).bind fun M17 =>
  some ((1, M17))
  ) else (
  (fX10_meets 2 M).bind fun (x18, M20) =>
  some ((x18, M20))
  )
  )
  )
  )
set_option maxHeartbeats 4000000 in
set_option maxRecDepth 100000 in
theorem okX10_thing {g : tG} {a1 : Int32} {a2 : Int32} {a3 : Int64} {M : tM} {v : Int32} {Mz : tM} (h : fX10_thing a1 a2 a3 M = some ((v, Mz))) : TMet g yX10_thing (Cond.code yX10_thing cX10_thing 6 (some .int) :: tgd) rmX10_thing [tr 10 0, ti a1, ti a2, tl a3] M (some (ti v)) Mz 0 0 := by
  have key : TW g iX10_thing rmX10_thing 0 0 (some (ti v)) Mz 0 0 0 [(0, tr 10 0), (1, ti a1), (2, ti a2), (3, tl a3)] [] M := by
    rw [fX10_thing] at h
    refine tm_aload_n dX10_thing_0 rfl rfl ?_
    refine tm_get kX10 rfl (j := 0) (by decide) wfX10_10 dX10_thing_1 (v := tr 1 0) rfl ?_
    refine tm_iload_n dX10_thing_4 rfl rfl ?_
    replace h := obind_some h
    obtain ⟨r1, hc2, h⟩ := h
    refine tm_callV kX1 rfl (avs := [ti a1]) (st := []) (okX1_lineAt hc2) wcX10_98.1 wcX10_98.2.1 wcX10_98.2.2.1 wcX10_98.2.2.2 ⟨rfl, rfl, Nat.le_of_ble_eq_true rfl, Nat.le_of_ble_eq_true rfl⟩ rfl (Nat.le_of_ble_eq_true rfl) ⟨Nat.zero_le _, Nat.zero_le _⟩ dX10_thing_5 ?_
    refine tm_astore (lc' := [(5, tq 4 r1), (0, tr 10 0), (1, ti a1), (2, ti a2), (3, tl a3)]) dX10_thing_8 (by decide) rfl ?_
    refine tm_aload dX10_thing_10 rfl ?_
    refine tm_ifnonnull (k2 := 4) (q := r1) (tgt := 17) dX10_thing_12 (by decide) (fun c3 => ?_) (fun c3 => ?_)
    · rw [if_neg c3] at h
      refine tm_iload_n dX10_thing_17 rfl rfl ?_
      refine tm_if_lt (tgt := 40) dX10_thing_18 (by decide) (fun c4 => ?_) (fun c4 => ?_)
      · rw [if_pos c4] at h
        refine tm_aload_n dX10_thing_40 rfl rfl ?_
        refine tm_iconst (v := 2) dX10_thing_41 (by decide) ?_
        replace h := obind_some h
        obtain ⟨⟨x5, M7⟩, hc6, h⟩ := h
        dsimp only at h
        refine tm_callV kX10 rfl (avs := [ti 2]) (st := []) (okX10_meets hc6) wcX10_76.1 wcX10_76.2.1 wcX10_76.2.2.1 wcX10_76.2.2.2 ⟨rfl, rfl, Nat.le_of_ble_eq_true rfl, Nat.le_of_ble_eq_true rfl⟩ rfl (Nat.le_of_ble_eq_true rfl) ⟨Nat.zero_le _, Nat.zero_le _⟩ dX10_thing_42 ?_
        obtain ⟨rfl, rfl⟩ := pj2 h
        exact tm_iret rfl dX10_thing_45
      · rw [if_neg c4] at h
        refine tm_iload_n dX10_thing_21 rfl rfl ?_
        refine tm_aload dX10_thing_22 rfl ?_
        replace h := obind_some h
        obtain ⟨i8, ei8, h⟩ := h
        subst ei8
        refine tm_get kX4 rfl (j := 6) (by decide) wfX10_132 dX10_thing_24 (v := ti (mI M 4 i8 6)) rfl ?_
        refine tm_icmp_ge (tgt := 40) dX10_thing_27 (by decide) (fun c9 => ?_) (fun c9 => ?_)
        · rw [if_pos c9] at h
          refine tm_aload_n dX10_thing_40 rfl rfl ?_
          refine tm_iconst (v := 2) dX10_thing_41 (by decide) ?_
          replace h := obind_some h
          obtain ⟨⟨x10, M12⟩, hc11, h⟩ := h
          dsimp only at h
          refine tm_callV kX10 rfl (avs := [ti 2]) (st := []) (okX10_meets hc11) wcX10_76.1 wcX10_76.2.1 wcX10_76.2.2.1 wcX10_76.2.2.2 ⟨rfl, rfl, Nat.le_of_ble_eq_true rfl, Nat.le_of_ble_eq_true rfl⟩ rfl (Nat.le_of_ble_eq_true rfl) ⟨Nat.zero_le _, Nat.zero_le _⟩ dX10_thing_42 ?_
          obtain ⟨rfl, rfl⟩ := pj2 h
          exact tm_iret rfl dX10_thing_45
        · rw [if_neg c9] at h
          refine tm_iload_n dX10_thing_30 rfl rfl ?_
          refine tm_aload dX10_thing_31 rfl ?_
          refine tm_get kX4 rfl (j := 5) (by decide) wfX10_122 dX10_thing_33 (v := tr 505 i8) rfl ?_
          refine tm_alen ⟨rfl, rfl⟩ dX10_thing_36 ?_
          refine tm_icmp_lt (tgt := 46) dX10_thing_37 (by decide) (fun c13 => ?_) (fun c13 => ?_)
          · rw [if_pos c13] at h
            refine tm_aload dX10_thing_46 rfl ?_
            refine tm_get kX4 rfl (j := 5) (by decide) wfX10_122 dX10_thing_48 (v := tr 505 i8) rfl ?_
            refine tm_iload_n dX10_thing_51 rfl rfl ?_
            refine tm_lload_n dX10_thing_52 rfl rfl ?_
            replace h := chk_some h
            obtain ⟨b14, h⟩ := h
            replace h := bnd_some h
            obtain ⟨M15, eM15, h⟩ := h
            refine tm_last rfl dX10_thing_53 (inb_vp b14) ?_
            refine tm_nmM eM15 ?_
            refine tm_aload_n dX10_thing_54 rfl rfl ?_
            replace h := obind_some h
            obtain ⟨M17, hc16, h⟩ := h
            refine tm_callV kX10 rfl (avs := []) (st := []) (okX10_toFirstMarking hc16) wcX10_135.1 wcX10_135.2.1 wcX10_135.2.2.1 wcX10_135.2.2.2 ⟨rfl, rfl, Nat.le_of_ble_eq_true rfl, Nat.le_of_ble_eq_true rfl⟩ rfl (Nat.le_of_ble_eq_true rfl) ⟨Nat.zero_le _, Nat.zero_le _⟩ dX10_thing_55 ?_
            refine tm_iconst (v := 1) dX10_thing_58 (by decide) ?_
            obtain ⟨rfl, rfl⟩ := pj2 h
            exact tm_iret rfl dX10_thing_59
          · rw [if_neg c13] at h
            refine tm_aload_n dX10_thing_40 rfl rfl ?_
            refine tm_iconst (v := 2) dX10_thing_41 (by decide) ?_
            replace h := obind_some h
            obtain ⟨⟨x18, M20⟩, hc19, h⟩ := h
            dsimp only at h
            refine tm_callV kX10 rfl (avs := [ti 2]) (st := []) (okX10_meets hc19) wcX10_76.1 wcX10_76.2.1 wcX10_76.2.2.1 wcX10_76.2.2.2 ⟨rfl, rfl, Nat.le_of_ble_eq_true rfl, Nat.le_of_ble_eq_true rfl⟩ rfl (Nat.le_of_ble_eq_true rfl) ⟨Nat.zero_le _, Nat.zero_le _⟩ dX10_thing_42 ?_
            obtain ⟨rfl, rfl⟩ := pj2 h
            exact tm_iret rfl dX10_thing_45
    · rw [if_pos c3] at h
      refine tm_iconst (v := (-1)) dX10_thing_15 (by decide) ?_
      obtain ⟨rfl, rfl⟩ := pj2 h
      exact tm_iret rfl dX10_thing_16
  exact TMet.of (by decide) (Nat.le_of_ble_eq_true rfl) key
theorem wcX10_87 : tCB RX10 87 yX1_partAt cX1_partAt 2 (some (.object "EvenFlow$Part")) 1 ∧ Cond.methodLink RX10 87 yX1_partAt ∈ tgd ∧ Cond.instanceMethod yX1_partAt ∈ tgd ∧ Cond.selects RX1 yX1_partAt yX1_partAt ∈ tgd := ⟨⟨(tgd_t 543 (by decide +kernel) (by decide +kernel)), (tgd_t 2 (by decide +kernel) (by decide +kernel)), by decide, by decide +kernel⟩, (tgd_t 540 (by decide +kernel) (by decide +kernel)), (tgd_t 541 (by decide +kernel) (by decide +kernel)), (tgd_t 542 (by decide +kernel) (by decide +kernel))⟩
theorem wfX10_138 : Cond.fieldLink RX10 138 "EvenFlow$Part" "toldRow" "[J" ∈ tgd := (tgd_t 436 (by decide +kernel) (by decide +kernel))
abbrev iX10_row : tY := (RX10, cX10_row, 6, some .int, "row")
abbrev rmX10_row : Room := { frames := 4, cells := 0, slots := 0, locals := 87 }
def fX10_row (a1 : Int32) (a2 : Int32) (a3 : Int64) (M : tM) : Option (Int32 × tM) :=
  (fX1_partAt a1 M).bind fun r1 =>
  if r1 = none then (
  some (((-1), M))
  ) else (
  Option.bind r1 fun i4 =>
  if (mI M 7 i4 1) = 5 then (
  bnd (mR M 7 i4 9) fun r6 =>
  if r6 = none then (
  (fX10_meets 1 M).bind fun (x24, M26) =>
  some ((x24, M26))
  ) else (
  if a2 < 0 then (
  (fX10_meets 2 M).bind fun (x9, M11) =>
  some ((x9, M11))
  ) else (
  bnd (mR M 7 i4 9) fun r12 =>
  Option.bind r12 fun i13 =>
  if a2 < (nI (mN M 809 i13)) then (
  bnd (mR M 7 i4 9) fun r15 =>
  Option.bind r15 fun i16 =>
  chk (inb a2 (mN M 809 i16)) <|
  bnd (sL M 809 i16 (a2.toNatClampNeg) a3) fun M18 =>
  (fX10_toFirstMarking M18).bind fun M20 =>
  some ((1, M20))
  ) else (
  (fX10_meets 2 M).bind fun (x21, M23) =>
  some ((x21, M23))
  )
  )
  )
  ) else (
  (fX10_meets 3 M).bind fun (x27, M29) =>
  some ((x27, M29))
  )
  )
set_option maxHeartbeats 4000000 in
set_option maxRecDepth 100000 in
theorem okX10_row {g : tG} {a1 : Int32} {a2 : Int32} {a3 : Int64} {M : tM} {v : Int32} {Mz : tM} (h : fX10_row a1 a2 a3 M = some ((v, Mz))) : TMet g yX10_row (Cond.code yX10_row cX10_row 6 (some .int) :: tgd) rmX10_row [tr 10 0, ti a1, ti a2, tl a3] M (some (ti v)) Mz 0 0 := by
  have key : TW g iX10_row rmX10_row 0 0 (some (ti v)) Mz 0 0 0 [(0, tr 10 0), (1, ti a1), (2, ti a2), (3, tl a3)] [] M := by
    rw [fX10_row] at h
    refine tm_aload_n dX10_row_0 rfl rfl ?_
    refine tm_get kX10 rfl (j := 0) (by decide) wfX10_10 dX10_row_1 (v := tr 1 0) rfl ?_
    refine tm_iload_n dX10_row_4 rfl rfl ?_
    replace h := obind_some h
    obtain ⟨r1, hc2, h⟩ := h
    refine tm_callV kX1 rfl (avs := [ti a1]) (st := []) (okX1_partAt hc2) wcX10_87.1 wcX10_87.2.1 wcX10_87.2.2.1 wcX10_87.2.2.2 ⟨rfl, rfl, Nat.le_of_ble_eq_true rfl, Nat.le_of_ble_eq_true rfl⟩ rfl (Nat.le_of_ble_eq_true rfl) ⟨Nat.zero_le _, Nat.zero_le _⟩ dX10_row_5 ?_
    refine tm_astore (lc' := [(5, tq 7 r1), (0, tr 10 0), (1, ti a1), (2, ti a2), (3, tl a3)]) dX10_row_8 (by decide) rfl ?_
    refine tm_aload dX10_row_10 rfl ?_
    refine tm_ifnonnull (k2 := 7) (q := r1) (tgt := 17) dX10_row_12 (by decide) (fun c3 => ?_) (fun c3 => ?_)
    · rw [if_neg c3] at h
      refine tm_aload dX10_row_17 rfl ?_
      replace h := obind_some h
      obtain ⟨i4, ei4, h⟩ := h
      subst ei4
      refine tm_get kX7 rfl (j := 1) (by decide) wfX10_111 dX10_row_19 (v := ti (mI M 7 i4 1)) rfl ?_
      refine tm_iconst (v := 5) dX10_row_22 (by decide) ?_
      refine tm_icmp_eq (tgt := 32) dX10_row_23 (by decide) (fun c5 => ?_) (fun c5 => ?_)
      · rw [if_pos c5] at h
        refine tm_aload dX10_row_32 rfl ?_
        refine tm_get kX7 rfl (j := 9) (by decide) wfX10_138 dX10_row_34 (v := tq 809 (mR M 7 i4 9)) rfl ?_
        replace h := bnd_some h
        obtain ⟨r6, er6, h⟩ := h
        refine tm_nmQ er6 ?_
        refine tm_ifnonnull (k2 := 809) (q := r6) (tgt := 46) dX10_row_37 (by decide) (fun c7 => ?_) (fun c7 => ?_)
        · rw [if_neg c7] at h
          refine tm_iload_n dX10_row_46 rfl rfl ?_
          refine tm_if_lt (tgt := 60) dX10_row_47 (by decide) (fun c8 => ?_) (fun c8 => ?_)
          · rw [if_pos c8] at h
            refine tm_aload_n dX10_row_60 rfl rfl ?_
            refine tm_iconst (v := 2) dX10_row_61 (by decide) ?_
            replace h := obind_some h
            obtain ⟨⟨x9, M11⟩, hc10, h⟩ := h
            dsimp only at h
            refine tm_callV kX10 rfl (avs := [ti 2]) (st := []) (okX10_meets hc10) wcX10_76.1 wcX10_76.2.1 wcX10_76.2.2.1 wcX10_76.2.2.2 ⟨rfl, rfl, Nat.le_of_ble_eq_true rfl, Nat.le_of_ble_eq_true rfl⟩ rfl (Nat.le_of_ble_eq_true rfl) ⟨Nat.zero_le _, Nat.zero_le _⟩ dX10_row_62 ?_
            obtain ⟨rfl, rfl⟩ := pj2 h
            exact tm_iret rfl dX10_row_65
          · rw [if_neg c8] at h
            refine tm_iload_n dX10_row_50 rfl rfl ?_
            refine tm_aload dX10_row_51 rfl ?_
            refine tm_get kX7 rfl (j := 9) (by decide) wfX10_138 dX10_row_53 (v := tq 809 (mR M 7 i4 9)) rfl ?_
            replace h := bnd_some h
            obtain ⟨r12, er12, h⟩ := h
            refine tm_nmQ er12 ?_
            replace h := obind_some h
            obtain ⟨i13, ei13, h⟩ := h
            subst ei13
            refine tm_alen ⟨rfl, rfl⟩ dX10_row_56 ?_
            refine tm_icmp_lt (tgt := 66) dX10_row_57 (by decide) (fun c14 => ?_) (fun c14 => ?_)
            · rw [if_pos c14] at h
              refine tm_aload dX10_row_66 rfl ?_
              refine tm_get kX7 rfl (j := 9) (by decide) wfX10_138 dX10_row_68 (v := tq 809 (mR M 7 i4 9)) rfl ?_
              replace h := bnd_some h
              obtain ⟨r15, er15, h⟩ := h
              refine tm_nmQ er15 ?_
              refine tm_iload_n dX10_row_71 rfl rfl ?_
              refine tm_lload_n dX10_row_72 rfl rfl ?_
              replace h := obind_some h
              obtain ⟨i16, ei16, h⟩ := h
              subst ei16
              replace h := chk_some h
              obtain ⟨b17, h⟩ := h
              replace h := bnd_some h
              obtain ⟨M18, eM18, h⟩ := h
              refine tm_last rfl dX10_row_73 (inb_vp b17) ?_
              refine tm_nmM eM18 ?_
              refine tm_aload_n dX10_row_74 rfl rfl ?_
              replace h := obind_some h
              obtain ⟨M20, hc19, h⟩ := h
              refine tm_callV kX10 rfl (avs := []) (st := []) (okX10_toFirstMarking hc19) wcX10_135.1 wcX10_135.2.1 wcX10_135.2.2.1 wcX10_135.2.2.2 ⟨rfl, rfl, Nat.le_of_ble_eq_true rfl, Nat.le_of_ble_eq_true rfl⟩ rfl (Nat.le_of_ble_eq_true rfl) ⟨Nat.zero_le _, Nat.zero_le _⟩ dX10_row_75 ?_
              refine tm_iconst (v := 1) dX10_row_78 (by decide) ?_
              obtain ⟨rfl, rfl⟩ := pj2 h
              exact tm_iret rfl dX10_row_79
            · rw [if_neg c14] at h
              refine tm_aload_n dX10_row_60 rfl rfl ?_
              refine tm_iconst (v := 2) dX10_row_61 (by decide) ?_
              replace h := obind_some h
              obtain ⟨⟨x21, M23⟩, hc22, h⟩ := h
              dsimp only at h
              refine tm_callV kX10 rfl (avs := [ti 2]) (st := []) (okX10_meets hc22) wcX10_76.1 wcX10_76.2.1 wcX10_76.2.2.1 wcX10_76.2.2.2 ⟨rfl, rfl, Nat.le_of_ble_eq_true rfl, Nat.le_of_ble_eq_true rfl⟩ rfl (Nat.le_of_ble_eq_true rfl) ⟨Nat.zero_le _, Nat.zero_le _⟩ dX10_row_62 ?_
              obtain ⟨rfl, rfl⟩ := pj2 h
              exact tm_iret rfl dX10_row_65
        · rw [if_pos c7] at h
          refine tm_aload_n dX10_row_40 rfl rfl ?_
          refine tm_iconst (v := 1) dX10_row_41 (by decide) ?_
          replace h := obind_some h
          obtain ⟨⟨x24, M26⟩, hc25, h⟩ := h
          dsimp only at h
          refine tm_callV kX10 rfl (avs := [ti 1]) (st := []) (okX10_meets hc25) wcX10_76.1 wcX10_76.2.1 wcX10_76.2.2.1 wcX10_76.2.2.2 ⟨rfl, rfl, Nat.le_of_ble_eq_true rfl, Nat.le_of_ble_eq_true rfl⟩ rfl (Nat.le_of_ble_eq_true rfl) ⟨Nat.zero_le _, Nat.zero_le _⟩ dX10_row_42 ?_
          obtain ⟨rfl, rfl⟩ := pj2 h
          exact tm_iret rfl dX10_row_45
      · rw [if_neg c5] at h
        refine tm_aload_n dX10_row_26 rfl rfl ?_
        refine tm_iconst (v := 3) dX10_row_27 (by decide) ?_
        replace h := obind_some h
        obtain ⟨⟨x27, M29⟩, hc28, h⟩ := h
        dsimp only at h
        refine tm_callV kX10 rfl (avs := [ti 3]) (st := []) (okX10_meets hc28) wcX10_76.1 wcX10_76.2.1 wcX10_76.2.2.1 wcX10_76.2.2.2 ⟨rfl, rfl, Nat.le_of_ble_eq_true rfl, Nat.le_of_ble_eq_true rfl⟩ rfl (Nat.le_of_ble_eq_true rfl) ⟨Nat.zero_le _, Nat.zero_le _⟩ dX10_row_28 ?_
        obtain ⟨rfl, rfl⟩ := pj2 h
        exact tm_iret rfl dX10_row_31
    · rw [if_pos c3] at h
      refine tm_iconst (v := (-1)) dX10_row_15 (by decide) ?_
      obtain ⟨rfl, rfl⟩ := pj2 h
      exact tm_iret rfl dX10_row_16
  exact TMet.of (by decide) (Nat.le_of_ble_eq_true rfl) key
abbrev iX10_hasPlaces : tY := (RX10, cX10_hasPlaces, 3, some .boolean, "hasPlaces")
abbrev rmX10_hasPlaces : Room := { frames := 0, cells := 0, slots := 0, locals := 0 }
def fX10_hasPlaces (k1 : Nat) (a1 : Nat) (a2 : Int32) (a3 : Int32) (M : tM) : Option (Int32) :=
  if a2 < 0 then (
  some 0
  ) else (
  if a3 < 0 then (
  some 0
  ) else (
  chk (decide (tO k1 = none)) <|
  chk (!tRO k1) <|
  if (nI (mN M k1 a1)) < a2 then (
  some 0
  ) else (
  chk (decide (tO k1 = none)) <|
  chk (!tRO k1) <|
  if ((nI (mN M k1 a1)) - a2) < a3 then (
  some 0
  ) else (
  some 1
  )
  )
  )
  )
set_option maxHeartbeats 4000000 in
set_option maxRecDepth 100000 in
theorem okX10_hasPlaces {g : tG} {k1 : Nat} {a1 : Nat} {a2 : Int32} {a3 : Int32} {M : tM} {v : Int32} (h : fX10_hasPlaces k1 a1 a2 a3 M = some v) : TMet g yX10_hasPlaces (Cond.code yX10_hasPlaces cX10_hasPlaces 3 (some .boolean) :: tgd) rmX10_hasPlaces [tr k1 a1, ti a2, ti a3] M (some (ti v)) M 0 0 := by
  have key : TW g iX10_hasPlaces rmX10_hasPlaces 0 0 (some (ti v)) M 0 0 0 [(0, tr k1 a1), (1, ti a2), (2, ti a3)] [] M := by
    rw [fX10_hasPlaces] at h
    refine tm_iload_n dX10_hasPlaces_0 rfl rfl ?_
    refine tm_if_lt (tgt := 26) dX10_hasPlaces_1 (by decide) (fun c1 => ?_) (fun c1 => ?_)
    · rw [if_pos c1] at h
      refine tm_iconst (v := 0) dX10_hasPlaces_26 (by decide) ?_
      obtain rfl := Option.some.inj h
      exact tm_zret (by decide) rfl dX10_hasPlaces_27
    · rw [if_neg c1] at h
      refine tm_iload_n dX10_hasPlaces_4 rfl rfl ?_
      refine tm_if_lt (tgt := 26) dX10_hasPlaces_5 (by decide) (fun c2 => ?_) (fun c2 => ?_)
      · rw [if_pos c2] at h
        refine tm_iconst (v := 0) dX10_hasPlaces_26 (by decide) ?_
        obtain rfl := Option.some.inj h
        exact tm_zret (by decide) rfl dX10_hasPlaces_27
      · rw [if_neg c2] at h
        refine tm_iload_n dX10_hasPlaces_8 rfl rfl ?_
        refine tm_aload_n dX10_hasPlaces_9 rfl rfl ?_
        replace h := chk_some h
        obtain ⟨b3, h⟩ := h
        replace h := chk_some h
        obtain ⟨b4, h⟩ := h
        refine tm_alen ⟨(of_decide_eq_true b3), (by simpa using b4)⟩ dX10_hasPlaces_10 ?_
        refine tm_icmp_gt (tgt := 26) dX10_hasPlaces_11 (by decide) (fun c5 => ?_) (fun c5 => ?_)
        · rw [if_pos c5] at h
          refine tm_iconst (v := 0) dX10_hasPlaces_26 (by decide) ?_
          obtain rfl := Option.some.inj h
          exact tm_zret (by decide) rfl dX10_hasPlaces_27
        · rw [if_neg c5] at h
          refine tm_iload_n dX10_hasPlaces_14 rfl rfl ?_
          refine tm_aload_n dX10_hasPlaces_15 rfl rfl ?_
          replace h := chk_some h
          obtain ⟨b6, h⟩ := h
          replace h := chk_some h
          obtain ⟨b7, h⟩ := h
          refine tm_alen ⟨(of_decide_eq_true b6), (by simpa using b7)⟩ dX10_hasPlaces_16 ?_
          refine tm_iload_n dX10_hasPlaces_17 rfl rfl ?_
          refine tm_isub dX10_hasPlaces_18 ?_
          refine tm_icmp_gt (tgt := 26) dX10_hasPlaces_19 (by decide) (fun c8 => ?_) (fun c8 => ?_)
          · rw [if_pos c8] at h
            refine tm_iconst (v := 0) dX10_hasPlaces_26 (by decide) ?_
            obtain rfl := Option.some.inj h
            exact tm_zret (by decide) rfl dX10_hasPlaces_27
          · rw [if_neg c8] at h
            refine tm_iconst (v := 1) dX10_hasPlaces_22 (by decide) ?_
            refine tm_goto (tgt := 27) dX10_hasPlaces_23 (by decide) ?_
            obtain rfl := Option.some.inj h
            exact tm_zret (by decide) rfl dX10_hasPlaces_27
  exact TMet.of (by decide) (Nat.le_of_ble_eq_true rfl) key
