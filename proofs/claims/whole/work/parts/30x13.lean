theorem wcX10_184 : tCB RX10 184 yX10_noSchedule cX10_noSchedule 2 (some .int) 0 ∧ Cond.methodLink RX10 184 yX10_noSchedule ∈ tgd ∧ Cond.instanceMethod yX10_noSchedule ∈ tgd ∧ Cond.selects RX10 yX10_noSchedule yX10_noSchedule ∈ tgd := ⟨⟨(tgd_t 826 (by decide +kernel) (by decide +kernel)), (tgd_t 1 (by decide +kernel) (by decide +kernel)), by decide, by decide +kernel⟩, (tgd_t 823 (by decide +kernel) (by decide +kernel)), (tgd_t 825 (by decide +kernel) (by decide +kernel)), (tgd_p 16 (by decide +kernel) (by decide +kernel))⟩
theorem wcX10_187 : tCB RX10 187 yX8_goByRule cX8_goByRule 4 (some .int) 1 ∧ Cond.methodLink RX10 187 yX8_goByRule ∈ tgd ∧ Cond.instanceMethod yX8_goByRule ∈ tgd ∧ Cond.selects RX8 yX8_goByRule yX8_goByRule ∈ tgd := ⟨⟨(tgd_t 830 (by decide +kernel) (by decide +kernel)), (tgd_t 4 (by decide +kernel) (by decide +kernel)), by decide, by decide +kernel⟩, (tgd_t 827 (by decide +kernel) (by decide +kernel)), (tgd_t 828 (by decide +kernel) (by decide +kernel)), (tgd_t 829 (by decide +kernel) (by decide +kernel))⟩
abbrev iX10_schedule : tY := (RX10, cX10_schedule, 3, some .int, "schedule")
abbrev rmX10_schedule : Room := { frames := 6, cells := 0, slots := 0, locals := 147 }
def fX10_schedule (a1 : Int32) (M : tM) : Option (Int32 × tM) :=
  if a1 < 0 then (
  some (((-1), M))
  ) else (
  if a1 ≤ 2 then (
  (fX10_noSchedule M).bind fun (x3, M5) =>
  if x3 = 0 then (
  (fX8_goByRule a1 M5).bind fun (x7, M9) =>
  some ((x7, M9))
  ) else (
  some ((x3, M5))
  )
  ) else (
  some (((-1), M))
  )
  )
set_option maxHeartbeats 4000000 in
set_option maxRecDepth 100000 in
theorem okX10_schedule {g : tG} {a1 : Int32} {M : tM} {v : Int32} {Mz : tM} (h : fX10_schedule a1 M = some ((v, Mz))) : TMet g yX10_schedule (Cond.code yX10_schedule cX10_schedule 3 (some .int) :: tgd) rmX10_schedule [tr 10 0, ti a1] M (some (ti v)) Mz 0 0 := by
  have key : TW g iX10_schedule rmX10_schedule 0 0 (some (ti v)) Mz 0 0 0 [(0, tr 10 0), (1, ti a1)] [] M := by
    rw [fX10_schedule] at h
    refine tm_iload_n dX10_schedule_0 rfl rfl ?_
    refine tm_if_lt (tgt := 9) dX10_schedule_1 (by decide) (fun c1 => ?_) (fun c1 => ?_)
    · rw [if_pos c1] at h
      refine tm_iconst (v := (-1)) dX10_schedule_9 (by decide) ?_
      obtain ⟨rfl, rfl⟩ := pj2 h
      exact tm_iret rfl dX10_schedule_10
    · rw [if_neg c1] at h
      refine tm_iload_n dX10_schedule_4 rfl rfl ?_
      refine tm_iconst (v := 2) dX10_schedule_5 (by decide) ?_
      refine tm_icmp_le (tgt := 11) dX10_schedule_6 (by decide) (fun c2 => ?_) (fun c2 => ?_)
      · rw [if_pos c2] at h
        refine tm_aload_n dX10_schedule_11 rfl rfl ?_
        replace h := obind_some h
        obtain ⟨⟨x3, M5⟩, hc4, h⟩ := h
        dsimp only at h
        refine tm_callV kX10 rfl (avs := []) (st := []) (okX10_noSchedule hc4) wcX10_184.1 wcX10_184.2.1 wcX10_184.2.2.1 wcX10_184.2.2.2 ⟨rfl, rfl, Nat.le_of_ble_eq_true rfl, Nat.le_of_ble_eq_true rfl⟩ rfl (Nat.le_of_ble_eq_true rfl) ⟨Nat.zero_le _, Nat.zero_le _⟩ dX10_schedule_12 ?_
        refine tm_istore_n (lc' := [(2, ti x3), (0, tr 10 0), (1, ti a1)]) dX10_schedule_15 rfl (by decide) rfl ?_
        refine tm_iload_n dX10_schedule_16 rfl rfl ?_
        refine tm_if_eq (tgt := 24) dX10_schedule_17 (by decide) (fun c6 => ?_) (fun c6 => ?_)
        · rw [if_pos c6] at h
          refine tm_aload_n dX10_schedule_24 rfl rfl ?_
          refine tm_get kX10 rfl (j := 1) (by decide) wfX10_26 dX10_schedule_25 (v := tr 8 0) rfl ?_
          refine tm_iload_n dX10_schedule_28 rfl rfl ?_
          replace h := obind_some h
          obtain ⟨⟨x7, M9⟩, hc8, h⟩ := h
          dsimp only at h
          refine tm_callV kX8 rfl (avs := [ti a1]) (st := []) (okX8_goByRule hc8) wcX10_187.1 wcX10_187.2.1 wcX10_187.2.2.1 wcX10_187.2.2.2 ⟨rfl, rfl, Nat.le_of_ble_eq_true rfl, Nat.le_of_ble_eq_true rfl⟩ rfl (Nat.le_of_ble_eq_true rfl) ⟨Nat.zero_le _, Nat.zero_le _⟩ dX10_schedule_29 ?_
          obtain ⟨rfl, rfl⟩ := pj2 h
          exact tm_iret rfl dX10_schedule_32
        · rw [if_neg c6] at h
          refine tm_iload_n dX10_schedule_20 rfl rfl ?_
          refine tm_goto (tgt := 32) dX10_schedule_21 (by decide) ?_
          obtain ⟨rfl, rfl⟩ := pj2 h
          exact tm_iret rfl dX10_schedule_32
      · rw [if_neg c2] at h
        refine tm_iconst (v := (-1)) dX10_schedule_9 (by decide) ?_
        obtain ⟨rfl, rfl⟩ := pj2 h
        exact tm_iret rfl dX10_schedule_10
  exact TMet.of (by decide) (Nat.le_of_ble_eq_true rfl) key
theorem wfX10_40 : Cond.fieldLink RX10 40 "EvenFlow" "search" "LEvenFlow$Least;" ∈ tgd := (tgd_t 346 (by decide +kernel) (by decide +kernel))
theorem wfX10_201 : Cond.fieldLink RX10 201 "EvenFlow$Least" "tryCount" "I" ∈ tgd := (tgd_t 205 (by decide +kernel) (by decide +kernel))
abbrev iX10_tries : tY := (RX10, cX10_tries, 1, some .int, "tries")
abbrev rmX10_tries : Room := { frames := 0, cells := 0, slots := 0, locals := 0 }
def fX10_tries  (M : tM) : Option (Int32) :=
  some (mI M 3 0 3)
set_option maxHeartbeats 4000000 in
set_option maxRecDepth 100000 in
theorem okX10_tries {g : tG}  {M : tM} {v : Int32} (h : fX10_tries  M = some v) : TMet g yX10_tries (Cond.code yX10_tries cX10_tries 1 (some .int) :: tgd) rmX10_tries [tr 10 0] M (some (ti v)) M 0 0 := by
  have key : TW g iX10_tries rmX10_tries 0 0 (some (ti v)) M 0 0 0 [(0, tr 10 0)] [] M := by
    rw [fX10_tries] at h
    refine tm_aload_n dX10_tries_0 rfl rfl ?_
    refine tm_get kX10 rfl (j := 3) (by decide) wfX10_40 dX10_tries_1 (v := tr 3 0) rfl ?_
    refine tm_get kX3 rfl (j := 3) (by decide) wfX10_201 dX10_tries_4 (v := ti (mI M 3 0 3)) rfl ?_
    obtain rfl := Option.some.inj h
    exact tm_iret rfl dX10_tries_7
  exact TMet.of (by decide) (Nat.le_of_ble_eq_true rfl) key
theorem wcX10_216 : tCB RX10 216 yX6_itemAt cX6_itemAt 2 (some .int) 1 ∧ Cond.methodLink RX10 216 yX6_itemAt ∈ tgd ∧ Cond.instanceMethod yX6_itemAt ∈ tgd ∧ Cond.selects RX6 yX6_itemAt yX6_itemAt ∈ tgd := ⟨⟨(tgd_t 966 (by decide +kernel) (by decide +kernel)), (tgd_t 7 (by decide +kernel) (by decide +kernel)), by decide, by decide +kernel⟩, (tgd_t 963 (by decide +kernel) (by decide +kernel)), (tgd_t 964 (by decide +kernel) (by decide +kernel)), (tgd_t 965 (by decide +kernel) (by decide +kernel))⟩
abbrev iX10_bracket : tY := (RX10, cX10_bracket, 2, some .int, "bracket")
abbrev rmX10_bracket : Room := { frames := 1, cells := 0, slots := 0, locals := 21 }
def fX10_bracket (a1 : Int32) (M : tM) : Option (Int32) :=
  (fX6_itemAt a1 M).bind fun x1 =>
  some x1
set_option maxHeartbeats 4000000 in
set_option maxRecDepth 100000 in
theorem okX10_bracket {g : tG} {a1 : Int32} {M : tM} {v : Int32} (h : fX10_bracket a1 M = some v) : TMet g yX10_bracket (Cond.code yX10_bracket cX10_bracket 2 (some .int) :: tgd) rmX10_bracket [tr 10 0, ti a1] M (some (ti v)) M 0 0 := by
  have key : TW g iX10_bracket rmX10_bracket 0 0 (some (ti v)) M 0 0 0 [(0, tr 10 0), (1, ti a1)] [] M := by
    rw [fX10_bracket] at h
    refine tm_aload_n dX10_bracket_0 rfl rfl ?_
    refine tm_get kX10 rfl (j := 4) (by decide) wfX10_47 dX10_bracket_1 (v := tr 6 0) rfl ?_
    refine tm_iload_n dX10_bracket_4 rfl rfl ?_
    replace h := obind_some h
    obtain ⟨x1, hc2, h⟩ := h
    refine tm_callV kX6 rfl (avs := [ti a1]) (st := []) (okX6_itemAt hc2) wcX10_216.1 wcX10_216.2.1 wcX10_216.2.2.1 wcX10_216.2.2.2 ⟨rfl, rfl, Nat.le_of_ble_eq_true rfl, Nat.le_of_ble_eq_true rfl⟩ rfl (Nat.le_of_ble_eq_true rfl) ⟨Nat.zero_le _, Nat.zero_le _⟩ dX10_bracket_5 ?_
    obtain rfl := Option.some.inj h
    exact tm_iret rfl dX10_bracket_8
  exact TMet.of (by decide) (Nat.le_of_ble_eq_true rfl) key
theorem wcX10_219 : tCB RX10 219 yX8_has cX8_has 2 (some .boolean) 1 ∧ Cond.methodLink RX10 219 yX8_has ∈ tgd ∧ Cond.instanceMethod yX8_has ∈ tgd ∧ Cond.selects RX8 yX8_has yX8_has ∈ tgd := ⟨⟨(tgd_t 974 (by decide +kernel) (by decide +kernel)), (tgd_t 4 (by decide +kernel) (by decide +kernel)), by decide, by decide +kernel⟩, (tgd_t 971 (by decide +kernel) (by decide +kernel)), (tgd_t 972 (by decide +kernel) (by decide +kernel)), (tgd_t 973 (by decide +kernel) (by decide +kernel))⟩
theorem wfX10_210 : Cond.fieldLink RX10 210 "EvenFlow$Plan" "row" "[I" ∈ tgd := (tgd_t 149 (by decide +kernel) (by decide +kernel))
abbrev iX10_firing : tY := (RX10, cX10_firing, 2, some .int, "firing")
abbrev rmX10_firing : Room := { frames := 1, cells := 0, slots := 0, locals := 21 }
def fX10_firing (a1 : Int32) (M : tM) : Option (Int32) :=
  (fX8_has a1 M).bind fun x1 =>
  if x1 = 0 then (
  some (-9)
  ) else (
  chk (inb a1 (mN M 902 0)) <|
  some (mI M 902 0 (a1.toNatClampNeg))
  )
set_option maxHeartbeats 4000000 in
set_option maxRecDepth 100000 in
theorem okX10_firing {g : tG} {a1 : Int32} {M : tM} {v : Int32} (h : fX10_firing a1 M = some v) : TMet g yX10_firing (Cond.code yX10_firing cX10_firing 2 (some .int) :: tgd) rmX10_firing [tr 10 0, ti a1] M (some (ti v)) M 0 0 := by
  have key : TW g iX10_firing rmX10_firing 0 0 (some (ti v)) M 0 0 0 [(0, tr 10 0), (1, ti a1)] [] M := by
    rw [fX10_firing] at h
    refine tm_aload_n dX10_firing_0 rfl rfl ?_
    refine tm_get kX10 rfl (j := 1) (by decide) wfX10_26 dX10_firing_1 (v := tr 8 0) rfl ?_
    refine tm_iload_n dX10_firing_4 rfl rfl ?_
    replace h := obind_some h
    obtain ⟨x1, hc2, h⟩ := h
    refine tm_callV kX8 rfl (avs := [ti a1]) (st := []) (okX8_has hc2) wcX10_219.1 wcX10_219.2.1 wcX10_219.2.2.1 wcX10_219.2.2.2 ⟨rfl, rfl, Nat.le_of_ble_eq_true rfl, Nat.le_of_ble_eq_true rfl⟩ rfl (Nat.le_of_ble_eq_true rfl) ⟨Nat.zero_le _, Nat.zero_le _⟩ dX10_firing_5 ?_
    refine tm_if_eq (tgt := 23) dX10_firing_8 (by decide) (fun c3 => ?_) (fun c3 => ?_)
    · rw [if_pos c3] at h
      refine tm_bipush (v := (-9)) dX10_firing_23 (by decide) ?_
      obtain rfl := Option.some.inj h
      exact tm_iret rfl dX10_firing_25
    · rw [if_neg c3] at h
      refine tm_aload_n dX10_firing_11 rfl rfl ?_
      refine tm_get kX10 rfl (j := 1) (by decide) wfX10_26 dX10_firing_12 (v := tr 8 0) rfl ?_
      refine tm_get kX8 rfl (j := 2) (by decide) wfX10_210 dX10_firing_15 (v := tr 902 0) rfl ?_
      refine tm_iload_n dX10_firing_18 rfl rfl ?_
      replace h := chk_some h
      obtain ⟨b4, h⟩ := h
      refine tm_iald rfl dX10_firing_19 (inb_vp b4) ?_
      refine tm_goto (tgt := 25) dX10_firing_20 (by decide) ?_
      obtain rfl := Option.some.inj h
      exact tm_iret rfl dX10_firing_25
  exact TMet.of (by decide) (Nat.le_of_ble_eq_true rfl) key
theorem wfX10_222 : Cond.fieldLink RX10 222 "EvenFlow$Plan" "length" "I" ∈ tgd := (tgd_t 151 (by decide +kernel) (by decide +kernel))
theorem wfX10_225 : Cond.fieldLink RX10 225 "EvenFlow$Plan" "stores" "[I" ∈ tgd := (tgd_t 153 (by decide +kernel) (by decide +kernel))
abbrev iX10_store : tY := (RX10, cX10_store, 2, some .int, "store")
abbrev rmX10_store : Room := { frames := 1, cells := 0, slots := 0, locals := 21 }
def fX10_store (a1 : Int32) (M : tM) : Option (Int32) :=
  (fX1_lineAt a1 M).bind fun r1 =>
  if r1 = none then (
  some (-1)
  ) else (
  if (mI M 8 0 3) = 0 then (
  some (-9)
  ) else (
  chk (inb a1 (mN M 904 0)) <|
  some (mI M 904 0 (a1.toNatClampNeg))
  )
  )
set_option maxHeartbeats 4000000 in
set_option maxRecDepth 100000 in
theorem okX10_store {g : tG} {a1 : Int32} {M : tM} {v : Int32} (h : fX10_store a1 M = some v) : TMet g yX10_store (Cond.code yX10_store cX10_store 2 (some .int) :: tgd) rmX10_store [tr 10 0, ti a1] M (some (ti v)) M 0 0 := by
  have key : TW g iX10_store rmX10_store 0 0 (some (ti v)) M 0 0 0 [(0, tr 10 0), (1, ti a1)] [] M := by
    rw [fX10_store] at h
    refine tm_aload_n dX10_store_0 rfl rfl ?_
    refine tm_get kX10 rfl (j := 0) (by decide) wfX10_10 dX10_store_1 (v := tr 1 0) rfl ?_
    refine tm_iload_n dX10_store_4 rfl rfl ?_
    replace h := obind_some h
    obtain ⟨r1, hc2, h⟩ := h
    refine tm_callV kX1 rfl (avs := [ti a1]) (st := []) (okX1_lineAt hc2) wcX10_98.1 wcX10_98.2.1 wcX10_98.2.2.1 wcX10_98.2.2.2 ⟨rfl, rfl, Nat.le_of_ble_eq_true rfl, Nat.le_of_ble_eq_true rfl⟩ rfl (Nat.le_of_ble_eq_true rfl) ⟨Nat.zero_le _, Nat.zero_le _⟩ dX10_store_5 ?_
    refine tm_ifnonnull (k2 := 4) (q := r1) (tgt := 13) dX10_store_8 (by decide) (fun c3 => ?_) (fun c3 => ?_)
    · rw [if_neg c3] at h
      refine tm_aload_n dX10_store_13 rfl rfl ?_
      refine tm_get kX10 rfl (j := 1) (by decide) wfX10_26 dX10_store_14 (v := tr 8 0) rfl ?_
      refine tm_get kX8 rfl (j := 3) (by decide) wfX10_222 dX10_store_17 (v := ti (mI M 8 0 3)) rfl ?_
      refine tm_if_ne (tgt := 28) dX10_store_20 (by decide) (fun c4 => ?_) (fun c4 => ?_)
      · rw [if_neg c4] at h
        refine tm_aload_n dX10_store_28 rfl rfl ?_
        refine tm_get kX10 rfl (j := 1) (by decide) wfX10_26 dX10_store_29 (v := tr 8 0) rfl ?_
        refine tm_get kX8 rfl (j := 4) (by decide) wfX10_225 dX10_store_32 (v := tr 904 0) rfl ?_
        refine tm_iload_n dX10_store_35 rfl rfl ?_
        replace h := chk_some h
        obtain ⟨b5, h⟩ := h
        refine tm_iald rfl dX10_store_36 (inb_vp b5) ?_
        obtain rfl := Option.some.inj h
        exact tm_iret rfl dX10_store_37
      · rw [if_pos c4] at h
        refine tm_bipush (v := (-9)) dX10_store_23 (by decide) ?_
        refine tm_goto (tgt := 37) dX10_store_25 (by decide) ?_
        obtain rfl := Option.some.inj h
        exact tm_iret rfl dX10_store_37
    · rw [if_pos c3] at h
      refine tm_iconst (v := (-1)) dX10_store_11 (by decide) ?_
      obtain rfl := Option.some.inj h
      exact tm_iret rfl dX10_store_12
  exact TMet.of (by decide) (Nat.le_of_ble_eq_true rfl) key
theorem wcX10_228 : tCB RX10 228 yX8_onLineBehind cX8_onLineBehind 7 (some .int) 2 ∧ Cond.methodLink RX10 228 yX8_onLineBehind ∈ tgd ∧ Cond.instanceMethod yX8_onLineBehind ∈ tgd ∧ Cond.selects RX8 yX8_onLineBehind yX8_onLineBehind ∈ tgd := ⟨⟨(tgd_t 986 (by decide +kernel) (by decide +kernel)), (tgd_t 4 (by decide +kernel) (by decide +kernel)), by decide, by decide +kernel⟩, (tgd_t 983 (by decide +kernel) (by decide +kernel)), (tgd_t 984 (by decide +kernel) (by decide +kernel)), (tgd_t 985 (by decide +kernel) (by decide +kernel))⟩
abbrev iX10_marking : tY := (RX10, cX10_marking, 4, some .int, "marking")
abbrev rmX10_marking : Room := { frames := 2, cells := 0, slots := 0, locals := 47 }
def fX10_marking (a1 : Int32) (a2 : Int32) (M : tM) : Option (Int32) :=
  (fX1_lineAt a2 M).bind fun r1 =>
  if r1 = none then (
  some (-1)
  ) else (
  if (mI M 8 0 3) = 0 then (
  some (-9)
  ) else (
  if a1 < 0 then (
  some (-9)
  ) else (
  if a1 ≤ (mI M 8 0 3) then (
  (fX8_onLineBehind r1 a1 M).bind fun x7 =>
  some x7
  ) else (
  some (-9)
  )
  )
  )
  )
set_option maxHeartbeats 4000000 in
set_option maxRecDepth 100000 in
theorem okX10_marking {g : tG} {a1 : Int32} {a2 : Int32} {M : tM} {v : Int32} (h : fX10_marking a1 a2 M = some v) : TMet g yX10_marking (Cond.code yX10_marking cX10_marking 4 (some .int) :: tgd) rmX10_marking [tr 10 0, ti a1, ti a2] M (some (ti v)) M 0 0 := by
  have key : TW g iX10_marking rmX10_marking 0 0 (some (ti v)) M 0 0 0 [(0, tr 10 0), (1, ti a1), (2, ti a2)] [] M := by
    rw [fX10_marking] at h
    refine tm_aload_n dX10_marking_0 rfl rfl ?_
    refine tm_get kX10 rfl (j := 0) (by decide) wfX10_10 dX10_marking_1 (v := tr 1 0) rfl ?_
    refine tm_iload_n dX10_marking_4 rfl rfl ?_
    replace h := obind_some h
    obtain ⟨r1, hc2, h⟩ := h
    refine tm_callV kX1 rfl (avs := [ti a2]) (st := []) (okX1_lineAt hc2) wcX10_98.1 wcX10_98.2.1 wcX10_98.2.2.1 wcX10_98.2.2.2 ⟨rfl, rfl, Nat.le_of_ble_eq_true rfl, Nat.le_of_ble_eq_true rfl⟩ rfl (Nat.le_of_ble_eq_true rfl) ⟨Nat.zero_le _, Nat.zero_le _⟩ dX10_marking_5 ?_
    refine tm_astore_n (lc' := [(3, tq 4 r1), (0, tr 10 0), (1, ti a1), (2, ti a2)]) dX10_marking_8 rfl (by decide) rfl ?_
    refine tm_aload_n dX10_marking_9 rfl rfl ?_
    refine tm_ifnonnull (k2 := 4) (q := r1) (tgt := 15) dX10_marking_10 (by decide) (fun c3 => ?_) (fun c3 => ?_)
    · rw [if_neg c3] at h
      refine tm_aload_n dX10_marking_15 rfl rfl ?_
      refine tm_get kX10 rfl (j := 1) (by decide) wfX10_26 dX10_marking_16 (v := tr 8 0) rfl ?_
      refine tm_get kX8 rfl (j := 3) (by decide) wfX10_222 dX10_marking_19 (v := ti (mI M 8 0 3)) rfl ?_
      refine tm_if_eq (tgt := 40) dX10_marking_22 (by decide) (fun c4 => ?_) (fun c4 => ?_)
      · rw [if_pos c4] at h
        refine tm_bipush (v := (-9)) dX10_marking_40 (by decide) ?_
        obtain rfl := Option.some.inj h
        exact tm_iret rfl dX10_marking_42
      · rw [if_neg c4] at h
        refine tm_iload_n dX10_marking_25 rfl rfl ?_
        refine tm_if_lt (tgt := 40) dX10_marking_26 (by decide) (fun c5 => ?_) (fun c5 => ?_)
        · rw [if_pos c5] at h
          refine tm_bipush (v := (-9)) dX10_marking_40 (by decide) ?_
          obtain rfl := Option.some.inj h
          exact tm_iret rfl dX10_marking_42
        · rw [if_neg c5] at h
          refine tm_iload_n dX10_marking_29 rfl rfl ?_
          refine tm_aload_n dX10_marking_30 rfl rfl ?_
          refine tm_get kX10 rfl (j := 1) (by decide) wfX10_26 dX10_marking_31 (v := tr 8 0) rfl ?_
          refine tm_get kX8 rfl (j := 3) (by decide) wfX10_222 dX10_marking_34 (v := ti (mI M 8 0 3)) rfl ?_
          refine tm_icmp_le (tgt := 43) dX10_marking_37 (by decide) (fun c6 => ?_) (fun c6 => ?_)
          · rw [if_pos c6] at h
            refine tm_aload_n dX10_marking_43 rfl rfl ?_
            refine tm_get kX10 rfl (j := 1) (by decide) wfX10_26 dX10_marking_44 (v := tr 8 0) rfl ?_
            refine tm_aload_n dX10_marking_47 rfl rfl ?_
            refine tm_iload_n dX10_marking_48 rfl rfl ?_
            replace h := obind_some h
            obtain ⟨x7, hc8, h⟩ := h
            refine tm_callV kX8 rfl (avs := [tq 4 r1, ti a1]) (st := []) (okX8_onLineBehind hc8) wcX10_228.1 wcX10_228.2.1 wcX10_228.2.2.1 wcX10_228.2.2.2 ⟨rfl, rfl, Nat.le_of_ble_eq_true rfl, Nat.le_of_ble_eq_true rfl⟩ rfl (Nat.le_of_ble_eq_true rfl) ⟨Nat.zero_le _, Nat.zero_le _⟩ dX10_marking_49 ?_
            obtain rfl := Option.some.inj h
            exact tm_iret rfl dX10_marking_52
          · rw [if_neg c6] at h
            refine tm_bipush (v := (-9)) dX10_marking_40 (by decide) ?_
            obtain rfl := Option.some.inj h
            exact tm_iret rfl dX10_marking_42
    · rw [if_pos c3] at h
      refine tm_iconst (v := (-1)) dX10_marking_13 (by decide) ?_
      obtain rfl := Option.some.inj h
      exact tm_iret rfl dX10_marking_14
  exact TMet.of (by decide) (Nat.le_of_ble_eq_true rfl) key
theorem wfX10_65 : Cond.fieldLink RX10 65 "EvenFlow" "drafted" "[I" ∈ tgd := (tgd_t 350 (by decide +kernel) (by decide +kernel))
theorem wfX10_232 : Cond.fieldLink RX10 232 "EvenFlow" "draftLength" "I" ∈ tgd := (tgd_t 351 (by decide +kernel) (by decide +kernel))
abbrev iX10_draft : tY := (RX10, cX10_draft, 2, some .int, "draft")
abbrev rmX10_draft : Room := { frames := 1, cells := 0, slots := 0, locals := 21 }
def fX10_draft (a1 : Int32) (M : tM) : Option (Int32 × tM) :=
  (fX1_partAt a1 M).bind fun r1 =>
  if r1 = none then (
  some (((-1), M))
  ) else (
  if (mI M 10 0 8) < 200 then (
  chk (inb (mI M 10 0 8) (mN M 1107 0)) <|
  bnd (sI M 1107 0 ((mI M 10 0 8).toNatClampNeg) a1) fun M6 =>
  bnd (sI M6 10 0 8 ((mI M6 10 0 8) + 1)) fun M7 =>
  some ((mI M7 10 0 8, M7))
  ) else (
  some (((-2), M))
  )
  )
set_option maxHeartbeats 4000000 in
set_option maxRecDepth 100000 in
theorem okX10_draft {g : tG} {a1 : Int32} {M : tM} {v : Int32} {Mz : tM} (h : fX10_draft a1 M = some ((v, Mz))) : TMet g yX10_draft (Cond.code yX10_draft cX10_draft 2 (some .int) :: tgd) rmX10_draft [tr 10 0, ti a1] M (some (ti v)) Mz 0 0 := by
  have key : TW g iX10_draft rmX10_draft 0 0 (some (ti v)) Mz 0 0 0 [(0, tr 10 0), (1, ti a1)] [] M := by
    rw [fX10_draft] at h
    refine tm_aload_n dX10_draft_0 rfl rfl ?_
    refine tm_get kX10 rfl (j := 0) (by decide) wfX10_10 dX10_draft_1 (v := tr 1 0) rfl ?_
    refine tm_iload_n dX10_draft_4 rfl rfl ?_
    replace h := obind_some h
    obtain ⟨r1, hc2, h⟩ := h
    refine tm_callV kX1 rfl (avs := [ti a1]) (st := []) (okX1_partAt hc2) wcX10_87.1 wcX10_87.2.1 wcX10_87.2.2.1 wcX10_87.2.2.2 ⟨rfl, rfl, Nat.le_of_ble_eq_true rfl, Nat.le_of_ble_eq_true rfl⟩ rfl (Nat.le_of_ble_eq_true rfl) ⟨Nat.zero_le _, Nat.zero_le _⟩ dX10_draft_5 ?_
    refine tm_ifnonnull (k2 := 7) (q := r1) (tgt := 13) dX10_draft_8 (by decide) (fun c3 => ?_) (fun c3 => ?_)
    · rw [if_neg c3] at h
      refine tm_aload_n dX10_draft_13 rfl rfl ?_
      refine tm_get kX10 rfl (j := 8) (by decide) wfX10_232 dX10_draft_14 (v := ti (mI M 10 0 8)) rfl ?_
      refine tm_sipush (v := 200) dX10_draft_17 (by decide) ?_
      refine tm_icmp_lt (tgt := 26) dX10_draft_20 (by decide) (fun c4 => ?_) (fun c4 => ?_)
      · rw [if_pos c4] at h
        refine tm_aload_n dX10_draft_26 rfl rfl ?_
        refine tm_get kX10 rfl (j := 7) (by decide) wfX10_65 dX10_draft_27 (v := tr 1107 0) rfl ?_
        refine tm_aload_n dX10_draft_30 rfl rfl ?_
        refine tm_get kX10 rfl (j := 8) (by decide) wfX10_232 dX10_draft_31 (v := ti (mI M 10 0 8)) rfl ?_
        refine tm_iload_n dX10_draft_34 rfl rfl ?_
        replace h := chk_some h
        obtain ⟨b5, h⟩ := h
        replace h := bnd_some h
        obtain ⟨M6, eM6, h⟩ := h
        refine tm_iast rfl dX10_draft_35 (inb_vp b5) ?_
        refine tm_nmM eM6 ?_
        refine tm_aload_n dX10_draft_36 rfl rfl ?_
        refine tm_dup dX10_draft_37 rfl ?_
        refine tm_get kX10 rfl (j := 8) (by decide) wfX10_232 dX10_draft_38 (v := ti (mI M6 10 0 8)) rfl ?_
        refine tm_iconst (v := 1) dX10_draft_41 (by decide) ?_
        refine tm_iadd dX10_draft_42 ?_
        replace h := bnd_some h
        obtain ⟨M7, eM7, h⟩ := h
        refine tm_put kX10 rfl (j := 8) (by decide) wfX10_232 rfl dX10_draft_43 (fun _ => ⟨rfl, rfl⟩) (tPut_I ((mI M6 10 0 8) + 1) rfl) ?_
        refine tm_nmM eM7 ?_
        refine tm_aload_n dX10_draft_46 rfl rfl ?_
        refine tm_get kX10 rfl (j := 8) (by decide) wfX10_232 dX10_draft_47 (v := ti (mI M7 10 0 8)) rfl ?_
        obtain ⟨rfl, rfl⟩ := pj2 h
        exact tm_iret rfl dX10_draft_50
      · rw [if_neg c4] at h
        refine tm_bipush (v := (-2)) dX10_draft_23 (by decide) ?_
        obtain ⟨rfl, rfl⟩ := pj2 h
        exact tm_iret rfl dX10_draft_25
    · rw [if_pos c3] at h
      refine tm_iconst (v := (-1)) dX10_draft_11 (by decide) ?_
      obtain ⟨rfl, rfl⟩ := pj2 h
      exact tm_iret rfl dX10_draft_12
  exact TMet.of (by decide) (Nat.le_of_ble_eq_true rfl) key
theorem wcX10_197 : tCB RX10 197 yX8_adopt cX8_adopt 5 (some .int) 2 ∧ Cond.methodLink RX10 197 yX8_adopt ∈ tgd ∧ Cond.instanceMethod yX8_adopt ∈ tgd ∧ Cond.selects RX8 yX8_adopt yX8_adopt ∈ tgd := ⟨⟨(tgd_t 892 (by decide +kernel) (by decide +kernel)), (tgd_t 4 (by decide +kernel) (by decide +kernel)), by decide, by decide +kernel⟩, (tgd_t 889 (by decide +kernel) (by decide +kernel)), (tgd_t 890 (by decide +kernel) (by decide +kernel)), (tgd_t 891 (by decide +kernel) (by decide +kernel))⟩
theorem wcX10_235 : tCB RX10 235 yX8_faultOf cX8_faultOf 5 (some .int) 2 ∧ Cond.methodLink RX10 235 yX8_faultOf ∈ tgd ∧ Cond.instanceMethod yX8_faultOf ∈ tgd ∧ Cond.selects RX8 yX8_faultOf yX8_faultOf ∈ tgd := ⟨⟨(tgd_t 1001 (by decide +kernel) (by decide +kernel)), (tgd_t 4 (by decide +kernel) (by decide +kernel)), by decide, by decide +kernel⟩, (tgd_t 998 (by decide +kernel) (by decide +kernel)), (tgd_t 999 (by decide +kernel) (by decide +kernel)), (tgd_t 1000 (by decide +kernel) (by decide +kernel))⟩
abbrev iX10_check : tY := (RX10, cX10_check, 4, some .int, "check")
abbrev rmX10_check : Room := { frames := 6, cells := 0, slots := 0, locals := 147 }
def fX10_check  (M : tM) : Option (Int32 × tM) :=
  bnd (mI M 10 0 8) fun x1 =>
  bnd (sI M 10 0 8 0) fun M2 =>
  (fX10_noRound M2).bind fun (x3, M5) =>
  if x3 = 0 then (
  (fX8_faultOf 1107 0 x1 M5).bind fun (x7, M9) =>
  if x7 < 0 then (
  (fX8_adopt 1107 0 x1 M9).bind fun (x11, M13) =>
  some ((x11, M13))
  ) else (
  some (((-10) - x7, M9))
  )
  ) else (
  some ((x3, M5))
  )
set_option maxHeartbeats 4000000 in
set_option maxRecDepth 100000 in
theorem okX10_check {g : tG}  {M : tM} {v : Int32} {Mz : tM} (h : fX10_check  M = some ((v, Mz))) : TMet g yX10_check (Cond.code yX10_check cX10_check 4 (some .int) :: tgd) rmX10_check [tr 10 0] M (some (ti v)) Mz 0 0 := by
  have key : TW g iX10_check rmX10_check 0 0 (some (ti v)) Mz 0 0 0 [(0, tr 10 0)] [] M := by
    rw [fX10_check] at h
    refine tm_aload_n dX10_check_0 rfl rfl ?_
    refine tm_get kX10 rfl (j := 8) (by decide) wfX10_232 dX10_check_1 (v := ti (mI M 10 0 8)) rfl ?_
    replace h := bnd_some h
    obtain ⟨x1, ex1, h⟩ := h
    refine tm_nmI ex1 ?_
    refine tm_istore_n (lc' := [(1, ti x1), (0, tr 10 0)]) dX10_check_4 rfl (by decide) rfl ?_
    refine tm_aload_n dX10_check_5 rfl rfl ?_
    refine tm_iconst (v := 0) dX10_check_6 (by decide) ?_
    replace h := bnd_some h
    obtain ⟨M2, eM2, h⟩ := h
    refine tm_put kX10 rfl (j := 8) (by decide) wfX10_232 rfl dX10_check_7 (fun _ => ⟨rfl, rfl⟩) (tPut_I 0 rfl) ?_
    refine tm_nmM eM2 ?_
    refine tm_aload_n dX10_check_10 rfl rfl ?_
    replace h := obind_some h
    obtain ⟨⟨x3, M5⟩, hc4, h⟩ := h
    dsimp only at h
    refine tm_callV kX10 rfl (avs := []) (st := []) (okX10_noRound hc4) wcX10_174.1 wcX10_174.2.1 wcX10_174.2.2.1 wcX10_174.2.2.2 ⟨rfl, rfl, Nat.le_of_ble_eq_true rfl, Nat.le_of_ble_eq_true rfl⟩ rfl (Nat.le_of_ble_eq_true rfl) ⟨Nat.zero_le _, Nat.zero_le _⟩ dX10_check_11 ?_
    refine tm_istore_n (lc' := [(2, ti x3), (1, ti x1), (0, tr 10 0)]) dX10_check_14 rfl (by decide) rfl ?_
    refine tm_iload_n dX10_check_15 rfl rfl ?_
    refine tm_if_eq (tgt := 21) dX10_check_16 (by decide) (fun c6 => ?_) (fun c6 => ?_)
    · rw [if_pos c6] at h
      refine tm_aload_n dX10_check_21 rfl rfl ?_
      refine tm_get kX10 rfl (j := 1) (by decide) wfX10_26 dX10_check_22 (v := tr 8 0) rfl ?_
      refine tm_aload_n dX10_check_25 rfl rfl ?_
      refine tm_get kX10 rfl (j := 7) (by decide) wfX10_65 dX10_check_26 (v := tr 1107 0) rfl ?_
      refine tm_iload_n dX10_check_29 rfl rfl ?_
      replace h := obind_some h
      obtain ⟨⟨x7, M9⟩, hc8, h⟩ := h
      dsimp only at h
      refine tm_callV kX8 rfl (avs := [tr 1107 0, ti x1]) (st := []) (okX8_faultOf hc8) wcX10_235.1 wcX10_235.2.1 wcX10_235.2.2.1 wcX10_235.2.2.2 ⟨rfl, rfl, Nat.le_of_ble_eq_true rfl, Nat.le_of_ble_eq_true rfl⟩ rfl (Nat.le_of_ble_eq_true rfl) ⟨Nat.zero_le _, Nat.zero_le _⟩ dX10_check_30 ?_
      refine tm_istore_n (lc' := [(3, ti x7), (2, ti x3), (1, ti x1), (0, tr 10 0)]) dX10_check_33 rfl (by decide) rfl ?_
      refine tm_iload_n dX10_check_34 rfl rfl ?_
      refine tm_if_lt (tgt := 45) dX10_check_35 (by decide) (fun c10 => ?_) (fun c10 => ?_)
      · rw [if_pos c10] at h
        refine tm_aload_n dX10_check_45 rfl rfl ?_
        refine tm_get kX10 rfl (j := 1) (by decide) wfX10_26 dX10_check_46 (v := tr 8 0) rfl ?_
        refine tm_aload_n dX10_check_49 rfl rfl ?_
        refine tm_get kX10 rfl (j := 7) (by decide) wfX10_65 dX10_check_50 (v := tr 1107 0) rfl ?_
        refine tm_iload_n dX10_check_53 rfl rfl ?_
        replace h := obind_some h
        obtain ⟨⟨x11, M13⟩, hc12, h⟩ := h
        dsimp only at h
        refine tm_callV kX8 rfl (avs := [tr 1107 0, ti x1]) (st := []) (okX8_adopt hc12) wcX10_197.1 wcX10_197.2.1 wcX10_197.2.2.1 wcX10_197.2.2.2 ⟨rfl, rfl, Nat.le_of_ble_eq_true rfl, Nat.le_of_ble_eq_true rfl⟩ rfl (Nat.le_of_ble_eq_true rfl) ⟨Nat.zero_le _, Nat.zero_le _⟩ dX10_check_54 ?_
        obtain ⟨rfl, rfl⟩ := pj2 h
        exact tm_iret rfl dX10_check_57
      · rw [if_neg c10] at h
        refine tm_bipush (v := (-10)) dX10_check_38 (by decide) ?_
        refine tm_iload_n dX10_check_40 rfl rfl ?_
        refine tm_isub dX10_check_41 ?_
        refine tm_goto (tgt := 57) dX10_check_42 (by decide) ?_
        obtain ⟨rfl, rfl⟩ := pj2 h
        exact tm_iret rfl dX10_check_57
    · rw [if_neg c6] at h
      refine tm_iload_n dX10_check_19 rfl rfl ?_
      obtain ⟨rfl, rfl⟩ := pj2 h
      exact tm_iret rfl dX10_check_20
  exact TMet.of (by decide) (Nat.le_of_ble_eq_true rfl) key
theorem wfX10_238 : Cond.fieldLink RX10 238 "EvenFlow$Part" "time" "I" ∈ tgd := (tgd_t 422 (by decide +kernel) (by decide +kernel))
abbrev iX10_time : tY := (RX10, cX10_time, 5, some .int, "time")
abbrev rmX10_time : Room := { frames := 1, cells := 0, slots := 0, locals := 21 }
def fX10_time (a1 : Int32) (a2 : Int32) (M : tM) : Option (Int32 × tM) :=
  (fX1_partAt a1 M).bind fun r1 =>
  if r1 = none then (
  some (((-1), M))
  ) else (
  if a2 < 0 then (
  some (((-1), M))
  ) else (
  if a2 ≤ 1000 then (
  Option.bind r1 fun i6 =>
  bnd (mI M 7 i6 4) fun x7 =>
  bnd (sI M 7 i6 4 a2) fun M8 =>
  (fX0_forget M8).bind fun M10 =>
  some ((x7, M10))
  ) else (
  some (((-1), M))
  )
  )
  )
set_option maxHeartbeats 4000000 in
set_option maxRecDepth 100000 in
theorem okX10_time {g : tG} {a1 : Int32} {a2 : Int32} {M : tM} {v : Int32} {Mz : tM} (h : fX10_time a1 a2 M = some ((v, Mz))) : TMet g yX10_time (Cond.code yX10_time cX10_time 5 (some .int) :: tgd) rmX10_time [tr 10 0, ti a1, ti a2] M (some (ti v)) Mz 0 0 := by
  have key : TW g iX10_time rmX10_time 0 0 (some (ti v)) Mz 0 0 0 [(0, tr 10 0), (1, ti a1), (2, ti a2)] [] M := by
    rw [fX10_time] at h
    refine tm_aload_n dX10_time_0 rfl rfl ?_
    refine tm_get kX10 rfl (j := 0) (by decide) wfX10_10 dX10_time_1 (v := tr 1 0) rfl ?_
    refine tm_iload_n dX10_time_4 rfl rfl ?_
    replace h := obind_some h
    obtain ⟨r1, hc2, h⟩ := h
    refine tm_callV kX1 rfl (avs := [ti a1]) (st := []) (okX1_partAt hc2) wcX10_87.1 wcX10_87.2.1 wcX10_87.2.2.1 wcX10_87.2.2.2 ⟨rfl, rfl, Nat.le_of_ble_eq_true rfl, Nat.le_of_ble_eq_true rfl⟩ rfl (Nat.le_of_ble_eq_true rfl) ⟨Nat.zero_le _, Nat.zero_le _⟩ dX10_time_5 ?_
    refine tm_astore_n (lc' := [(3, tq 7 r1), (0, tr 10 0), (1, ti a1), (2, ti a2)]) dX10_time_8 rfl (by decide) rfl ?_
    refine tm_aload_n dX10_time_9 rfl rfl ?_
    refine tm_ifnull (k2 := 7) (q := r1) (tgt := 24) dX10_time_10 (by decide) (fun c3 => ?_) (fun c3 => ?_)
    · rw [if_pos c3] at h
      refine tm_iconst (v := (-1)) dX10_time_24 (by decide) ?_
      obtain ⟨rfl, rfl⟩ := pj2 h
      exact tm_iret rfl dX10_time_25
    · rw [if_neg c3] at h
      refine tm_iload_n dX10_time_13 rfl rfl ?_
      refine tm_if_lt (tgt := 24) dX10_time_14 (by decide) (fun c4 => ?_) (fun c4 => ?_)
      · rw [if_pos c4] at h
        refine tm_iconst (v := (-1)) dX10_time_24 (by decide) ?_
        obtain ⟨rfl, rfl⟩ := pj2 h
        exact tm_iret rfl dX10_time_25
      · rw [if_neg c4] at h
        refine tm_iload_n dX10_time_17 rfl rfl ?_
        refine tm_sipush (v := 1000) dX10_time_18 (by decide) ?_
        refine tm_icmp_le (tgt := 26) dX10_time_21 (by decide) (fun c5 => ?_) (fun c5 => ?_)
        · rw [if_pos c5] at h
          refine tm_aload_n dX10_time_26 rfl rfl ?_
          replace h := obind_some h
          obtain ⟨i6, ei6, h⟩ := h
          subst ei6
          refine tm_get kX7 rfl (j := 4) (by decide) wfX10_238 dX10_time_27 (v := ti (mI M 7 i6 4)) rfl ?_
          replace h := bnd_some h
          obtain ⟨x7, ex7, h⟩ := h
          refine tm_nmI ex7 ?_
          refine tm_istore (lc' := [(4, ti x7), (3, tr 7 i6), (0, tr 10 0), (1, ti a1), (2, ti a2)]) dX10_time_30 (by decide) rfl ?_
          refine tm_aload_n dX10_time_32 rfl rfl ?_
          refine tm_iload_n dX10_time_33 rfl rfl ?_
          replace h := bnd_some h
          obtain ⟨M8, eM8, h⟩ := h
          refine tm_put kX7 rfl (j := 4) (by decide) wfX10_238 rfl dX10_time_34 (fun _ => ⟨rfl, rfl⟩) (tPut_I a2 rfl) ?_
          refine tm_nmM eM8 ?_
          refine tm_aload_n dX10_time_37 rfl rfl ?_
          refine tm_get kX10 rfl (j := 5) (by decide) wfX10_54 dX10_time_38 (v := tr 0 0) rfl ?_
          replace h := obind_some h
          obtain ⟨M10, hc9, h⟩ := h
          refine tm_callV kX0 rfl (avs := []) (st := []) (okX0_forget hc9) wcX10_241.1 wcX10_241.2.1 wcX10_241.2.2.1 wcX10_241.2.2.2 ⟨rfl, rfl, Nat.le_of_ble_eq_true rfl, Nat.le_of_ble_eq_true rfl⟩ rfl (Nat.le_of_ble_eq_true rfl) ⟨Nat.zero_le _, Nat.zero_le _⟩ dX10_time_41 ?_
          refine tm_iload dX10_time_44 rfl ?_
          obtain ⟨rfl, rfl⟩ := pj2 h
          exact tm_iret rfl dX10_time_46
        · rw [if_neg c5] at h
          refine tm_iconst (v := (-1)) dX10_time_24 (by decide) ?_
          obtain ⟨rfl, rfl⟩ := pj2 h
          exact tm_iret rfl dX10_time_25
  exact TMet.of (by decide) (Nat.le_of_ble_eq_true rfl) key
theorem wcX10_244 : tCB RX10 244 yX0_know cX0_know 3 (none) 0 ∧ Cond.methodLink RX10 244 yX0_know ∈ tgd ∧ Cond.instanceMethod yX0_know ∈ tgd ∧ Cond.selects RX0 yX0_know yX0_know ∈ tgd := ⟨⟨(tgd_t 1014 (by decide +kernel) (by decide +kernel)), (tgd_t 8 (by decide +kernel) (by decide +kernel)), by decide, by decide +kernel⟩, (tgd_t 1011 (by decide +kernel) (by decide +kernel)), (tgd_t 1012 (by decide +kernel) (by decide +kernel)), (tgd_t 1013 (by decide +kernel) (by decide +kernel))⟩
theorem wfX10_247 : Cond.fieldLink RX10 247 "EvenFlow$Beat" "lower" "J" ∈ tgd := (tgd_t 274 (by decide +kernel) (by decide +kernel))
theorem wfX10_251 : Cond.fieldLink RX10 251 "EvenFlow$Beat" "upper" "J" ∈ tgd := (tgd_t 272 (by decide +kernel) (by decide +kernel))
abbrev iX10_beat : tY := (RX10, cX10_beat, 3, some .int, "beat")
abbrev rmX10_beat : Room := { frames := 6, cells := 0, slots := 0, locals := 147 }
def fX10_beat (a1 : Int32) (M : tM) : Option (Int32 × tM) :=
  (fX10_noSchedule M).bind fun (x1, M3) =>
  if x1 = 0 then (
  if (mI M3 1 0 4) ≤ 60 then (
  (fX0_know M3).bind fun M7 =>
  if a1 = 0 then (
  some (((mL M7 0 0 1).toInt32, M7))
  ) else (
  some (((mL M7 0 0 2).toInt32, M7))
  )
  ) else (
  some (((-4), M3))
  )
  ) else (
  some ((x1, M3))
  )
set_option maxHeartbeats 4000000 in
set_option maxRecDepth 100000 in
theorem okX10_beat {g : tG} {a1 : Int32} {M : tM} {v : Int32} {Mz : tM} (h : fX10_beat a1 M = some ((v, Mz))) : TMet g yX10_beat (Cond.code yX10_beat cX10_beat 3 (some .int) :: tgd) rmX10_beat [tr 10 0, ti a1] M (some (ti v)) Mz 0 0 := by
  have key : TW g iX10_beat rmX10_beat 0 0 (some (ti v)) Mz 0 0 0 [(0, tr 10 0), (1, ti a1)] [] M := by
    rw [fX10_beat] at h
    refine tm_aload_n dX10_beat_0 rfl rfl ?_
    replace h := obind_some h
    obtain ⟨⟨x1, M3⟩, hc2, h⟩ := h
    dsimp only at h
    refine tm_callV kX10 rfl (avs := []) (st := []) (okX10_noSchedule hc2) wcX10_184.1 wcX10_184.2.1 wcX10_184.2.2.1 wcX10_184.2.2.2 ⟨rfl, rfl, Nat.le_of_ble_eq_true rfl, Nat.le_of_ble_eq_true rfl⟩ rfl (Nat.le_of_ble_eq_true rfl) ⟨Nat.zero_le _, Nat.zero_le _⟩ dX10_beat_1 ?_
    refine tm_istore_n (lc' := [(2, ti x1), (0, tr 10 0), (1, ti a1)]) dX10_beat_4 rfl (by decide) rfl ?_
    refine tm_iload_n dX10_beat_5 rfl rfl ?_
    refine tm_if_eq (tgt := 11) dX10_beat_6 (by decide) (fun c4 => ?_) (fun c4 => ?_)
    · rw [if_pos c4] at h
      refine tm_aload_n dX10_beat_11 rfl rfl ?_
      refine tm_get kX10 rfl (j := 0) (by decide) wfX10_10 dX10_beat_12 (v := tr 1 0) rfl ?_
      refine tm_get kX1 rfl (j := 4) (by decide) wfX10_167 dX10_beat_15 (v := ti (mI M3 1 0 4)) rfl ?_
      refine tm_bipush (v := 60) dX10_beat_18 (by decide) ?_
      refine tm_icmp_le (tgt := 26) dX10_beat_20 (by decide) (fun c5 => ?_) (fun c5 => ?_)
      · rw [if_pos c5] at h
        refine tm_aload_n dX10_beat_26 rfl rfl ?_
        refine tm_get kX10 rfl (j := 5) (by decide) wfX10_54 dX10_beat_27 (v := tr 0 0) rfl ?_
        replace h := obind_some h
        obtain ⟨M7, hc6, h⟩ := h
        refine tm_callV kX0 rfl (avs := []) (st := []) (okX0_know hc6) wcX10_244.1 wcX10_244.2.1 wcX10_244.2.2.1 wcX10_244.2.2.2 ⟨rfl, rfl, Nat.le_of_ble_eq_true rfl, Nat.le_of_ble_eq_true rfl⟩ rfl (Nat.le_of_ble_eq_true rfl) ⟨Nat.zero_le _, Nat.zero_le _⟩ dX10_beat_30 ?_
        refine tm_iload_n dX10_beat_33 rfl rfl ?_
        refine tm_if_eq (tgt := 47) dX10_beat_34 (by decide) (fun c8 => ?_) (fun c8 => ?_)
        · rw [if_pos c8] at h
          refine tm_aload_n dX10_beat_47 rfl rfl ?_
          refine tm_get kX10 rfl (j := 5) (by decide) wfX10_54 dX10_beat_48 (v := tr 0 0) rfl ?_
          refine tm_get kX0 rfl (j := 1) (by decide) wfX10_251 dX10_beat_51 (v := tl (mL M7 0 0 1)) rfl ?_
          refine tm_l2i dX10_beat_54 ?_
          obtain ⟨rfl, rfl⟩ := pj2 h
          exact tm_iret rfl dX10_beat_55
        · rw [if_neg c8] at h
          refine tm_aload_n dX10_beat_37 rfl rfl ?_
          refine tm_get kX10 rfl (j := 5) (by decide) wfX10_54 dX10_beat_38 (v := tr 0 0) rfl ?_
          refine tm_get kX0 rfl (j := 2) (by decide) wfX10_247 dX10_beat_41 (v := tl (mL M7 0 0 2)) rfl ?_
          refine tm_goto (tgt := 54) dX10_beat_44 (by decide) ?_
          refine tm_l2i dX10_beat_54 ?_
          obtain ⟨rfl, rfl⟩ := pj2 h
          exact tm_iret rfl dX10_beat_55
      · rw [if_neg c5] at h
        refine tm_bipush (v := (-4)) dX10_beat_23 (by decide) ?_
        obtain ⟨rfl, rfl⟩ := pj2 h
        exact tm_iret rfl dX10_beat_25
    · rw [if_neg c4] at h
      refine tm_iload_n dX10_beat_9 rfl rfl ?_
      obtain ⟨rfl, rfl⟩ := pj2 h
      exact tm_iret rfl dX10_beat_10
  exact TMet.of (by decide) (Nat.le_of_ble_eq_true rfl) key
theorem wcX10_254 : tCB RX10 254 yX9_isReady cX9_isReady 3 (some .boolean) 1 ∧ Cond.methodLink RX10 254 yX9_isReady ∈ tgd ∧ Cond.instanceMethod yX9_isReady ∈ tgd ∧ Cond.selects RX9 yX9_isReady yX9_isReady ∈ tgd := ⟨⟨(tgd_t 1067 (by decide +kernel) (by decide +kernel)), (tgd_t 9 (by decide +kernel) (by decide +kernel)), by decide, by decide +kernel⟩, (tgd_t 1064 (by decide +kernel) (by decide +kernel)), (tgd_t 1065 (by decide +kernel) (by decide +kernel)), (tgd_t 1066 (by decide +kernel) (by decide +kernel))⟩
abbrev iX10_may : tY := (RX10, cX10_may, 3, some .int, "may")
abbrev rmX10_may : Room := { frames := 2, cells := 0, slots := 0, locals := 43 }
def fX10_may (a1 : Int32) (M : tM) : Option (Int32) :=
  (fX1_partAt a1 M).bind fun r1 =>
  if r1 = none then (
  some (-1)
  ) else (
  (fX9_isReady r1 M).bind fun x4 =>
  if x4 = 0 then (
  some 0
  ) else (
  some 1
  )
  )
set_option maxHeartbeats 4000000 in
set_option maxRecDepth 100000 in
theorem okX10_may {g : tG} {a1 : Int32} {M : tM} {v : Int32} (h : fX10_may a1 M = some v) : TMet g yX10_may (Cond.code yX10_may cX10_may 3 (some .int) :: tgd) rmX10_may [tr 10 0, ti a1] M (some (ti v)) M 0 0 := by
  have key : TW g iX10_may rmX10_may 0 0 (some (ti v)) M 0 0 0 [(0, tr 10 0), (1, ti a1)] [] M := by
    rw [fX10_may] at h
    refine tm_aload_n dX10_may_0 rfl rfl ?_
    refine tm_get kX10 rfl (j := 0) (by decide) wfX10_10 dX10_may_1 (v := tr 1 0) rfl ?_
    refine tm_iload_n dX10_may_4 rfl rfl ?_
    replace h := obind_some h
    obtain ⟨r1, hc2, h⟩ := h
    refine tm_callV kX1 rfl (avs := [ti a1]) (st := []) (okX1_partAt hc2) wcX10_87.1 wcX10_87.2.1 wcX10_87.2.2.1 wcX10_87.2.2.2 ⟨rfl, rfl, Nat.le_of_ble_eq_true rfl, Nat.le_of_ble_eq_true rfl⟩ rfl (Nat.le_of_ble_eq_true rfl) ⟨Nat.zero_le _, Nat.zero_le _⟩ dX10_may_5 ?_
    refine tm_astore_n (lc' := [(2, tq 7 r1), (0, tr 10 0), (1, ti a1)]) dX10_may_8 rfl (by decide) rfl ?_
    refine tm_aload_n dX10_may_9 rfl rfl ?_
    refine tm_ifnonnull (k2 := 7) (q := r1) (tgt := 15) dX10_may_10 (by decide) (fun c3 => ?_) (fun c3 => ?_)
    · rw [if_neg c3] at h
      refine tm_aload_n dX10_may_15 rfl rfl ?_
      refine tm_get kX10 rfl (j := 6) (by decide) wfX10_61 dX10_may_16 (v := tr 9 0) rfl ?_
      refine tm_aload_n dX10_may_19 rfl rfl ?_
      replace h := obind_some h
      obtain ⟨x4, hc5, h⟩ := h
      refine tm_callV kX9 rfl (avs := [tq 7 r1]) (st := []) (okX9_isReady hc5) wcX10_254.1 wcX10_254.2.1 wcX10_254.2.2.1 wcX10_254.2.2.2 ⟨rfl, rfl, Nat.le_of_ble_eq_true rfl, Nat.le_of_ble_eq_true rfl⟩ rfl (Nat.le_of_ble_eq_true rfl) ⟨Nat.zero_le _, Nat.zero_le _⟩ dX10_may_20 ?_
      refine tm_if_eq (tgt := 30) dX10_may_23 (by decide) (fun c6 => ?_) (fun c6 => ?_)
      · rw [if_pos c6] at h
        refine tm_iconst (v := 0) dX10_may_30 (by decide) ?_
        obtain rfl := Option.some.inj h
        exact tm_iret rfl dX10_may_31
      · rw [if_neg c6] at h
        refine tm_iconst (v := 1) dX10_may_26 (by decide) ?_
        refine tm_goto (tgt := 31) dX10_may_27 (by decide) ?_
        obtain rfl := Option.some.inj h
        exact tm_iret rfl dX10_may_31
    · rw [if_pos c3] at h
      refine tm_iconst (v := (-1)) dX10_may_13 (by decide) ?_
      obtain rfl := Option.some.inj h
      exact tm_iret rfl dX10_may_14
  exact TMet.of (by decide) (Nat.le_of_ble_eq_true rfl) key
theorem wfX10_325 : Cond.fieldLink RX10 325 "EvenFlow$Works" "met" "I" ∈ tgd := (tgd_t 324 (by decide +kernel) (by decide +kernel))
abbrev iX10_withFinding : tY := (RX10, cX10_withFinding, 2, some .int, "withFinding")
abbrev rmX10_withFinding : Room := { frames := 1, cells := 0, slots := 0, locals := 21 }
def fX10_withFinding (a1 : Int32) (M : tM) : Option (Int32 × tM) :=
  if a1 = (-3) then (
  (fX10_meets (mI M 9 0 3) M).bind fun (x2, M4) =>
  some ((x2, M4))
  ) else (
  some ((a1, M))
  )
set_option maxHeartbeats 4000000 in
set_option maxRecDepth 100000 in
theorem okX10_withFinding {g : tG} {a1 : Int32} {M : tM} {v : Int32} {Mz : tM} (h : fX10_withFinding a1 M = some ((v, Mz))) : TMet g yX10_withFinding (Cond.code yX10_withFinding cX10_withFinding 2 (some .int) :: tgd) rmX10_withFinding [tr 10 0, ti a1] M (some (ti v)) Mz 0 0 := by
  have key : TW g iX10_withFinding rmX10_withFinding 0 0 (some (ti v)) Mz 0 0 0 [(0, tr 10 0), (1, ti a1)] [] M := by
    rw [fX10_withFinding] at h
    refine tm_iload_n dX10_withFinding_0 rfl rfl ?_
    refine tm_bipush (v := (-3)) dX10_withFinding_1 (by decide) ?_
    refine tm_icmp_ne (tgt := 20) dX10_withFinding_3 (by decide) (fun c1 => ?_) (fun c1 => ?_)
    · rw [if_neg c1] at h
      refine tm_iload_n dX10_withFinding_20 rfl rfl ?_
      obtain ⟨rfl, rfl⟩ := pj2 h
      exact tm_iret rfl dX10_withFinding_21
    · rw [if_pos c1] at h
      refine tm_aload_n dX10_withFinding_6 rfl rfl ?_
      refine tm_aload_n dX10_withFinding_7 rfl rfl ?_
      refine tm_get kX10 rfl (j := 6) (by decide) wfX10_61 dX10_withFinding_8 (v := tr 9 0) rfl ?_
      refine tm_get kX9 rfl (j := 3) (by decide) wfX10_325 dX10_withFinding_11 (v := ti (mI M 9 0 3)) rfl ?_
      replace h := obind_some h
      obtain ⟨⟨x2, M4⟩, hc3, h⟩ := h
      dsimp only at h
      refine tm_callV kX10 rfl (avs := [ti (mI M 9 0 3)]) (st := []) (okX10_meets hc3) wcX10_76.1 wcX10_76.2.1 wcX10_76.2.2.1 wcX10_76.2.2.2 ⟨rfl, rfl, Nat.le_of_ble_eq_true rfl, Nat.le_of_ble_eq_true rfl⟩ rfl (Nat.le_of_ble_eq_true rfl) ⟨Nat.zero_le _, Nat.zero_le _⟩ dX10_withFinding_14 ?_
      refine tm_goto (tgt := 21) dX10_withFinding_17 (by decide) ?_
      obtain ⟨rfl, rfl⟩ := pj2 h
      exact tm_iret rfl dX10_withFinding_21
  exact TMet.of (by decide) (Nat.le_of_ble_eq_true rfl) key
theorem wcX10_258 : tCB RX10 258 yX9_attempt cX9_attempt 4 (some .int) 1 ∧ Cond.methodLink RX10 258 yX9_attempt ∈ tgd ∧ Cond.instanceMethod yX9_attempt ∈ tgd ∧ Cond.selects RX9 yX9_attempt yX9_attempt ∈ tgd := ⟨⟨(tgd_t 1076 (by decide +kernel) (by decide +kernel)), (tgd_t 9 (by decide +kernel) (by decide +kernel)), by decide, by decide +kernel⟩, (tgd_t 1073 (by decide +kernel) (by decide +kernel)), (tgd_t 1074 (by decide +kernel) (by decide +kernel)), (tgd_t 1075 (by decide +kernel) (by decide +kernel))⟩
theorem wcX10_262 : tCB RX10 262 yX10_withFinding cX10_withFinding 2 (some .int) 1 ∧ Cond.methodLink RX10 262 yX10_withFinding ∈ tgd ∧ Cond.instanceMethod yX10_withFinding ∈ tgd ∧ Cond.selects RX10 yX10_withFinding yX10_withFinding ∈ tgd := ⟨⟨(tgd_t 1142 (by decide +kernel) (by decide +kernel)), (tgd_t 1 (by decide +kernel) (by decide +kernel)), by decide, by decide +kernel⟩, (tgd_t 1139 (by decide +kernel) (by decide +kernel)), (tgd_t 1141 (by decide +kernel) (by decide +kernel)), (tgd_p 53 (by decide +kernel) (by decide +kernel))⟩
abbrev iX10_fire : tY := (RX10, cX10_fire, 3, some .int, "fire")
abbrev rmX10_fire : Room := { frames := 6, cells := 0, slots := 0, locals := 132 }
def fX10_fire (a1 : Int32) (M : tM) : Option (Int32 × tM) :=
  (fX1_partAt a1 M).bind fun r1 =>
  if r1 = none then (
  some (((-1), M))
  ) else (
  (fX9_attempt r1 M).bind fun (x4, M6) =>
  (fX10_withFinding x4 M6).bind fun (x7, M9) =>
  some ((x7, M9))
  )
set_option maxHeartbeats 4000000 in
set_option maxRecDepth 100000 in
theorem okX10_fire {g : tG} {a1 : Int32} {M : tM} {v : Int32} {Mz : tM} (h : fX10_fire a1 M = some ((v, Mz))) : TMet g yX10_fire (Cond.code yX10_fire cX10_fire 3 (some .int) :: tgd) rmX10_fire [tr 10 0, ti a1] M (some (ti v)) Mz 0 0 := by
  have key : TW g iX10_fire rmX10_fire 0 0 (some (ti v)) Mz 0 0 0 [(0, tr 10 0), (1, ti a1)] [] M := by
    rw [fX10_fire] at h
    refine tm_aload_n dX10_fire_0 rfl rfl ?_
    refine tm_get kX10 rfl (j := 0) (by decide) wfX10_10 dX10_fire_1 (v := tr 1 0) rfl ?_
    refine tm_iload_n dX10_fire_4 rfl rfl ?_
    replace h := obind_some h
    obtain ⟨r1, hc2, h⟩ := h
    refine tm_callV kX1 rfl (avs := [ti a1]) (st := []) (okX1_partAt hc2) wcX10_87.1 wcX10_87.2.1 wcX10_87.2.2.1 wcX10_87.2.2.2 ⟨rfl, rfl, Nat.le_of_ble_eq_true rfl, Nat.le_of_ble_eq_true rfl⟩ rfl (Nat.le_of_ble_eq_true rfl) ⟨Nat.zero_le _, Nat.zero_le _⟩ dX10_fire_5 ?_
    refine tm_astore_n (lc' := [(2, tq 7 r1), (0, tr 10 0), (1, ti a1)]) dX10_fire_8 rfl (by decide) rfl ?_
    refine tm_aload_n dX10_fire_9 rfl rfl ?_
    refine tm_ifnonnull (k2 := 7) (q := r1) (tgt := 17) dX10_fire_10 (by decide) (fun c3 => ?_) (fun c3 => ?_)
    · rw [if_neg c3] at h
      refine tm_aload_n dX10_fire_17 rfl rfl ?_
      refine tm_aload_n dX10_fire_18 rfl rfl ?_
      refine tm_get kX10 rfl (j := 6) (by decide) wfX10_61 dX10_fire_19 (v := tr 9 0) rfl ?_
      refine tm_aload_n dX10_fire_22 rfl rfl ?_
      replace h := obind_some h
      obtain ⟨⟨x4, M6⟩, hc5, h⟩ := h
      dsimp only at h
      refine tm_callV kX9 rfl (avs := [tq 7 r1]) (st := [tr 10 0]) (okX9_attempt hc5) wcX10_258.1 wcX10_258.2.1 wcX10_258.2.2.1 wcX10_258.2.2.2 ⟨rfl, rfl, Nat.le_of_ble_eq_true rfl, Nat.le_of_ble_eq_true rfl⟩ rfl (Nat.le_of_ble_eq_true rfl) ⟨Nat.zero_le _, Nat.zero_le _⟩ dX10_fire_23 ?_
      replace h := obind_some h
      obtain ⟨⟨x7, M9⟩, hc8, h⟩ := h
      dsimp only at h
      refine tm_callV kX10 rfl (avs := [ti x4]) (st := []) (okX10_withFinding hc8) wcX10_262.1 wcX10_262.2.1 wcX10_262.2.2.1 wcX10_262.2.2.2 ⟨rfl, rfl, Nat.le_of_ble_eq_true rfl, Nat.le_of_ble_eq_true rfl⟩ rfl (Nat.le_of_ble_eq_true rfl) ⟨Nat.zero_le _, Nat.zero_le _⟩ dX10_fire_26 ?_
      obtain ⟨rfl, rfl⟩ := pj2 h
      exact tm_iret rfl dX10_fire_29
    · rw [if_pos c3] at h
      refine tm_iconst (v := (-1)) dX10_fire_13 (by decide) ?_
      refine tm_goto (tgt := 29) dX10_fire_14 (by decide) ?_
      obtain ⟨rfl, rfl⟩ := pj2 h
      exact tm_iret rfl dX10_fire_29
  exact TMet.of (by decide) (Nat.le_of_ble_eq_true rfl) key
theorem wfX10_265 : Cond.fieldLink RX10 265 "EvenFlow$Works" "latestGave" "J" ∈ tgd := (tgd_t 322 (by decide +kernel) (by decide +kernel))
abbrev iX10_gave : tY := (RX10, cX10_gave, 1, some .long, "gave")
abbrev rmX10_gave : Room := { frames := 0, cells := 0, slots := 0, locals := 0 }
def fX10_gave  (M : tM) : Option (Int64) :=
  some (mL M 9 0 2)
set_option maxHeartbeats 4000000 in
set_option maxRecDepth 100000 in
theorem okX10_gave {g : tG}  {M : tM} {v : Int64} (h : fX10_gave  M = some v) : TMet g yX10_gave (Cond.code yX10_gave cX10_gave 1 (some .long) :: tgd) rmX10_gave [tr 10 0] M (some (tl v)) M 0 0 := by
  have key : TW g iX10_gave rmX10_gave 0 0 (some (tl v)) M 0 0 0 [(0, tr 10 0)] [] M := by
    rw [fX10_gave] at h
    refine tm_aload_n dX10_gave_0 rfl rfl ?_
    refine tm_get kX10 rfl (j := 6) (by decide) wfX10_61 dX10_gave_1 (v := tr 9 0) rfl ?_
    refine tm_get kX9 rfl (j := 2) (by decide) wfX10_265 dX10_gave_4 (v := tl (mL M 9 0 2)) rfl ?_
    obtain rfl := Option.some.inj h
    exact tm_lret rfl dX10_gave_7
  exact TMet.of (by decide) (Nat.le_of_ble_eq_true rfl) key
theorem wcX10_268 : tCB RX10 268 yX9_traceAt cX9_traceAt 2 (some .int) 1 ∧ Cond.methodLink RX10 268 yX9_traceAt ∈ tgd ∧ Cond.instanceMethod yX9_traceAt ∈ tgd ∧ Cond.selects RX9 yX9_traceAt yX9_traceAt ∈ tgd := ⟨⟨(tgd_t 1154 (by decide +kernel) (by decide +kernel)), (tgd_t 9 (by decide +kernel) (by decide +kernel)), by decide, by decide +kernel⟩, (tgd_t 1151 (by decide +kernel) (by decide +kernel)), (tgd_t 1152 (by decide +kernel) (by decide +kernel)), (tgd_t 1153 (by decide +kernel) (by decide +kernel))⟩
abbrev iX10_trace : tY := (RX10, cX10_trace, 2, some .int, "trace")
abbrev rmX10_trace : Room := { frames := 1, cells := 0, slots := 0, locals := 21 }
def fX10_trace (a1 : Int32) (M : tM) : Option (Int32) :=
  (fX9_traceAt a1 M).bind fun x1 =>
  some x1
set_option maxHeartbeats 4000000 in
set_option maxRecDepth 100000 in
theorem okX10_trace {g : tG} {a1 : Int32} {M : tM} {v : Int32} (h : fX10_trace a1 M = some v) : TMet g yX10_trace (Cond.code yX10_trace cX10_trace 2 (some .int) :: tgd) rmX10_trace [tr 10 0, ti a1] M (some (ti v)) M 0 0 := by
  have key : TW g iX10_trace rmX10_trace 0 0 (some (ti v)) M 0 0 0 [(0, tr 10 0), (1, ti a1)] [] M := by
    rw [fX10_trace] at h
    refine tm_aload_n dX10_trace_0 rfl rfl ?_
    refine tm_get kX10 rfl (j := 6) (by decide) wfX10_61 dX10_trace_1 (v := tr 9 0) rfl ?_
    refine tm_iload_n dX10_trace_4 rfl rfl ?_
    replace h := obind_some h
    obtain ⟨x1, hc2, h⟩ := h
    refine tm_callV kX9 rfl (avs := [ti a1]) (st := []) (okX9_traceAt hc2) wcX10_268.1 wcX10_268.2.1 wcX10_268.2.2.1 wcX10_268.2.2.2 ⟨rfl, rfl, Nat.le_of_ble_eq_true rfl, Nat.le_of_ble_eq_true rfl⟩ rfl (Nat.le_of_ble_eq_true rfl) ⟨Nat.zero_le _, Nat.zero_le _⟩ dX10_trace_5 ?_
    obtain rfl := Option.some.inj h
    exact tm_iret rfl dX10_trace_8
  exact TMet.of (by decide) (Nat.le_of_ble_eq_true rfl) key
theorem wfX10_271 : Cond.fieldLink RX10 271 "EvenFlow$Part" "thread" "I" ∈ tgd := (tgd_t 425 (by decide +kernel) (by decide +kernel))
abbrev iX10_deal : tY := (RX10, cX10_deal, 5, some .int, "deal")
abbrev rmX10_deal : Room := { frames := 2, cells := 0, slots := 0, locals := 43 }
def fX10_deal (a1 : Int32) (a2 : Int32) (M : tM) : Option (Int32 × tM) :=
  (fX1_partAt a1 M).bind fun r1 =>
  if r1 = none then (
  some (((-1), M))
  ) else (
  if a2 < 0 then (
  some (((-1), M))
  ) else (
  if a2 < 4 then (
  Option.bind r1 fun i6 =>
  bnd (mI M 7 i6 5) fun x7 =>
  bnd (sI M 7 i6 5 a2) fun M8 =>
  (fX8_beginThreads M8).bind fun M10 =>
  some ((x7, M10))
  ) else (
  some (((-1), M))
  )
  )
  )
set_option maxHeartbeats 4000000 in
set_option maxRecDepth 100000 in
theorem okX10_deal {g : tG} {a1 : Int32} {a2 : Int32} {M : tM} {v : Int32} {Mz : tM} (h : fX10_deal a1 a2 M = some ((v, Mz))) : TMet g yX10_deal (Cond.code yX10_deal cX10_deal 5 (some .int) :: tgd) rmX10_deal [tr 10 0, ti a1, ti a2] M (some (ti v)) Mz 0 0 := by
  have key : TW g iX10_deal rmX10_deal 0 0 (some (ti v)) Mz 0 0 0 [(0, tr 10 0), (1, ti a1), (2, ti a2)] [] M := by
    rw [fX10_deal] at h
    refine tm_aload_n dX10_deal_0 rfl rfl ?_
    refine tm_get kX10 rfl (j := 0) (by decide) wfX10_10 dX10_deal_1 (v := tr 1 0) rfl ?_
    refine tm_iload_n dX10_deal_4 rfl rfl ?_
    replace h := obind_some h
    obtain ⟨r1, hc2, h⟩ := h
    refine tm_callV kX1 rfl (avs := [ti a1]) (st := []) (okX1_partAt hc2) wcX10_87.1 wcX10_87.2.1 wcX10_87.2.2.1 wcX10_87.2.2.2 ⟨rfl, rfl, Nat.le_of_ble_eq_true rfl, Nat.le_of_ble_eq_true rfl⟩ rfl (Nat.le_of_ble_eq_true rfl) ⟨Nat.zero_le _, Nat.zero_le _⟩ dX10_deal_5 ?_
    refine tm_astore_n (lc' := [(3, tq 7 r1), (0, tr 10 0), (1, ti a1), (2, ti a2)]) dX10_deal_8 rfl (by decide) rfl ?_
    refine tm_aload_n dX10_deal_9 rfl rfl ?_
    refine tm_ifnull (k2 := 7) (q := r1) (tgt := 22) dX10_deal_10 (by decide) (fun c3 => ?_) (fun c3 => ?_)
    · rw [if_pos c3] at h
      refine tm_iconst (v := (-1)) dX10_deal_22 (by decide) ?_
      obtain ⟨rfl, rfl⟩ := pj2 h
      exact tm_iret rfl dX10_deal_23
    · rw [if_neg c3] at h
      refine tm_iload_n dX10_deal_13 rfl rfl ?_
      refine tm_if_lt (tgt := 22) dX10_deal_14 (by decide) (fun c4 => ?_) (fun c4 => ?_)
      · rw [if_pos c4] at h
        refine tm_iconst (v := (-1)) dX10_deal_22 (by decide) ?_
        obtain ⟨rfl, rfl⟩ := pj2 h
        exact tm_iret rfl dX10_deal_23
      · rw [if_neg c4] at h
        refine tm_iload_n dX10_deal_17 rfl rfl ?_
        refine tm_iconst (v := 4) dX10_deal_18 (by decide) ?_
        refine tm_icmp_lt (tgt := 24) dX10_deal_19 (by decide) (fun c5 => ?_) (fun c5 => ?_)
        · rw [if_pos c5] at h
          refine tm_aload_n dX10_deal_24 rfl rfl ?_
          replace h := obind_some h
          obtain ⟨i6, ei6, h⟩ := h
          subst ei6
          refine tm_get kX7 rfl (j := 5) (by decide) wfX10_271 dX10_deal_25 (v := ti (mI M 7 i6 5)) rfl ?_
          replace h := bnd_some h
          obtain ⟨x7, ex7, h⟩ := h
          refine tm_nmI ex7 ?_
          refine tm_istore (lc' := [(4, ti x7), (3, tr 7 i6), (0, tr 10 0), (1, ti a1), (2, ti a2)]) dX10_deal_28 (by decide) rfl ?_
          refine tm_aload_n dX10_deal_30 rfl rfl ?_
          refine tm_iload_n dX10_deal_31 rfl rfl ?_
          replace h := bnd_some h
          obtain ⟨M8, eM8, h⟩ := h
          refine tm_put kX7 rfl (j := 5) (by decide) wfX10_271 rfl dX10_deal_32 (fun _ => ⟨rfl, rfl⟩) (tPut_I a2 rfl) ?_
          refine tm_nmM eM8 ?_
          refine tm_aload_n dX10_deal_35 rfl rfl ?_
          refine tm_get kX10 rfl (j := 1) (by decide) wfX10_26 dX10_deal_36 (v := tr 8 0) rfl ?_
          replace h := obind_some h
          obtain ⟨M10, hc9, h⟩ := h
          refine tm_callV kX8 rfl (avs := []) (st := []) (okX8_beginThreads hc9) wcX10_274.1 wcX10_274.2.1 wcX10_274.2.2.1 wcX10_274.2.2.2 ⟨rfl, rfl, Nat.le_of_ble_eq_true rfl, Nat.le_of_ble_eq_true rfl⟩ rfl (Nat.le_of_ble_eq_true rfl) ⟨Nat.zero_le _, Nat.zero_le _⟩ dX10_deal_39 ?_
          refine tm_iload dX10_deal_42 rfl ?_
          obtain ⟨rfl, rfl⟩ := pj2 h
          exact tm_iret rfl dX10_deal_44
        · rw [if_neg c5] at h
          refine tm_iconst (v := (-1)) dX10_deal_22 (by decide) ?_
          obtain ⟨rfl, rfl⟩ := pj2 h
          exact tm_iret rfl dX10_deal_23
  exact TMet.of (by decide) (Nat.le_of_ble_eq_true rfl) key
theorem wcX10_277 : tCB RX10 277 yX8_nextPlaceOf cX8_nextPlaceOf 5 (some .int) 1 ∧ Cond.methodLink RX10 277 yX8_nextPlaceOf ∈ tgd ∧ Cond.instanceMethod yX8_nextPlaceOf ∈ tgd ∧ Cond.selects RX8 yX8_nextPlaceOf yX8_nextPlaceOf ∈ tgd := ⟨⟨(tgd_t 1166 (by decide +kernel) (by decide +kernel)), (tgd_t 4 (by decide +kernel) (by decide +kernel)), by decide, by decide +kernel⟩, (tgd_t 1163 (by decide +kernel) (by decide +kernel)), (tgd_t 1164 (by decide +kernel) (by decide +kernel)), (tgd_t 1165 (by decide +kernel) (by decide +kernel))⟩
theorem wfX10_280 : Cond.fieldLink RX10 280 "EvenFlow$Plan" "threadNext" "[I" ∈ tgd := (tgd_t 155 (by decide +kernel) (by decide +kernel))
theorem wfX10_283 : Cond.fieldLink RX10 283 "EvenFlow$Part" "number" "I" ∈ tgd := (tgd_t 409 (by decide +kernel) (by decide +kernel))
abbrev iX10_go : tY := (RX10, cX10_go, 5, some .int, "go")
abbrev rmX10_go : Room := { frames := 6, cells := 0, slots := 0, locals := 132 }
def fX10_go (a1 : Int32) (M : tM) : Option (Int32 × tM) :=
  if a1 < 0 then (
  some (((-1), M))
  ) else (
  if a1 < 4 then (
  (fX8_nextPlaceOf a1 M).bind fun x3 =>
  (fX8_has x3 M).bind fun x5 =>
  if x5 = 0 then (
  some (((-4), M))
  ) else (
  chk (inb x3 (mN M 902 0)) <|
  (fX1_partAt (mI M 902 0 (x3.toNatClampNeg)) M).bind fun r9 =>
  if r9 = none then (
  some (((-4), M))
  ) else (
  (fX9_attempt r9 M).bind fun (x12, M14) =>
  (fX10_withFinding x12 M14).bind fun (x15, M17) =>
  if x15 = 1 then (
  chk (inb a1 (mN M17 905 0)) <|
  bnd (sI M17 905 0 (a1.toNatClampNeg) (x3 + 1)) fun M21 =>
  Option.bind r9 fun i22 =>
  some ((mI M21 7 i22 0, M21))
  ) else (
  if x15 = 0 then (
  some (((-9), M17))
  ) else (
  some ((x15, M17))
  )
  )
  )
  )
  ) else (
  some (((-1), M))
  )
  )
set_option maxHeartbeats 4000000 in
set_option maxRecDepth 100000 in
theorem okX10_go {g : tG} {a1 : Int32} {M : tM} {v : Int32} {Mz : tM} (h : fX10_go a1 M = some ((v, Mz))) : TMet g yX10_go (Cond.code yX10_go cX10_go 5 (some .int) :: tgd) rmX10_go [tr 10 0, ti a1] M (some (ti v)) Mz 0 0 := by
  have key : TW g iX10_go rmX10_go 0 0 (some (ti v)) Mz 0 0 0 [(0, tr 10 0), (1, ti a1)] [] M := by
    rw [fX10_go] at h
    refine tm_iload_n dX10_go_0 rfl rfl ?_
    refine tm_if_lt (tgt := 9) dX10_go_1 (by decide) (fun c1 => ?_) (fun c1 => ?_)
    · rw [if_pos c1] at h
      refine tm_iconst (v := (-1)) dX10_go_9 (by decide) ?_
      obtain ⟨rfl, rfl⟩ := pj2 h
      exact tm_iret rfl dX10_go_10
    · rw [if_neg c1] at h
      refine tm_iload_n dX10_go_4 rfl rfl ?_
      refine tm_iconst (v := 4) dX10_go_5 (by decide) ?_
      refine tm_icmp_lt (tgt := 11) dX10_go_6 (by decide) (fun c2 => ?_) (fun c2 => ?_)
      · rw [if_pos c2] at h
        refine tm_aload_n dX10_go_11 rfl rfl ?_
        refine tm_get kX10 rfl (j := 1) (by decide) wfX10_26 dX10_go_12 (v := tr 8 0) rfl ?_
        refine tm_iload_n dX10_go_15 rfl rfl ?_
        replace h := obind_some h
        obtain ⟨x3, hc4, h⟩ := h
        refine tm_callV kX8 rfl (avs := [ti a1]) (st := []) (okX8_nextPlaceOf hc4) wcX10_277.1 wcX10_277.2.1 wcX10_277.2.2.1 wcX10_277.2.2.2 ⟨rfl, rfl, Nat.le_of_ble_eq_true rfl, Nat.le_of_ble_eq_true rfl⟩ rfl (Nat.le_of_ble_eq_true rfl) ⟨Nat.zero_le _, Nat.zero_le _⟩ dX10_go_16 ?_
        refine tm_istore_n (lc' := [(2, ti x3), (0, tr 10 0), (1, ti a1)]) dX10_go_19 rfl (by decide) rfl ?_
        refine tm_aload_n dX10_go_20 rfl rfl ?_
        refine tm_get kX10 rfl (j := 1) (by decide) wfX10_26 dX10_go_21 (v := tr 8 0) rfl ?_
        refine tm_iload_n dX10_go_24 rfl rfl ?_
        replace h := obind_some h
        obtain ⟨x5, hc6, h⟩ := h
        refine tm_callV kX8 rfl (avs := [ti x3]) (st := []) (okX8_has hc6) wcX10_219.1 wcX10_219.2.1 wcX10_219.2.2.1 wcX10_219.2.2.2 ⟨rfl, rfl, Nat.le_of_ble_eq_true rfl, Nat.le_of_ble_eq_true rfl⟩ rfl (Nat.le_of_ble_eq_true rfl) ⟨Nat.zero_le _, Nat.zero_le _⟩ dX10_go_25 ?_
        refine tm_if_ne (tgt := 34) dX10_go_28 (by decide) (fun c7 => ?_) (fun c7 => ?_)
        · rw [if_neg c7] at h
          refine tm_aload_n dX10_go_34 rfl rfl ?_
          refine tm_get kX10 rfl (j := 0) (by decide) wfX10_10 dX10_go_35 (v := tr 1 0) rfl ?_
          refine tm_aload_n dX10_go_38 rfl rfl ?_
          refine tm_get kX10 rfl (j := 1) (by decide) wfX10_26 dX10_go_39 (v := tr 8 0) rfl ?_
          refine tm_get kX8 rfl (j := 2) (by decide) wfX10_210 dX10_go_42 (v := tr 902 0) rfl ?_
          refine tm_iload_n dX10_go_45 rfl rfl ?_
          replace h := chk_some h
          obtain ⟨b8, h⟩ := h
          refine tm_iald rfl dX10_go_46 (inb_vp b8) ?_
          replace h := obind_some h
          obtain ⟨r9, hc10, h⟩ := h
          refine tm_callV kX1 rfl (avs := [ti (mI M 902 0 (x3.toNatClampNeg))]) (st := []) (okX1_partAt hc10) wcX10_87.1 wcX10_87.2.1 wcX10_87.2.2.1 wcX10_87.2.2.2 ⟨rfl, rfl, Nat.le_of_ble_eq_true rfl, Nat.le_of_ble_eq_true rfl⟩ rfl (Nat.le_of_ble_eq_true rfl) ⟨Nat.zero_le _, Nat.zero_le _⟩ dX10_go_47 ?_
          refine tm_astore_n (lc' := [(3, tq 7 r9), (2, ti x3), (0, tr 10 0), (1, ti a1)]) dX10_go_50 rfl (by decide) rfl ?_
          refine tm_aload_n dX10_go_51 rfl rfl ?_
          refine tm_ifnonnull (k2 := 7) (q := r9) (tgt := 58) dX10_go_52 (by decide) (fun c11 => ?_) (fun c11 => ?_)
          · rw [if_neg c11] at h
            refine tm_aload_n dX10_go_58 rfl rfl ?_
            refine tm_aload_n dX10_go_59 rfl rfl ?_
            refine tm_get kX10 rfl (j := 6) (by decide) wfX10_61 dX10_go_60 (v := tr 9 0) rfl ?_
            refine tm_aload_n dX10_go_63 rfl rfl ?_
            replace h := obind_some h
            obtain ⟨⟨x12, M14⟩, hc13, h⟩ := h
            dsimp only at h
            refine tm_callV kX9 rfl (avs := [tq 7 r9]) (st := [tr 10 0]) (okX9_attempt hc13) wcX10_258.1 wcX10_258.2.1 wcX10_258.2.2.1 wcX10_258.2.2.2 ⟨rfl, rfl, Nat.le_of_ble_eq_true rfl, Nat.le_of_ble_eq_true rfl⟩ rfl (Nat.le_of_ble_eq_true rfl) ⟨Nat.zero_le _, Nat.zero_le _⟩ dX10_go_64 ?_
            replace h := obind_some h
            obtain ⟨⟨x15, M17⟩, hc16, h⟩ := h
            dsimp only at h
            refine tm_callV kX10 rfl (avs := [ti x12]) (st := []) (okX10_withFinding hc16) wcX10_262.1 wcX10_262.2.1 wcX10_262.2.2.1 wcX10_262.2.2.2 ⟨rfl, rfl, Nat.le_of_ble_eq_true rfl, Nat.le_of_ble_eq_true rfl⟩ rfl (Nat.le_of_ble_eq_true rfl) ⟨Nat.zero_le _, Nat.zero_le _⟩ dX10_go_67 ?_
            refine tm_istore (lc' := [(4, ti x15), (3, tq 7 r9), (2, ti x3), (0, tr 10 0), (1, ti a1)]) dX10_go_70 (by decide) rfl ?_
            refine tm_iload dX10_go_72 rfl ?_
            refine tm_iconst (v := 1) dX10_go_74 (by decide) ?_
            refine tm_icmp_ne (tgt := 95) dX10_go_75 (by decide) (fun c18 => ?_) (fun c18 => ?_)
            · rw [if_neg c18] at h
              refine tm_iload dX10_go_95 rfl ?_
              refine tm_if_ne (tgt := 105) dX10_go_97 (by decide) (fun c19 => ?_) (fun c19 => ?_)
              · rw [if_neg c19] at h
                refine tm_iload dX10_go_105 rfl ?_
                obtain ⟨rfl, rfl⟩ := pj2 h
                exact tm_iret rfl dX10_go_107
              · rw [if_pos c19] at h
                refine tm_bipush (v := (-9)) dX10_go_100 (by decide) ?_
                refine tm_goto (tgt := 107) dX10_go_102 (by decide) ?_
                obtain ⟨rfl, rfl⟩ := pj2 h
                exact tm_iret rfl dX10_go_107
            · rw [if_pos c18] at h
              refine tm_aload_n dX10_go_78 rfl rfl ?_
              refine tm_get kX10 rfl (j := 1) (by decide) wfX10_26 dX10_go_79 (v := tr 8 0) rfl ?_
              refine tm_get kX8 rfl (j := 5) (by decide) wfX10_280 dX10_go_82 (v := tr 905 0) rfl ?_
              refine tm_iload_n dX10_go_85 rfl rfl ?_
              refine tm_iload_n dX10_go_86 rfl rfl ?_
              refine tm_iconst (v := 1) dX10_go_87 (by decide) ?_
              refine tm_iadd dX10_go_88 ?_
              replace h := chk_some h
              obtain ⟨b20, h⟩ := h
              replace h := bnd_some h
              obtain ⟨M21, eM21, h⟩ := h
              refine tm_iast rfl dX10_go_89 (inb_vp b20) ?_
              refine tm_nmM eM21 ?_
              refine tm_aload_n dX10_go_90 rfl rfl ?_
              replace h := obind_some h
              obtain ⟨i22, ei22, h⟩ := h
              subst ei22
              refine tm_get kX7 rfl (j := 0) (by decide) wfX10_283 dX10_go_91 (v := ti (mI M21 7 i22 0)) rfl ?_
              obtain ⟨rfl, rfl⟩ := pj2 h
              exact tm_iret rfl dX10_go_94
          · rw [if_pos c11] at h
            refine tm_bipush (v := (-4)) dX10_go_55 (by decide) ?_
            obtain ⟨rfl, rfl⟩ := pj2 h
            exact tm_iret rfl dX10_go_57
        · rw [if_pos c7] at h
          refine tm_bipush (v := (-4)) dX10_go_31 (by decide) ?_
          obtain ⟨rfl, rfl⟩ := pj2 h
          exact tm_iret rfl dX10_go_33
      · rw [if_neg c2] at h
        refine tm_iconst (v := (-1)) dX10_go_9 (by decide) ?_
        obtain ⟨rfl, rfl⟩ := pj2 h
        exact tm_iret rfl dX10_go_10
  exact TMet.of (by decide) (Nat.le_of_ble_eq_true rfl) key
