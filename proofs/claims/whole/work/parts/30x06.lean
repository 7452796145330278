abbrev iX3_giveStoresBack : tY := (RX3, cX3_giveStoresBack, 4, none, "giveStoresBack")
abbrev rmX3_giveStoresBack : Room := { frames := 0, cells := 0, slots := 0, locals := 0 }
def fX3_giveStoresBack_l5 (z2 : Int32) : Nat → (Option Nat) → tM → Option (tM)
  | 0, _, _ => none
  | n + 1, y3, M =>
    if y3 = none then (
    some M
    ) else (
    Option.bind y3 fun i4 =>
    chk (inb ((z2 * 20) + (mI M 4 i4 0)) (mN M 405 0)) <|
    chk (inb (mI M 4 i4 0) (mN M 602 0)) <|
    bnd (sI M 602 0 ((mI M 4 i4 0).toNatClampNeg) (mI M 405 0 (((z2 * 20) + (mI M 4 i4 0)).toNatClampNeg))) fun M7 =>
    bnd (mR M7 4 i4 13) fun r8 =>
    fX3_giveStoresBack_l5 z2 n r8 M7
    )
def fX3_giveStoresBack (a1 : Option Nat) (a2 : Int32) (M : tM) : Option (tM) :=
  Option.bind a1 fun i1 =>
  bnd (mR M 7 i1 13) fun r2 =>
  Option.bind (fX3_giveStoresBack_l5 a2 FU r2 M) fun M11 =>
  some M11
set_option maxHeartbeats 4000000 in
set_option maxRecDepth 100000 in
theorem okX3_giveStoresBack_l5 {g : tG} (z2 : Int32) {r : Option tV} {Mz : tM} : ∀ (n : Nat) (y3 : Option Nat) (M : tM) (w : tM), fX3_giveStoresBack_l5 z2 n y3 M = some w → (∀ (Mw : tM), Mw = w → TW g iX3_giveStoresBack rmX3_giveStoresBack 0 0 r Mz 0 0 43 [] [] Mw) → TW g iX3_giveStoresBack rmX3_giveStoresBack 0 0 r Mz 0 0 5 [(0, tr 3 0), (2, ti z2), (3, tq 4 y3)] [] M := by
  intro n
  induction n with
  | zero => intro y3 M w h; cases h
  | succ n ih =>
    intro y3 M w h J
    rw [fX3_giveStoresBack_l5] at h
    refine tm_aload_n dX3_giveStoresBack_5 rfl rfl ?_
    refine tm_ifnull (k2 := 4) (q := y3) (tgt := 43) dX3_giveStoresBack_6 (by decide) (fun c3 => ?_) (fun c3 => ?_)
    · rw [if_pos c3] at h
      obtain rfl := Option.some.inj h
      refine tm_lcp [] rfl ?_
      exact J _ rfl
    · rw [if_neg c3] at h
      refine tm_aload_n dX3_giveStoresBack_9 rfl rfl ?_
      refine tm_get kX3 rfl (j := 1) (by decide) wfX3_25 dX3_giveStoresBack_10 (v := tr 5 0) rfl ?_
      refine tm_get kX5 rfl (j := 2) (by decide) wfX3_107 dX3_giveStoresBack_13 (v := tr 602 0) rfl ?_
      refine tm_aload_n dX3_giveStoresBack_16 rfl rfl ?_
      replace h := obind_some h
      obtain ⟨i4, ei4, h⟩ := h
      subst ei4
      refine tm_get kX4 rfl (j := 0) (by decide) wfX3_104 dX3_giveStoresBack_17 (v := ti (mI M 4 i4 0)) rfl ?_
      refine tm_aload_n dX3_giveStoresBack_20 rfl rfl ?_
      refine tm_get kX3 rfl (j := 5) (by decide) wfX3_18 dX3_giveStoresBack_21 (v := tr 405 0) rfl ?_
      refine tm_iload_n dX3_giveStoresBack_24 rfl rfl ?_
      refine tm_bipush (v := 20) dX3_giveStoresBack_25 (by decide) ?_
      refine tm_imul dX3_giveStoresBack_27 ?_
      refine tm_aload_n dX3_giveStoresBack_28 rfl rfl ?_
      refine tm_get kX4 rfl (j := 0) (by decide) wfX3_104 dX3_giveStoresBack_29 (v := ti (mI M 4 i4 0)) rfl ?_
      refine tm_iadd dX3_giveStoresBack_32 ?_
      replace h := chk_some h
      obtain ⟨b5, h⟩ := h
      refine tm_iald rfl dX3_giveStoresBack_33 (inb_vp b5) ?_
      replace h := chk_some h
      obtain ⟨b6, h⟩ := h
      replace h := bnd_some h
      obtain ⟨M7, eM7, h⟩ := h
      refine tm_iast rfl dX3_giveStoresBack_34 (inb_vp b6) ?_
      refine tm_nmM eM7 ?_
      refine tm_aload_n dX3_giveStoresBack_35 rfl rfl ?_
      refine tm_get kX4 rfl (j := 13) (by decide) wfX3_110 dX3_giveStoresBack_36 (v := tq 4 (mR M7 4 i4 13)) rfl ?_
      replace h := bnd_some h
      obtain ⟨r8, er8, h⟩ := h
      refine tm_nmQ er8 ?_
      refine tm_astore_n (lc' := [(3, tq 4 r8), (0, tr 3 0), (2, ti z2)]) dX3_giveStoresBack_39 rfl (by decide) rfl ?_
      refine tm_goto (tgt := 5) dX3_giveStoresBack_40 (by decide) ?_
      refine tm_lcp [0, 2, 3] rfl ?_
      exact ih r8 M7 _ h J
set_option maxHeartbeats 4000000 in
set_option maxRecDepth 100000 in
theorem okX3_giveStoresBack {g : tG} {a1 : Option Nat} {a2 : Int32} {M : tM} {Mz : tM} (h : fX3_giveStoresBack a1 a2 M = some Mz) : TMet g yX3_giveStoresBack (Cond.code yX3_giveStoresBack cX3_giveStoresBack 4 (none) :: tgd) rmX3_giveStoresBack [tr 3 0, tq 7 a1, ti a2] M none Mz 0 0 := by
  have key : TW g iX3_giveStoresBack rmX3_giveStoresBack 0 0 none Mz 0 0 0 [(0, tr 3 0), (1, tq 7 a1), (2, ti a2)] [] M := by
    rw [fX3_giveStoresBack] at h
    refine tm_aload_n dX3_giveStoresBack_0 rfl rfl ?_
    replace h := obind_some h
    obtain ⟨i1, ei1, h⟩ := h
    subst ei1
    refine tm_get kX7 rfl (j := 13) (by decide) wfX3_100 dX3_giveStoresBack_1 (v := tq 4 (mR M 7 i1 13)) rfl ?_
    replace h := bnd_some h
    obtain ⟨r2, er2, h⟩ := h
    refine tm_nmQ er2 ?_
    refine tm_astore_n (lc' := [(3, tq 4 r2), (0, tr 3 0), (1, tr 7 i1), (2, ti a2)]) dX3_giveStoresBack_4 rfl (by decide) rfl ?_
    replace h := obind_some h
    obtain ⟨w9, hE10, h⟩ := h
    refine tm_lcp [0, 2, 3] rfl ?_
    refine okX3_giveStoresBack_l5 a2 FU r2 M _ hE10 (fun M11 e => ?_)
    subst e
    obtain rfl := Option.some.inj h
    exact tm_vret rfl dX3_giveStoresBack_43
  exact TMet.of (by decide) (Nat.le_of_ble_eq_true rfl) key
theorem wcX4_51 : tCB RX4 51 yX4_givesIn cX4_givesIn 2 (some .int) 1 ∧ Cond.methodLink RX4 51 yX4_givesIn ∈ tgd ∧ Cond.instanceMethod yX4_givesIn ∈ tgd ∧ Cond.selects RX4 yX4_givesIn yX4_givesIn ∈ tgd := ⟨⟨(tgd_t 693 (by decide +kernel) (by decide +kernel)), (tgd_t 15 (by decide +kernel) (by decide +kernel)), by decide, by decide +kernel⟩, (tgd_t 690 (by decide +kernel) (by decide +kernel)), (tgd_t 691 (by decide +kernel) (by decide +kernel)), (tgd_t 692 (by decide +kernel) (by decide +kernel))⟩
theorem wcX4_55 : tCB RX4 55 yX4_takesIn cX4_takesIn 2 (some .int) 1 ∧ Cond.methodLink RX4 55 yX4_takesIn ∈ tgd ∧ Cond.instanceMethod yX4_takesIn ∈ tgd ∧ Cond.selects RX4 yX4_takesIn yX4_takesIn ∈ tgd := ⟨⟨(tgd_t 697 (by decide +kernel) (by decide +kernel)), (tgd_t 15 (by decide +kernel) (by decide +kernel)), by decide, by decide +kernel⟩, (tgd_t 694 (by decide +kernel) (by decide +kernel)), (tgd_t 695 (by decide +kernel) (by decide +kernel)), (tgd_t 696 (by decide +kernel) (by decide +kernel))⟩
theorem wfX4_25 : Cond.fieldLink RX4 25 "EvenFlow$Line" "from" "LEvenFlow$Part;" ∈ tgd := (tgd_t 558 (by decide +kernel) (by decide +kernel))
theorem wfX4_29 : Cond.fieldLink RX4 29 "EvenFlow$Line" "to" "LEvenFlow$Part;" ∈ tgd := (tgd_t 564 (by decide +kernel) (by decide +kernel))
theorem wfX4_50 : Cond.fieldLink RX4 50 "EvenFlow$Part" "number" "I" ∈ tgd := (tgd_t 403 (by decide +kernel) (by decide +kernel))
theorem wfX4_58 : Cond.fieldLink RX4 58 "EvenFlow$Line" "firstCount" "I" ∈ tgd := (tgd_t 582 (by decide +kernel) (by decide +kernel))
abbrev iX4_endOf : tY := (RX4, cX4_endOf, 2, some .int, "endOf")
abbrev rmX4_endOf : Room := { frames := 1, cells := 0, slots := 0, locals := 21 }
def fX4_endOf (i : Nat) (a1 : Int32) (M : tM) : Option (Int32) :=
  if a1.toInt < 0 ∨ 3 < a1.toInt then (
  some (mI M 4 i 6)
  ) else (
  if a1 = 0 then (
  bnd (mR M 4 i 1) fun r2 =>
  Option.bind r2 fun i3 =>
  some (mI M 7 i3 0)
  ) else (
  if a1 = 1 then (
  bnd (mR M 4 i 2) fun r5 =>
  Option.bind r5 fun i6 =>
  some (mI M 7 i6 0)
  ) else (
  if a1 = 2 then (
  (fX4_givesIn i 0 M).bind fun x8 =>
  some x8
  ) else (
  if a1 = 3 then (
  (fX4_takesIn i 0 M).bind fun x11 =>
  some x11
  ) else (
  none)))))
set_option maxHeartbeats 4000000 in
set_option maxRecDepth 100000 in
theorem okX4_endOf {g : tG} {i : Nat} {a1 : Int32} {M : tM} {v : Int32} (h : fX4_endOf i a1 M = some v) : TMet g yX4_endOf (Cond.code yX4_endOf cX4_endOf 2 (some .int) :: tgd) rmX4_endOf [tr 4 i, ti a1] M (some (ti v)) M 0 0 := by
  have key : TW g iX4_endOf rmX4_endOf 0 0 (some (ti v)) M 0 0 0 [(0, tr 4 i), (1, ti a1)] [] M := by
    rw [fX4_endOf] at h
    refine tm_iload_n dX4_endOf_0 rfl rfl ?_
    by_cases c1 : a1.toInt < 0 ∨ 3 < a1.toInt
    · rw [if_pos c1] at h
      refine tm_tableOut (tgt := 60) dX4_endOf_1 c1 (by decide) ?_
      refine tm_aload_n dX4_endOf_60 rfl rfl ?_
      refine tm_get kX4 rfl (j := 6) (by decide) wfX4_58 dX4_endOf_61 (v := ti (mI M 4 i 6)) rfl ?_
      obtain rfl := Option.some.inj h
      exact tm_iret rfl dX4_endOf_64
    · rw [if_neg c1] at h
      by_cases c4 : a1 = 0
      · rw [if_pos c4] at h
        subst c4
        refine tm_tableIn (tgt := 32) dX4_endOf_1 (by decide) (by decide) rfl (by decide) ?_
        refine tm_aload_n dX4_endOf_32 rfl rfl ?_
        refine tm_get kX4 rfl (j := 1) (by decide) wfX4_25 dX4_endOf_33 (v := tq 7 (mR M 4 i 1)) rfl ?_
        replace h := bnd_some h
        obtain ⟨r2, er2, h⟩ := h
        refine tm_nmQ er2 ?_
        replace h := obind_some h
        obtain ⟨i3, ei3, h⟩ := h
        subst ei3
        refine tm_get kX7 rfl (j := 0) (by decide) wfX4_50 dX4_endOf_36 (v := ti (mI M 7 i3 0)) rfl ?_
        obtain rfl := Option.some.inj h
        exact tm_iret rfl dX4_endOf_39
      · rw [if_neg c4] at h
        by_cases c7 : a1 = 1
        · rw [if_pos c7] at h
          subst c7
          refine tm_tableIn (tgt := 40) dX4_endOf_1 (by decide) (by decide) rfl (by decide) ?_
          refine tm_aload_n dX4_endOf_40 rfl rfl ?_
          refine tm_get kX4 rfl (j := 2) (by decide) wfX4_29 dX4_endOf_41 (v := tq 7 (mR M 4 i 2)) rfl ?_
          replace h := bnd_some h
          obtain ⟨r5, er5, h⟩ := h
          refine tm_nmQ er5 ?_
          replace h := obind_some h
          obtain ⟨i6, ei6, h⟩ := h
          subst ei6
          refine tm_get kX7 rfl (j := 0) (by decide) wfX4_50 dX4_endOf_44 (v := ti (mI M 7 i6 0)) rfl ?_
          obtain rfl := Option.some.inj h
          exact tm_iret rfl dX4_endOf_47
        · rw [if_neg c7] at h
          by_cases c10 : a1 = 2
          · rw [if_pos c10] at h
            subst c10
            refine tm_tableIn (tgt := 48) dX4_endOf_1 (by decide) (by decide) rfl (by decide) ?_
            refine tm_aload_n dX4_endOf_48 rfl rfl ?_
            refine tm_iconst (v := 0) dX4_endOf_49 (by decide) ?_
            replace h := obind_some h
            obtain ⟨x8, hc9, h⟩ := h
            refine tm_callV kX4 rfl (avs := [ti 0]) (st := []) (okX4_givesIn hc9) wcX4_51.1 wcX4_51.2.1 wcX4_51.2.2.1 wcX4_51.2.2.2 ⟨rfl, rfl, Nat.le_of_ble_eq_true rfl, Nat.le_of_ble_eq_true rfl⟩ rfl (Nat.le_of_ble_eq_true rfl) ⟨Nat.zero_le _, Nat.zero_le _⟩ dX4_endOf_50 ?_
            obtain rfl := Option.some.inj h
            exact tm_iret rfl dX4_endOf_53
          · rw [if_neg c10] at h
            by_cases c13 : a1 = 3
            · rw [if_pos c13] at h
              subst c13
              refine tm_tableIn (tgt := 54) dX4_endOf_1 (by decide) (by decide) rfl (by decide) ?_
              refine tm_aload_n dX4_endOf_54 rfl rfl ?_
              refine tm_iconst (v := 0) dX4_endOf_55 (by decide) ?_
              replace h := obind_some h
              obtain ⟨x11, hc12, h⟩ := h
              refine tm_callV kX4 rfl (avs := [ti 0]) (st := []) (okX4_takesIn hc12) wcX4_55.1 wcX4_55.2.1 wcX4_55.2.2.1 wcX4_55.2.2.2 ⟨rfl, rfl, Nat.le_of_ble_eq_true rfl, Nat.le_of_ble_eq_true rfl⟩ rfl (Nat.le_of_ble_eq_true rfl) ⟨Nat.zero_le _, Nat.zero_le _⟩ dX4_endOf_56 ?_
              obtain rfl := Option.some.inj h
              exact tm_iret rfl dX4_endOf_59
            · rw [if_neg c13] at h
              cases h
  exact TMet.of (by decide) (Nat.le_of_ble_eq_true rfl) key
theorem wcwX4_70 : tCW RX4 70 := ⟨(tgd_t 528 (by decide +kernel) (by decide +kernel)), (tgd_t 523 (by decide +kernel) (by decide +kernel)), (tgd_t 522 (by decide +kernel) (by decide +kernel)), (tgd_t 13 (by decide +kernel) (by decide +kernel))⟩
theorem wfX4_9 : Cond.fieldLink RX4 9 "EvenFlow$Line" "firstThings" "[J" ∈ tgd := (tgd_t 578 (by decide +kernel) (by decide +kernel))
theorem wfX4_15 : Cond.fieldLink RX4 15 "EvenFlow$Line" "ring" "[J" ∈ tgd := (tgd_t 586 (by decide +kernel) (by decide +kernel))
theorem wfX4_61 : Cond.fieldLink RX4 61 "EvenFlow$Line" "head" "I" ∈ tgd := (tgd_t 587 (by decide +kernel) (by decide +kernel))
theorem wfX4_64 : Cond.fieldLink RX4 64 "EvenFlow$Line" "size" "I" ∈ tgd := (tgd_t 589 (by decide +kernel) (by decide +kernel))
theorem wfX4_67 : Cond.fieldLink RX4 67 "EvenFlow$Line" "givenCount" "I" ∈ tgd := (tgd_t 593 (by decide +kernel) (by decide +kernel))
abbrev iX4_toFirst : tY := (RX4, cX4_toFirst, 1, none, "toFirst")
abbrev rmX4_toFirst : Room := { frames := 1, cells := 0, slots := 0, locals := 26 }
def fX4_toFirst (i : Nat) (M : tM) : Option (tM) :=
  bnd (sI M 4 i 8 0) fun M1 =>
  bnd (sI M1 4 i 9 (mI M1 4 i 6)) fun M2 =>
  bnd (sI M2 4 i 11 0) fun M3 =>
  chk (cpok 0 0 (mI M3 4 i 6) (mN M3 505 i) (mN M3 507 i)) <|
  bnd (cL M3 507 i (va_cpy (mL M3 505 i) (mL M3 507 i) ((0 : Int32).toNatClampNeg) ((0 : Int32).toNatClampNeg) ((mI M3 4 i 6).toNatClampNeg))) fun M5 =>
  some M5
set_option maxHeartbeats 4000000 in
set_option maxRecDepth 100000 in
theorem okX4_toFirst {g : tG} {i : Nat} {M : tM} {Mz : tM} (h : fX4_toFirst i M = some Mz) : TMet g yX4_toFirst (Cond.code yX4_toFirst cX4_toFirst 1 (none) :: tgd) rmX4_toFirst [tr 4 i] M none Mz 0 0 := by
  have key : TW g iX4_toFirst rmX4_toFirst 0 0 none Mz 0 0 0 [(0, tr 4 i)] [] M := by
    rw [fX4_toFirst] at h
    refine tm_aload_n dX4_toFirst_0 rfl rfl ?_
    refine tm_iconst (v := 0) dX4_toFirst_1 (by decide) ?_
    replace h := bnd_some h
    obtain ⟨M1, eM1, h⟩ := h
    refine tm_put kX4 rfl (j := 8) (by decide) wfX4_61 rfl dX4_toFirst_2 (fun _ => ⟨rfl, rfl⟩) (tPut_I 0 rfl) ?_
    refine tm_nmM eM1 ?_
    refine tm_aload_n dX4_toFirst_5 rfl rfl ?_
    refine tm_aload_n dX4_toFirst_6 rfl rfl ?_
    refine tm_get kX4 rfl (j := 6) (by decide) wfX4_58 dX4_toFirst_7 (v := ti (mI M1 4 i 6)) rfl ?_
    replace h := bnd_some h
    obtain ⟨M2, eM2, h⟩ := h
    refine tm_put kX4 rfl (j := 9) (by decide) wfX4_64 rfl dX4_toFirst_10 (fun _ => ⟨rfl, rfl⟩) (tPut_I (mI M1 4 i 6) rfl) ?_
    refine tm_nmM eM2 ?_
    refine tm_aload_n dX4_toFirst_13 rfl rfl ?_
    refine tm_iconst (v := 0) dX4_toFirst_14 (by decide) ?_
    replace h := bnd_some h
    obtain ⟨M3, eM3, h⟩ := h
    refine tm_put kX4 rfl (j := 11) (by decide) wfX4_67 rfl dX4_toFirst_15 (fun _ => ⟨rfl, rfl⟩) (tPut_I 0 rfl) ?_
    refine tm_nmM eM3 ?_
    refine tm_aload_n dX4_toFirst_18 rfl rfl ?_
    refine tm_get kX4 rfl (j := 5) (by decide) wfX4_9 dX4_toFirst_19 (v := tr 505 i) rfl ?_
    refine tm_iconst (v := 0) dX4_toFirst_22 (by decide) ?_
    refine tm_aload_n dX4_toFirst_23 rfl rfl ?_
    refine tm_get kX4 rfl (j := 7) (by decide) wfX4_15 dX4_toFirst_24 (v := tr 507 i) rfl ?_
    refine tm_iconst (v := 0) dX4_toFirst_27 (by decide) ?_
    refine tm_aload_n dX4_toFirst_28 rfl rfl ?_
    refine tm_get kX4 rfl (j := 6) (by decide) wfX4_58 dX4_toFirst_29 (v := ti (mI M3 4 i 6)) rfl ?_
    replace h := chk_some h
    obtain ⟨b4, h⟩ := h
    replace h := bnd_some h
    obtain ⟨M5, eM5, h⟩ := h
    have q6 := (cpok_of b4)
    refine tm_copyL rfl rfl wcwX4_70 ⟨by decide, by decide⟩ dX4_toFirst_32 q6.1 q6.2.1 q6.2.2.1 q6.2.2.2.1 q6.2.2.2.2 ?_
    refine tm_nmM eM5 ?_
    obtain rfl := Option.some.inj h
    exact tm_vret rfl dX4_toFirst_35
  exact TMet.of (by decide) (Nat.le_of_ble_eq_true rfl) key
abbrev iX4_thingAt : tY := (RX4, cX4_thingAt, 2, some .long, "thingAt")
abbrev rmX4_thingAt : Room := { frames := 0, cells := 0, slots := 0, locals := 0 }
def fX4_thingAt (i : Nat) (a1 : Int32) (M : tM) : Option (Int64) :=
  if a1 < 0 then (
  some 0
  ) else (
  if (mI M 4 i 9) ≤ a1 then (
  some 0
  ) else (
  chk (nz4 400) <|
  chk (inb (((mI M 4 i 8) + a1) - ((mI M 4 i 8) + a1) / 400 * 400) (mN M 507 i)) <|
  some (mL M 507 i ((((mI M 4 i 8) + a1) - ((mI M 4 i 8) + a1) / 400 * 400).toNatClampNeg))
  )
  )
set_option maxHeartbeats 4000000 in
set_option maxRecDepth 100000 in
theorem okX4_thingAt {g : tG} {i : Nat} {a1 : Int32} {M : tM} {v : Int64} (h : fX4_thingAt i a1 M = some v) : TMet g yX4_thingAt (Cond.code yX4_thingAt cX4_thingAt 2 (some .long) :: tgd) rmX4_thingAt [tr 4 i, ti a1] M (some (tl v)) M 0 0 := by
  have key : TW g iX4_thingAt rmX4_thingAt 0 0 (some (tl v)) M 0 0 0 [(0, tr 4 i), (1, ti a1)] [] M := by
    rw [fX4_thingAt] at h
    refine tm_iload_n dX4_thingAt_0 rfl rfl ?_
    refine tm_if_lt (tgt := 30) dX4_thingAt_1 (by decide) (fun c1 => ?_) (fun c1 => ?_)
    · rw [if_pos c1] at h
      refine tm_lconst (v := 0) dX4_thingAt_30 (by decide) ?_
      obtain rfl := Option.some.inj h
      exact tm_lret rfl dX4_thingAt_31
    · rw [if_neg c1] at h
      refine tm_iload_n dX4_thingAt_4 rfl rfl ?_
      refine tm_aload_n dX4_thingAt_5 rfl rfl ?_
      refine tm_get kX4 rfl (j := 9) (by decide) wfX4_64 dX4_thingAt_6 (v := ti (mI M 4 i 9)) rfl ?_
      refine tm_icmp_ge (tgt := 30) dX4_thingAt_9 (by decide) (fun c2 => ?_) (fun c2 => ?_)
      · rw [if_pos c2] at h
        refine tm_lconst (v := 0) dX4_thingAt_30 (by decide) ?_
        obtain rfl := Option.some.inj h
        exact tm_lret rfl dX4_thingAt_31
      · rw [if_neg c2] at h
        refine tm_aload_n dX4_thingAt_12 rfl rfl ?_
        refine tm_get kX4 rfl (j := 7) (by decide) wfX4_15 dX4_thingAt_13 (v := tr 507 i) rfl ?_
        refine tm_aload_n dX4_thingAt_16 rfl rfl ?_
        refine tm_get kX4 rfl (j := 8) (by decide) wfX4_61 dX4_thingAt_17 (v := ti (mI M 4 i 8)) rfl ?_
        refine tm_iload_n dX4_thingAt_20 rfl rfl ?_
        refine tm_iadd dX4_thingAt_21 ?_
        refine tm_sipush (v := 400) dX4_thingAt_22 (by decide) ?_
        replace h := chk_some h
        obtain ⟨b3, h⟩ := h
        refine tm_irem dX4_thingAt_25 (nz4_ne b3) ?_
        replace h := chk_some h
        obtain ⟨b4, h⟩ := h
        refine tm_lald rfl dX4_thingAt_26 (inb_vp b4) ?_
        refine tm_goto (tgt := 31) dX4_thingAt_27 (by decide) ?_
        obtain rfl := Option.some.inj h
        exact tm_lret rfl dX4_thingAt_31
  exact TMet.of (by decide) (Nat.le_of_ble_eq_true rfl) key
theorem wcX4_76 : tCB RX4 76 yJ9_min_7cf53 cJ9_min_7cf53 2 (some .int) 2 ∧ Cond.methodLink RX4 76 yJ9_min_7cf53 ∈ tgd ∧ Cond.static yJ9_min_7cf53 ∈ tgd := ⟨⟨(tgd_t 520 (by decide +kernel) (by decide +kernel)), (tgd_t 12 (by decide +kernel) (by decide +kernel)), by decide, by decide +kernel⟩, (tgd_t 1132 (by decide +kernel) (by decide +kernel)), (tgd_t 519 (by decide +kernel) (by decide +kernel))⟩
theorem wcX4_82 : tCB RX4 82 yJ9_max_7cf53 cJ9_max_7cf53 2 (some .int) 2 ∧ Cond.methodLink RX4 82 yJ9_max_7cf53 ∈ tgd ∧ Cond.static yJ9_max_7cf53 ∈ tgd := ⟨⟨(tgd_t 399 (by decide +kernel) (by decide +kernel)), (tgd_t 12 (by decide +kernel) (by decide +kernel)), by decide, by decide +kernel⟩, (tgd_t 1133 (by decide +kernel) (by decide +kernel)), (tgd_t 398 (by decide +kernel) (by decide +kernel))⟩
abbrev iX4_drop : tY := (RX4, cX4_drop, 3, none, "drop")
abbrev rmX4_drop : Room := { frames := 1, cells := 0, slots := 0, locals := 21 }
def fX4_drop (i : Nat) (a1 : Int32) (M : tM) : Option (tM) :=
  (fJ9_min_7cf53 a1 (mI M 4 i 9) M).bind fun x1 =>
  (fJ9_max_7cf53 0 x1 M).bind fun x3 =>
  chk (nz4 400) <|
  bnd (sI M 4 i 8 (((mI M 4 i 8) + x3) - ((mI M 4 i 8) + x3) / 400 * 400)) fun M6 =>
  bnd (sI M6 4 i 9 ((mI M6 4 i 9) - x3)) fun M7 =>
  some M7
set_option maxHeartbeats 4000000 in
set_option maxRecDepth 100000 in
theorem okX4_drop {g : tG} {i : Nat} {a1 : Int32} {M : tM} {Mz : tM} (h : fX4_drop i a1 M = some Mz) : TMet g yX4_drop (Cond.code yX4_drop cX4_drop 3 (none) :: tgd) rmX4_drop [tr 4 i, ti a1] M none Mz 0 0 := by
  have key : TW g iX4_drop rmX4_drop 0 0 none Mz 0 0 0 [(0, tr 4 i), (1, ti a1)] [] M := by
    rw [fX4_drop] at h
    refine tm_iconst (v := 0) dX4_drop_0 (by decide) ?_
    refine tm_iload_n dX4_drop_1 rfl rfl ?_
    refine tm_aload_n dX4_drop_2 rfl rfl ?_
    refine tm_get kX4 rfl (j := 9) (by decide) wfX4_64 dX4_drop_3 (v := ti (mI M 4 i 9)) rfl ?_
    replace h := obind_some h
    obtain ⟨x1, hc2, h⟩ := h
    refine tm_callS (avs := [ti a1, ti (mI M 4 i 9)]) (st := [ti 0]) (okJ9_min_7cf53 hc2) wcX4_76.1 wcX4_76.2.1 wcX4_76.2.2 ⟨rfl, rfl, Nat.le_of_ble_eq_true rfl, Nat.le_of_ble_eq_true rfl⟩ rfl (Nat.le_of_ble_eq_true rfl) ⟨Nat.zero_le _, Nat.zero_le _⟩ dX4_drop_6 ?_
    replace h := obind_some h
    obtain ⟨x3, hc4, h⟩ := h
    refine tm_callS (avs := [ti 0, ti x1]) (st := []) (okJ9_max_7cf53 hc4) wcX4_82.1 wcX4_82.2.1 wcX4_82.2.2 ⟨rfl, rfl, Nat.le_of_ble_eq_true rfl, Nat.le_of_ble_eq_true rfl⟩ rfl (Nat.le_of_ble_eq_true rfl) ⟨Nat.zero_le _, Nat.zero_le _⟩ dX4_drop_9 ?_
    refine tm_istore_n (lc' := [(2, ti x3), (0, tr 4 i), (1, ti a1)]) dX4_drop_12 rfl (by decide) rfl ?_
    refine tm_aload_n dX4_drop_13 rfl rfl ?_
    refine tm_aload_n dX4_drop_14 rfl rfl ?_
    refine tm_get kX4 rfl (j := 8) (by decide) wfX4_61 dX4_drop_15 (v := ti (mI M 4 i 8)) rfl ?_
    refine tm_iload_n dX4_drop_18 rfl rfl ?_
    refine tm_iadd dX4_drop_19 ?_
    refine tm_sipush (v := 400) dX4_drop_20 (by decide) ?_
    replace h := chk_some h
    obtain ⟨b5, h⟩ := h
    refine tm_irem dX4_drop_23 (nz4_ne b5) ?_
    replace h := bnd_some h
    obtain ⟨M6, eM6, h⟩ := h
    refine tm_put kX4 rfl (j := 8) (by decide) wfX4_61 rfl dX4_drop_24 (fun _ => ⟨rfl, rfl⟩) (tPut_I (((mI M 4 i 8) + x3) - ((mI M 4 i 8) + x3) / 400 * 400) rfl) ?_
    refine tm_nmM eM6 ?_
    refine tm_aload_n dX4_drop_27 rfl rfl ?_
    refine tm_dup dX4_drop_28 rfl ?_
    refine tm_get kX4 rfl (j := 9) (by decide) wfX4_64 dX4_drop_29 (v := ti (mI M6 4 i 9)) rfl ?_
    refine tm_iload_n dX4_drop_32 rfl rfl ?_
    refine tm_isub dX4_drop_33 ?_
    replace h := bnd_some h
    obtain ⟨M7, eM7, h⟩ := h
    refine tm_put kX4 rfl (j := 9) (by decide) wfX4_64 rfl dX4_drop_34 (fun _ => ⟨rfl, rfl⟩) (tPut_I ((mI M6 4 i 9) - x3) rfl) ?_
    refine tm_nmM eM7 ?_
    obtain rfl := Option.some.inj h
    exact tm_vret rfl dX4_drop_37
  exact TMet.of (by decide) (Nat.le_of_ble_eq_true rfl) key
theorem wfX4_18 : Cond.fieldLink RX4 18 "EvenFlow$Line" "everGiven" "[J" ∈ tgd := (tgd_t 591 (by decide +kernel) (by decide +kernel))
abbrev iX4_put : tY := (RX4, cX4_put, 3, none, "put")
abbrev rmX4_put : Room := { frames := 0, cells := 0, slots := 0, locals := 0 }
def fX4_put (i : Nat) (a1 : Int64) (M : tM) : Option (tM) :=
  if (mI M 4 i 9) < 400 then (
  chk (nz4 400) <|
  chk (inb (((mI M 4 i 8) + (mI M 4 i 9)) - ((mI M 4 i 8) + (mI M 4 i 9)) / 400 * 400) (mN M 507 i)) <|
  bnd (sL M 507 i ((((mI M 4 i 8) + (mI M 4 i 9)) - ((mI M 4 i 8) + (mI M 4 i 9)) / 400 * 400).toNatClampNeg) a1) fun M4 =>
  bnd (sI M4 4 i 9 ((mI M4 4 i 9) + 1)) fun M5 =>
  if 200 ≤ (mI M5 4 i 11) then (
  some M5
  ) else (
  chk (inb (mI M5 4 i 11) (mN M5 510 i)) <|
  bnd (sL M5 510 i ((mI M5 4 i 11).toNatClampNeg) a1) fun M8 =>
  bnd (sI M8 4 i 11 ((mI M8 4 i 11) + 1)) fun M9 =>
  some M9
  )
  ) else (
  some M
  )
set_option maxHeartbeats 4000000 in
set_option maxRecDepth 100000 in
theorem okX4_put {g : tG} {i : Nat} {a1 : Int64} {M : tM} {Mz : tM} (h : fX4_put i a1 M = some Mz) : TMet g yX4_put (Cond.code yX4_put cX4_put 3 (none) :: tgd) rmX4_put [tr 4 i, tl a1] M none Mz 0 0 := by
  have key : TW g iX4_put rmX4_put 0 0 none Mz 0 0 0 [(0, tr 4 i), (1, tl a1)] [] M := by
    rw [fX4_put] at h
    refine tm_aload_n dX4_put_0 rfl rfl ?_
    refine tm_get kX4 rfl (j := 9) (by decide) wfX4_64 dX4_put_1 (v := ti (mI M 4 i 9)) rfl ?_
    refine tm_sipush (v := 400) dX4_put_4 (by decide) ?_
    refine tm_icmp_lt (tgt := 11) dX4_put_7 (by decide) (fun c1 => ?_) (fun c1 => ?_)
    · rw [if_pos c1] at h
      refine tm_aload_n dX4_put_11 rfl rfl ?_
      refine tm_get kX4 rfl (j := 7) (by decide) wfX4_15 dX4_put_12 (v := tr 507 i) rfl ?_
      refine tm_aload_n dX4_put_15 rfl rfl ?_
      refine tm_get kX4 rfl (j := 8) (by decide) wfX4_61 dX4_put_16 (v := ti (mI M 4 i 8)) rfl ?_
      refine tm_aload_n dX4_put_19 rfl rfl ?_
      refine tm_get kX4 rfl (j := 9) (by decide) wfX4_64 dX4_put_20 (v := ti (mI M 4 i 9)) rfl ?_
      refine tm_iadd dX4_put_23 ?_
      refine tm_sipush (v := 400) dX4_put_24 (by decide) ?_
      replace h := chk_some h
      obtain ⟨b2, h⟩ := h
      refine tm_irem dX4_put_27 (nz4_ne b2) ?_
      refine tm_lload_n dX4_put_28 rfl rfl ?_
      replace h := chk_some h
      obtain ⟨b3, h⟩ := h
      replace h := bnd_some h
      obtain ⟨M4, eM4, h⟩ := h
      refine tm_last rfl dX4_put_29 (inb_vp b3) ?_
      refine tm_nmM eM4 ?_
      refine tm_aload_n dX4_put_30 rfl rfl ?_
      refine tm_dup dX4_put_31 rfl ?_
      refine tm_get kX4 rfl (j := 9) (by decide) wfX4_64 dX4_put_32 (v := ti (mI M4 4 i 9)) rfl ?_
      refine tm_iconst (v := 1) dX4_put_35 (by decide) ?_
      refine tm_iadd dX4_put_36 ?_
      replace h := bnd_some h
      obtain ⟨M5, eM5, h⟩ := h
      refine tm_put kX4 rfl (j := 9) (by decide) wfX4_64 rfl dX4_put_37 (fun _ => ⟨rfl, rfl⟩) (tPut_I ((mI M4 4 i 9) + 1) rfl) ?_
      refine tm_nmM eM5 ?_
      refine tm_aload_n dX4_put_40 rfl rfl ?_
      refine tm_get kX4 rfl (j := 11) (by decide) wfX4_67 dX4_put_41 (v := ti (mI M5 4 i 11)) rfl ?_
      refine tm_sipush (v := 200) dX4_put_44 (by decide) ?_
      refine tm_icmp_ge (tgt := 70) dX4_put_47 (by decide) (fun c6 => ?_) (fun c6 => ?_)
      · rw [if_pos c6] at h
        obtain rfl := Option.some.inj h
        exact tm_vret rfl dX4_put_70
      · rw [if_neg c6] at h
        refine tm_aload_n dX4_put_50 rfl rfl ?_
        refine tm_get kX4 rfl (j := 10) (by decide) wfX4_18 dX4_put_51 (v := tr 510 i) rfl ?_
        refine tm_aload_n dX4_put_54 rfl rfl ?_
        refine tm_get kX4 rfl (j := 11) (by decide) wfX4_67 dX4_put_55 (v := ti (mI M5 4 i 11)) rfl ?_
        refine tm_lload_n dX4_put_58 rfl rfl ?_
        replace h := chk_some h
        obtain ⟨b7, h⟩ := h
        replace h := bnd_some h
        obtain ⟨M8, eM8, h⟩ := h
        refine tm_last rfl dX4_put_59 (inb_vp b7) ?_
        refine tm_nmM eM8 ?_
        refine tm_aload_n dX4_put_60 rfl rfl ?_
        refine tm_dup dX4_put_61 rfl ?_
        refine tm_get kX4 rfl (j := 11) (by decide) wfX4_67 dX4_put_62 (v := ti (mI M8 4 i 11)) rfl ?_
        refine tm_iconst (v := 1) dX4_put_65 (by decide) ?_
        refine tm_iadd dX4_put_66 ?_
        replace h := bnd_some h
        obtain ⟨M9, eM9, h⟩ := h
        refine tm_put kX4 rfl (j := 11) (by decide) wfX4_67 rfl dX4_put_67 (fun _ => ⟨rfl, rfl⟩) (tPut_I ((mI M8 4 i 11) + 1) rfl) ?_
        refine tm_nmM eM9 ?_
        obtain rfl := Option.some.inj h
        exact tm_vret rfl dX4_put_70
    · rw [if_neg c1] at h
      obtain rfl := Option.some.inj h
      exact tm_vret rfl dX4_put_10
  exact TMet.of (by decide) (Nat.le_of_ble_eq_true rfl) key
theorem wcX4_87 : tCB RX4 87 yX4_endOf cX4_endOf 2 (some .int) 1 ∧ Cond.methodLink RX4 87 yX4_endOf ∈ tgd ∧ Cond.instanceMethod yX4_endOf ∈ tgd ∧ Cond.selects RX4 yX4_endOf yX4_endOf ∈ tgd := ⟨⟨(tgd_t 689 (by decide +kernel) (by decide +kernel)), (tgd_t 15 (by decide +kernel) (by decide +kernel)), by decide, by decide +kernel⟩, (tgd_t 1216 (by decide +kernel) (by decide +kernel)), (tgd_t 687 (by decide +kernel) (by decide +kernel)), (tgd_t 688 (by decide +kernel) (by decide +kernel))⟩
theorem wcX4_90 : tCB RX4 90 yX4_thingAt cX4_thingAt 2 (some .long) 1 ∧ Cond.methodLink RX4 90 yX4_thingAt ∈ tgd ∧ Cond.instanceMethod yX4_thingAt ∈ tgd ∧ Cond.selects RX4 yX4_thingAt yX4_thingAt ∈ tgd := ⟨⟨(tgd_t 1090 (by decide +kernel) (by decide +kernel)), (tgd_t 15 (by decide +kernel) (by decide +kernel)), by decide, by decide +kernel⟩, (tgd_t 1217 (by decide +kernel) (by decide +kernel)), (tgd_t 1088 (by decide +kernel) (by decide +kernel)), (tgd_t 1089 (by decide +kernel) (by decide +kernel))⟩
theorem wconstlX4_85 : Cond.constantLong RX4 85 31 ∈ tgd := (tgd_t 1215 (by decide +kernel) (by decide +kernel))
abbrev iX4_digestFrom : tY := (RX4, cX4_digestFrom, 4, some .long, "digestFrom")
abbrev rmX4_digestFrom : Room := { frames := 2, cells := 0, slots := 0, locals := 42 }
def fX4_digestFrom_l2 (z0 : Nat) (M : tM) : Nat → Int64 → Int32 → Option (Int64)
  | 0, _, _ => none
  | n + 1, y1, y3 =>
    if 4 < y3 then (
    some y1
    ) else (
    (fX4_endOf z0 y3 M).bind fun x2 =>
    bnd ((31 * y1) + (x2.toInt64)) fun x4 =>
    bnd (y3 + 1) fun x5 =>
    fX4_digestFrom_l2 z0 M n x4 x5
    )
def fX4_digestFrom_l40 (z0 : Nat) (M : tM) : Nat → Int64 → Int32 → Option (Int64)
  | 0, _, _ => none
  | n + 1, y1, y3 =>
    if (mI M 4 z0 9) ≤ y3 then (
    some y1
    ) else (
    (fX4_thingAt z0 y3 M).bind fun x11 =>
    bnd ((31 * y1) + x11) fun x13 =>
    bnd (y3 + 1) fun x14 =>
    fX4_digestFrom_l40 z0 M n x13 x14
    )
def fX4_digestFrom (i : Nat) (a1 : Int64) (M : tM) : Option (Int64) :=
  Option.bind (fX4_digestFrom_l2 i M FU a1 0) fun x8 =>
  bnd ((31 * x8) + ((mI M 4 i 9).toInt64)) fun x9 =>
  Option.bind (fX4_digestFrom_l40 i M FU x9 0) fun x17 =>
  some x17
set_option maxHeartbeats 4000000 in
set_option maxRecDepth 100000 in
theorem okX4_digestFrom_l2 {g : tG} (z0 : Nat) (M : tM) {r : Option tV} {Mz : tM} : ∀ (n : Nat) (y1 : Int64) (y3 : Int32) (w : Int64), fX4_digestFrom_l2 z0 M n y1 y3 = some w → (∀ (w1 : Int64), w1 = w → TW g iX4_digestFrom rmX4_digestFrom 0 0 r Mz 0 0 26 [(0, tr 4 z0), (1, tl w1)] [] M) → TW g iX4_digestFrom rmX4_digestFrom 0 0 r Mz 0 0 2 [(0, tr 4 z0), (1, tl y1), (3, ti y3)] [] M := by
  intro n
  induction n with
  | zero => intro y1 y3 w h; cases h
  | succ n ih =>
    intro y1 y3 w h J
    rw [fX4_digestFrom_l2] at h
    refine tm_iload_n dX4_digestFrom_2 rfl rfl ?_
    refine tm_iconst (v := 4) dX4_digestFrom_3 (by decide) ?_
    refine tm_icmp_gt (tgt := 26) dX4_digestFrom_4 (by decide) (fun c1 => ?_) (fun c1 => ?_)
    · rw [if_pos c1] at h
      obtain rfl := Option.some.inj h
      refine tm_lcp [0, 1] rfl ?_
      exact J _ rfl
    · rw [if_neg c1] at h
      refine tm_ldc2 (v := 31) dX4_digestFrom_7 wconstlX4_85 ?_
      refine tm_lload_n dX4_digestFrom_10 rfl rfl ?_
      refine tm_lmul dX4_digestFrom_11 ?_
      refine tm_aload_n dX4_digestFrom_12 rfl rfl ?_
      refine tm_iload_n dX4_digestFrom_13 rfl rfl ?_
      replace h := obind_some h
      obtain ⟨x2, hc3, h⟩ := h
      refine tm_callV kX4 rfl (avs := [ti y3]) (st := [tl (31 * y1)]) (okX4_endOf hc3) wcX4_87.1 wcX4_87.2.1 wcX4_87.2.2.1 wcX4_87.2.2.2 ⟨rfl, rfl, Nat.le_of_ble_eq_true rfl, Nat.le_of_ble_eq_true rfl⟩ rfl (Nat.le_of_ble_eq_true rfl) ⟨Nat.zero_le _, Nat.zero_le _⟩ dX4_digestFrom_14 ?_
      refine tm_i2l dX4_digestFrom_17 ?_
      refine tm_ladd dX4_digestFrom_18 ?_
      replace h := bnd_some h
      obtain ⟨x4, ex4, h⟩ := h
      refine tm_nmL ex4 ?_
      refine tm_lstore_n (lc' := [(1, tl x4), (0, tr 4 z0), (3, ti y3)]) dX4_digestFrom_19 rfl (by decide) rfl ?_
      replace h := bnd_some h
      obtain ⟨x5, ex5, h⟩ := h
      refine tm_iinc (v := x5) (lc' := [(3, ti x5), (1, tl x4), (0, tr 4 z0)]) dX4_digestFrom_20 rfl (by rw [ex5]; rfl) (by decide) rfl ?_
      refine tm_goto (tgt := 2) dX4_digestFrom_23 (by decide) ?_
      refine tm_lcp [0, 1, 3] rfl ?_
      exact ih x4 x5 _ h J
set_option maxHeartbeats 4000000 in
set_option maxRecDepth 100000 in
theorem okX4_digestFrom_l40 {g : tG} (z0 : Nat) (M : tM) {r : Option tV} {Mz : tM} : ∀ (n : Nat) (y1 : Int64) (y3 : Int32) (w : Int64), fX4_digestFrom_l40 z0 M n y1 y3 = some w → (∀ (w1 : Int64), w1 = w → TW g iX4_digestFrom rmX4_digestFrom 0 0 r Mz 0 0 66 [(1, tl w1)] [] M) → TW g iX4_digestFrom rmX4_digestFrom 0 0 r Mz 0 0 40 [(0, tr 4 z0), (1, tl y1), (3, ti y3)] [] M := by
  intro n
  induction n with
  | zero => intro y1 y3 w h; cases h
  | succ n ih =>
    intro y1 y3 w h J
    rw [fX4_digestFrom_l40] at h
    refine tm_iload_n dX4_digestFrom_40 rfl rfl ?_
    refine tm_aload_n dX4_digestFrom_41 rfl rfl ?_
    refine tm_get kX4 rfl (j := 9) (by decide) wfX4_64 dX4_digestFrom_42 (v := ti (mI M 4 z0 9)) rfl ?_
    refine tm_icmp_ge (tgt := 66) dX4_digestFrom_45 (by decide) (fun c10 => ?_) (fun c10 => ?_)
    · rw [if_pos c10] at h
      obtain rfl := Option.some.inj h
      refine tm_lcp [1] rfl ?_
      exact J _ rfl
    · rw [if_neg c10] at h
      refine tm_ldc2 (v := 31) dX4_digestFrom_48 wconstlX4_85 ?_
      refine tm_lload_n dX4_digestFrom_51 rfl rfl ?_
      refine tm_lmul dX4_digestFrom_52 ?_
      refine tm_aload_n dX4_digestFrom_53 rfl rfl ?_
      refine tm_iload_n dX4_digestFrom_54 rfl rfl ?_
      replace h := obind_some h
      obtain ⟨x11, hc12, h⟩ := h
      refine tm_callV kX4 rfl (avs := [ti y3]) (st := [tl (31 * y1)]) (okX4_thingAt hc12) wcX4_90.1 wcX4_90.2.1 wcX4_90.2.2.1 wcX4_90.2.2.2 ⟨rfl, rfl, Nat.le_of_ble_eq_true rfl, Nat.le_of_ble_eq_true rfl⟩ rfl (Nat.le_of_ble_eq_true rfl) ⟨Nat.zero_le _, Nat.zero_le _⟩ dX4_digestFrom_55 ?_
      refine tm_ladd dX4_digestFrom_58 ?_
      replace h := bnd_some h
      obtain ⟨x13, ex13, h⟩ := h
      refine tm_nmL ex13 ?_
      refine tm_lstore_n (lc' := [(1, tl x13), (0, tr 4 z0), (3, ti y3)]) dX4_digestFrom_59 rfl (by decide) rfl ?_
      replace h := bnd_some h
      obtain ⟨x14, ex14, h⟩ := h
      refine tm_iinc (v := x14) (lc' := [(3, ti x14), (1, tl x13), (0, tr 4 z0)]) dX4_digestFrom_60 rfl (by rw [ex14]; rfl) (by decide) rfl ?_
      refine tm_goto (tgt := 40) dX4_digestFrom_63 (by decide) ?_
      refine tm_lcp [0, 1, 3] rfl ?_
      exact ih x13 x14 _ h J
set_option maxHeartbeats 4000000 in
set_option maxRecDepth 100000 in
theorem okX4_digestFrom {g : tG} {i : Nat} {a1 : Int64} {M : tM} {v : Int64} (h : fX4_digestFrom i a1 M = some v) : TMet g yX4_digestFrom (Cond.code yX4_digestFrom cX4_digestFrom 4 (some .long) :: tgd) rmX4_digestFrom [tr 4 i, tl a1] M (some (tl v)) M 0 0 := by
  have key : TW g iX4_digestFrom rmX4_digestFrom 0 0 (some (tl v)) M 0 0 0 [(0, tr 4 i), (1, tl a1)] [] M := by
    rw [fX4_digestFrom] at h
    refine tm_iconst (v := 0) dX4_digestFrom_0 (by decide) ?_
    refine tm_istore_n (lc' := [(3, ti 0), (0, tr 4 i), (1, tl a1)]) dX4_digestFrom_1 rfl (by decide) rfl ?_
    replace h := obind_some h
    obtain ⟨w6, hE7, h⟩ := h
    refine tm_lcp [0, 1, 3] rfl ?_
    refine okX4_digestFrom_l2 i M FU a1 0 _ hE7 (fun x8 e => ?_)
    subst e
    refine tm_ldc2 (v := 31) dX4_digestFrom_26 wconstlX4_85 ?_
    refine tm_lload_n dX4_digestFrom_29 rfl rfl ?_
    refine tm_lmul dX4_digestFrom_30 ?_
    refine tm_aload_n dX4_digestFrom_31 rfl rfl ?_
    refine tm_get kX4 rfl (j := 9) (by decide) wfX4_64 dX4_digestFrom_32 (v := ti (mI M 4 i 9)) rfl ?_
    refine tm_i2l dX4_digestFrom_35 ?_
    refine tm_ladd dX4_digestFrom_36 ?_
    replace h := bnd_some h
    obtain ⟨x9, ex9, h⟩ := h
    refine tm_nmL ex9 ?_
    refine tm_lstore_n (lc' := [(1, tl x9), (0, tr 4 i)]) dX4_digestFrom_37 rfl (by decide) rfl ?_
    refine tm_iconst (v := 0) dX4_digestFrom_38 (by decide) ?_
    refine tm_istore_n (lc' := [(3, ti 0), (1, tl x9), (0, tr 4 i)]) dX4_digestFrom_39 rfl (by decide) rfl ?_
    replace h := obind_some h
    obtain ⟨w15, hE16, h⟩ := h
    refine tm_lcp [0, 1, 3] rfl ?_
    refine okX4_digestFrom_l40 i M FU x9 0 _ hE16 (fun x17 e => ?_)
    subst e
    refine tm_lload_n dX4_digestFrom_66 rfl rfl ?_
    obtain rfl := Option.some.inj h
    exact tm_lret rfl dX4_digestFrom_67
  exact TMet.of (by decide) (Nat.le_of_ble_eq_true rfl) key
abbrev iX5_growthBy : tY := (RX5, cX5_growthBy, 5, some .int, "growthBy")
abbrev rmX5_growthBy : Room := { frames := 1, cells := 0, slots := 0, locals := 21 }
def fX5_growthBy_l18 (z1 : Nat) (z2 : Int32) (M : tM) : Nat → Int32 → (Option Nat) → Option (Int32)
  | 0, _, _ => none
  | n + 1, y3, y4 =>
    if y4 = none then (
    some y3
    ) else (
    Option.bind y4 fun i6 =>
    (fX4_givesIn i6 z2 M).bind fun x7 =>
    bnd (y3 + x7) fun x9 =>
    bnd (mR M 4 i6 13) fun r10 =>
    fX5_growthBy_l18 z1 z2 M n x9 r10
    )
def fX5_growthBy_l48 (z2 : Int32) (M : tM) : Nat → Int32 → (Option Nat) → Option (Int32)
  | 0, _, _ => none
  | n + 1, y3, y4 =>
    if y4 = none then (
    some y3
    ) else (
    Option.bind y4 fun i16 =>
    (fX4_takesIn i16 z2 M).bind fun x17 =>
    bnd (y3 - x17) fun x19 =>
    bnd (mR M 4 i16 12) fun r20 =>
    fX5_growthBy_l48 z2 M n x19 r20
    )
def fX5_growthBy (a1 : Option Nat) (M : tM) : Option (Int32) :=
  Option.bind a1 fun i1 =>
  chk (inb (mI M 7 i1 0) (mN M 604 0)) <|
  bnd (mI M 604 0 ((mI M 7 i1 0).toNatClampNeg)) fun x3 =>
  bnd (mR M 7 i1 13) fun r4 =>
  Option.bind (fX5_growthBy_l18 i1 x3 M FU 0 r4) fun x13 =>
  bnd (mR M 7 i1 11) fun r14 =>
  Option.bind (fX5_growthBy_l48 x3 M FU x13 r14) fun x23 =>
  some x23
set_option maxHeartbeats 4000000 in
set_option maxRecDepth 100000 in
theorem okX5_growthBy_l18 {g : tG} (z1 : Nat) (z2 : Int32) (M : tM) {r : Option tV} {Mz : tM} : ∀ (n : Nat) (y3 : Int32) (y4 : Option Nat) (w : Int32), fX5_growthBy_l18 z1 z2 M n y3 y4 = some w → (∀ (w3 : Int32), w3 = w → TW g iX5_growthBy rmX5_growthBy 0 0 r Mz 0 0 42 [(1, tr 7 z1), (2, ti z2), (3, ti w3)] [] M) → TW g iX5_growthBy rmX5_growthBy 0 0 r Mz 0 0 18 [(1, tr 7 z1), (2, ti z2), (3, ti y3), (4, tq 4 y4)] [] M := by
  intro n
  induction n with
  | zero => intro y3 y4 w h; cases h
  | succ n ih =>
    intro y3 y4 w h J
    rw [fX5_growthBy_l18] at h
    refine tm_aload dX5_growthBy_18 rfl ?_
    refine tm_ifnull (k2 := 4) (q := y4) (tgt := 42) dX5_growthBy_20 (by decide) (fun c5 => ?_) (fun c5 => ?_)
    · rw [if_pos c5] at h
      obtain rfl := Option.some.inj h
      refine tm_lcp [1, 2, 3] rfl ?_
      exact J _ rfl
    · rw [if_neg c5] at h
      refine tm_iload_n dX5_growthBy_23 rfl rfl ?_
      refine tm_aload dX5_growthBy_24 rfl ?_
      refine tm_iload_n dX5_growthBy_26 rfl rfl ?_
      replace h := obind_some h
      obtain ⟨i6, ei6, h⟩ := h
      subst ei6
      replace h := obind_some h
      obtain ⟨x7, hc8, h⟩ := h
      refine tm_callV kX4 rfl (avs := [ti z2]) (st := [ti y3]) (okX4_givesIn hc8) wcX5_86.1 wcX5_86.2.1 wcX5_86.2.2.1 wcX5_86.2.2.2 ⟨rfl, rfl, Nat.le_of_ble_eq_true rfl, Nat.le_of_ble_eq_true rfl⟩ rfl (Nat.le_of_ble_eq_true rfl) ⟨Nat.zero_le _, Nat.zero_le _⟩ dX5_growthBy_27 ?_
      refine tm_iadd dX5_growthBy_30 ?_
      replace h := bnd_some h
      obtain ⟨x9, ex9, h⟩ := h
      refine tm_nmI ex9 ?_
      refine tm_istore_n (lc' := [(3, ti x9), (1, tr 7 z1), (2, ti z2), (4, tr 4 i6)]) dX5_growthBy_31 rfl (by decide) rfl ?_
      refine tm_aload dX5_growthBy_32 rfl ?_
      refine tm_get kX4 rfl (j := 13) (by decide) wfX5_89 dX5_growthBy_34 (v := tq 4 (mR M 4 i6 13)) rfl ?_
      replace h := bnd_some h
      obtain ⟨r10, er10, h⟩ := h
      refine tm_nmQ er10 ?_
      refine tm_astore (lc' := [(4, tq 4 r10), (3, ti x9), (1, tr 7 z1), (2, ti z2)]) dX5_growthBy_37 (by decide) rfl ?_
      refine tm_goto (tgt := 18) dX5_growthBy_39 (by decide) ?_
      refine tm_lcp [1, 2, 3, 4] rfl ?_
      exact ih x9 r10 _ h J
set_option maxHeartbeats 4000000 in
set_option maxRecDepth 100000 in
theorem okX5_growthBy_l48 {g : tG} (z2 : Int32) (M : tM) {r : Option tV} {Mz : tM} : ∀ (n : Nat) (y3 : Int32) (y4 : Option Nat) (w : Int32), fX5_growthBy_l48 z2 M n y3 y4 = some w → (∀ (w3 : Int32), w3 = w → TW g iX5_growthBy rmX5_growthBy 0 0 r Mz 0 0 72 [(3, ti w3)] [] M) → TW g iX5_growthBy rmX5_growthBy 0 0 r Mz 0 0 48 [(2, ti z2), (3, ti y3), (4, tq 4 y4)] [] M := by
  intro n
  induction n with
  | zero => intro y3 y4 w h; cases h
  | succ n ih =>
    intro y3 y4 w h J
    rw [fX5_growthBy_l48] at h
    refine tm_aload dX5_growthBy_48 rfl ?_
    refine tm_ifnull (k2 := 4) (q := y4) (tgt := 72) dX5_growthBy_50 (by decide) (fun c15 => ?_) (fun c15 => ?_)
    · rw [if_pos c15] at h
      obtain rfl := Option.some.inj h
      refine tm_lcp [3] rfl ?_
      exact J _ rfl
    · rw [if_neg c15] at h
      refine tm_iload_n dX5_growthBy_53 rfl rfl ?_
      refine tm_aload dX5_growthBy_54 rfl ?_
      refine tm_iload_n dX5_growthBy_56 rfl rfl ?_
      replace h := obind_some h
      obtain ⟨i16, ei16, h⟩ := h
      subst ei16
      replace h := obind_some h
      obtain ⟨x17, hc18, h⟩ := h
      refine tm_callV kX4 rfl (avs := [ti z2]) (st := [ti y3]) (okX4_takesIn hc18) wcX5_76.1 wcX5_76.2.1 wcX5_76.2.2.1 wcX5_76.2.2.2 ⟨rfl, rfl, Nat.le_of_ble_eq_true rfl, Nat.le_of_ble_eq_true rfl⟩ rfl (Nat.le_of_ble_eq_true rfl) ⟨Nat.zero_le _, Nat.zero_le _⟩ dX5_growthBy_57 ?_
      refine tm_isub dX5_growthBy_60 ?_
      replace h := bnd_some h
      obtain ⟨x19, ex19, h⟩ := h
      refine tm_nmI ex19 ?_
      refine tm_istore_n (lc' := [(3, ti x19), (2, ti z2), (4, tr 4 i16)]) dX5_growthBy_61 rfl (by decide) rfl ?_
      refine tm_aload dX5_growthBy_62 rfl ?_
      refine tm_get kX4 rfl (j := 12) (by decide) wfX5_80 dX5_growthBy_64 (v := tq 4 (mR M 4 i16 12)) rfl ?_
      replace h := bnd_some h
      obtain ⟨r20, er20, h⟩ := h
      refine tm_nmQ er20 ?_
      refine tm_astore (lc' := [(4, tq 4 r20), (3, ti x19), (2, ti z2)]) dX5_growthBy_67 (by decide) rfl ?_
      refine tm_goto (tgt := 48) dX5_growthBy_69 (by decide) ?_
      refine tm_lcp [2, 3, 4] rfl ?_
      exact ih x19 r20 _ h J
set_option maxHeartbeats 4000000 in
set_option maxRecDepth 100000 in
theorem okX5_growthBy {g : tG} {a1 : Option Nat} {M : tM} {v : Int32} (h : fX5_growthBy a1 M = some v) : TMet g yX5_growthBy (Cond.code yX5_growthBy cX5_growthBy 5 (some .int) :: tgd) rmX5_growthBy [tr 5 0, tq 7 a1] M (some (ti v)) M 0 0 := by
  have key : TW g iX5_growthBy rmX5_growthBy 0 0 (some (ti v)) M 0 0 0 [(0, tr 5 0), (1, tq 7 a1)] [] M := by
    rw [fX5_growthBy] at h
    refine tm_aload_n dX5_growthBy_0 rfl rfl ?_
    refine tm_get kX5 rfl (j := 4) (by decide) wfX5_21 dX5_growthBy_1 (v := tr 604 0) rfl ?_
    refine tm_aload_n dX5_growthBy_4 rfl rfl ?_
    replace h := obind_some h
    obtain ⟨i1, ei1, h⟩ := h
    subst ei1
    refine tm_get kX7 rfl (j := 0) (by decide) wfX5_68 dX5_growthBy_5 (v := ti (mI M 7 i1 0)) rfl ?_
    replace h := chk_some h
    obtain ⟨b2, h⟩ := h
    refine tm_iald rfl dX5_growthBy_8 (inb_vp b2) ?_
    replace h := bnd_some h
    obtain ⟨x3, ex3, h⟩ := h
    refine tm_nmI ex3 ?_
    refine tm_istore_n (lc' := [(2, ti x3), (0, tr 5 0), (1, tr 7 i1)]) dX5_growthBy_9 rfl (by decide) rfl ?_
    refine tm_iconst (v := 0) dX5_growthBy_10 (by decide) ?_
    refine tm_istore_n (lc' := [(3, ti 0), (2, ti x3), (0, tr 5 0), (1, tr 7 i1)]) dX5_growthBy_11 rfl (by decide) rfl ?_
    refine tm_aload_n dX5_growthBy_12 rfl rfl ?_
    refine tm_get kX7 rfl (j := 13) (by decide) wfX5_83 dX5_growthBy_13 (v := tq 4 (mR M 7 i1 13)) rfl ?_
    replace h := bnd_some h
    obtain ⟨r4, er4, h⟩ := h
    refine tm_nmQ er4 ?_
    refine tm_astore (lc' := [(4, tq 4 r4), (3, ti 0), (2, ti x3), (0, tr 5 0), (1, tr 7 i1)]) dX5_growthBy_16 (by decide) rfl ?_
    replace h := obind_some h
    obtain ⟨w11, hE12, h⟩ := h
    refine tm_lcp [1, 2, 3, 4] rfl ?_
    refine okX5_growthBy_l18 i1 x3 M FU 0 r4 _ hE12 (fun x13 e => ?_)
    subst e
    refine tm_aload_n dX5_growthBy_42 rfl rfl ?_
    refine tm_get kX7 rfl (j := 11) (by decide) wfX5_71 dX5_growthBy_43 (v := tq 4 (mR M 7 i1 11)) rfl ?_
    replace h := bnd_some h
    obtain ⟨r14, er14, h⟩ := h
    refine tm_nmQ er14 ?_
    refine tm_astore (lc' := [(4, tq 4 r14), (1, tr 7 i1), (2, ti x3), (3, ti x13)]) dX5_growthBy_46 (by decide) rfl ?_
    replace h := obind_some h
    obtain ⟨w21, hE22, h⟩ := h
    refine tm_lcp [2, 3, 4] rfl ?_
    refine okX5_growthBy_l48 x3 M FU x13 r14 _ hE22 (fun x23 e => ?_)
    subst e
    refine tm_iload_n dX5_growthBy_72 rfl rfl ?_
    obtain rfl := Option.some.inj h
    exact tm_iret rfl dX5_growthBy_73
  exact TMet.of (by decide) (Nat.le_of_ble_eq_true rfl) key
theorem wcX5_110 : tCB RX5 110 yX5_growthBy cX5_growthBy 5 (some .int) 1 ∧ Cond.methodLink RX5 110 yX5_growthBy ∈ tgd ∧ Cond.instanceMethod yX5_growthBy ∈ tgd ∧ Cond.selects RX5 yX5_growthBy yX5_growthBy ∈ tgd := ⟨⟨(tgd_t 843 (by decide +kernel) (by decide +kernel)), (tgd_t 3 (by decide +kernel) (by decide +kernel)), by decide, by decide +kernel⟩, (tgd_t 840 (by decide +kernel) (by decide +kernel)), (tgd_t 842 (by decide +kernel) (by decide +kernel)), (tgd_p 18 (by decide +kernel) (by decide +kernel))⟩
abbrev iX5_rankBy : tY := (RX5, cX5_rankBy, 3, some .int, "rankBy")
abbrev rmX5_rankBy : Room := { frames := 2, cells := 0, slots := 0, locals := 45 }
def fX5_rankBy (a1 : Int32) (a2 : Option Nat) (M : tM) : Option (Int32) :=
  if a1 = 1 then (
  (fX5_growthBy a2 M).bind fun x1 =>
  some x1
  ) else (
  if a1 = 2 then (
  Option.bind a2 fun i4 =>
  chk (inb (mI M 7 i4 0) (mN M 605 0)) <|
  some (mI M 605 0 ((mI M 7 i4 0).toNatClampNeg))
  ) else (
  some 0
  ))
set_option maxHeartbeats 4000000 in
set_option maxRecDepth 100000 in
theorem okX5_rankBy {g : tG} {a1 : Int32} {a2 : Option Nat} {M : tM} {v : Int32} (h : fX5_rankBy a1 a2 M = some v) : TMet g yX5_rankBy (Cond.code yX5_rankBy cX5_rankBy 3 (some .int) :: tgd) rmX5_rankBy [tr 5 0, ti a1, tq 7 a2] M (some (ti v)) M 0 0 := by
  have key : TW g iX5_rankBy rmX5_rankBy 0 0 (some (ti v)) M 0 0 0 [(0, tr 5 0), (1, ti a1), (2, tq 7 a2)] [] M := by
    rw [fX5_rankBy] at h
    refine tm_iload_n dX5_rankBy_0 rfl rfl ?_
    by_cases c3 : a1 = 1
    · rw [if_pos c3] at h
      subst c3
      refine tm_lookup (tgt := 28) dX5_rankBy_1 (by decide) rfl (by decide) ?_
      refine tm_aload_n dX5_rankBy_28 rfl rfl ?_
      refine tm_aload_n dX5_rankBy_29 rfl rfl ?_
      replace h := obind_some h
      obtain ⟨x1, hc2, h⟩ := h
      refine tm_callV kX5 rfl (avs := [tq 7 a2]) (st := []) (okX5_growthBy hc2) wcX5_110.1 wcX5_110.2.1 wcX5_110.2.2.1 wcX5_110.2.2.2 ⟨rfl, rfl, Nat.le_of_ble_eq_true rfl, Nat.le_of_ble_eq_true rfl⟩ rfl (Nat.le_of_ble_eq_true rfl) ⟨Nat.zero_le _, Nat.zero_le _⟩ dX5_rankBy_30 ?_
      obtain rfl := Option.some.inj h
      exact tm_iret rfl dX5_rankBy_33
    · rw [if_neg c3] at h
      by_cases c6 : a1 = 2
      · rw [if_pos c6] at h
        subst c6
        refine tm_lookup (tgt := 34) dX5_rankBy_1 (by decide) rfl (by decide) ?_
        refine tm_aload_n dX5_rankBy_34 rfl rfl ?_
        refine tm_get kX5 rfl (j := 5) (by decide) wfX5_24 dX5_rankBy_35 (v := tr 605 0) rfl ?_
        refine tm_aload_n dX5_rankBy_38 rfl rfl ?_
        replace h := obind_some h
        obtain ⟨i4, ei4, h⟩ := h
        subst ei4
        refine tm_get kX7 rfl (j := 0) (by decide) wfX5_68 dX5_rankBy_39 (v := ti (mI M 7 i4 0)) rfl ?_
        replace h := chk_some h
        obtain ⟨b5, h⟩ := h
        refine tm_iald rfl dX5_rankBy_42 (inb_vp b5) ?_
        obtain rfl := Option.some.inj h
        exact tm_iret rfl dX5_rankBy_43
      · rw [if_neg c6] at h
        refine tm_lookup (off := 43) (tgt := 44) dX5_rankBy_1 (by decide) (lkup_no c3 c6) (by decide) ?_
        refine tm_iconst (v := 0) dX5_rankBy_44 (by decide) ?_
        obtain rfl := Option.some.inj h
        exact tm_iret rfl dX5_rankBy_45
  exact TMet.of (by decide) (Nat.le_of_ble_eq_true rfl) key
theorem wcX5_106 : tCB RX5 106 yX5_rankBy cX5_rankBy 3 (some .int) 2 ∧ Cond.methodLink RX5 106 yX5_rankBy ∈ tgd ∧ Cond.instanceMethod yX5_rankBy ∈ tgd ∧ Cond.selects RX5 yX5_rankBy yX5_rankBy ∈ tgd := ⟨⟨(tgd_t 839 (by decide +kernel) (by decide +kernel)), (tgd_t 3 (by decide +kernel) (by decide +kernel)), by decide, by decide +kernel⟩, (tgd_t 836 (by decide +kernel) (by decide +kernel)), (tgd_t 838 (by decide +kernel) (by decide +kernel)), (tgd_p 17 (by decide +kernel) (by decide +kernel))⟩
abbrev iX5_chosenBy : tY := (RX5, cX5_chosenBy, 7, some (.object "EvenFlow$Part"), "chosenBy")
abbrev rmX5_chosenBy : Room := { frames := 3, cells := 0, slots := 0, locals := 67 }
def fX5_chosenBy_l7 (z1 : Int32) (M : tM) : Nat → (Option Nat) → Int32 → Int32 → Option ((Option Nat))
  | 0, _, _, _ => none
  | n + 1, y2, y3, y4 =>
    if (mI M 1 0 2) ≤ y4 then (
    some y2
    ) else (
    chk (inb y4 (mN M 200 0)) <|
    bnd (mR M 200 0 (y4.toNatClampNeg)) fun r3 =>
    (fX5_canFire r3 M).bind fun x4 =>
    Option.bind (α := (Option Nat) × Int32) (
    if x4 = 0 then (
    some ((y2, y3))
    ) else (
    (fX5_rankBy z1 r3 M).bind fun x7 =>
    if y2 = none then (
    some ((r3, x7))
    ) else (
    if y3 ≤ x7 then (
    some ((y2, y3))
    ) else (
    some ((r3, x7))
    )
    )
    )
    ) fun (r7, x8) =>
    bnd (y4 + 1) fun x11 =>
    fX5_chosenBy_l7 z1 M n r7 x8 x11
    )
def fX5_chosenBy (a1 : Int32) (M : tM) : Option (Option Nat) :=
  Option.bind (fX5_chosenBy_l7 a1 M FU none 0 0) fun r14 =>
  some r14
set_option maxHeartbeats 4000000 in
set_option maxRecDepth 100000 in
theorem okX5_chosenBy_l7 {g : tG} (z1 : Int32) (M : tM) {r : Option tV} {Mz : tM} : ∀ (n : Nat) (y2 : Option Nat) (y3 : Int32) (y4 : Int32) (w : (Option Nat)), fX5_chosenBy_l7 z1 M n y2 y3 y4 = some w → (∀ (w2 : Option Nat), w2 = w → TW g iX5_chosenBy rmX5_chosenBy 0 0 r Mz 0 0 71 [(2, tq 7 w2)] [] M) → TW g iX5_chosenBy rmX5_chosenBy 0 0 r Mz 0 0 7 [(0, tr 5 0), (1, ti z1), (2, tq 7 y2), (3, ti y3), (4, ti y4)] [] M := by
  intro n
  induction n with
  | zero => intro y2 y3 y4 w h; cases h
  | succ n ih =>
    intro y2 y3 y4 w h J
    rw [fX5_chosenBy_l7] at h
    refine tm_iload dX5_chosenBy_7 rfl ?_
    refine tm_aload_n dX5_chosenBy_9 rfl rfl ?_
    refine tm_get kX5 rfl (j := 0) (by decide) wfX5_27 dX5_chosenBy_10 (v := tr 1 0) rfl ?_
    refine tm_get kX1 rfl (j := 2) (by decide) wfX5_43 dX5_chosenBy_13 (v := ti (mI M 1 0 2)) rfl ?_
    refine tm_icmp_ge (tgt := 71) dX5_chosenBy_16 (by decide) (fun c1 => ?_) (fun c1 => ?_)
    · rw [if_pos c1] at h
      obtain rfl := Option.some.inj h
      refine tm_lcp [2] rfl ?_
      exact J _ rfl
    · rw [if_neg c1] at h
      refine tm_aload_n dX5_chosenBy_19 rfl rfl ?_
      refine tm_get kX5 rfl (j := 0) (by decide) wfX5_27 dX5_chosenBy_20 (v := tr 1 0) rfl ?_
      refine tm_get kX1 rfl (j := 0) (by decide) wfX5_46 dX5_chosenBy_23 (v := tr 200 0) rfl ?_
      refine tm_iload dX5_chosenBy_26 rfl ?_
      replace h := chk_some h
      obtain ⟨b2, h⟩ := h
      refine tm_aald (k2 := 7) ⟨rfl, rfl, rfl, fun _ => rfl⟩ dX5_chosenBy_28 (inb_vp b2) ?_
      replace h := bnd_some h
      obtain ⟨r3, er3, h⟩ := h
      refine tm_nmQ er3 ?_
      refine tm_astore (lc' := [(5, tq 7 r3), (0, tr 5 0), (1, ti z1), (2, tq 7 y2), (3, ti y3), (4, ti y4)]) dX5_chosenBy_29 (by decide) rfl ?_
      refine tm_aload_n dX5_chosenBy_31 rfl rfl ?_
      refine tm_aload dX5_chosenBy_32 rfl ?_
      replace h := obind_some h
      obtain ⟨x4, hc5, h⟩ := h
      refine tm_callV kX5 rfl (avs := [tq 7 r3]) (st := []) (okX5_canFire hc5) wcX5_98.1 wcX5_98.2.1 wcX5_98.2.2.1 wcX5_98.2.2.2 ⟨rfl, rfl, Nat.le_of_ble_eq_true rfl, Nat.le_of_ble_eq_true rfl⟩ rfl (Nat.le_of_ble_eq_true rfl) ⟨Nat.zero_le _, Nat.zero_le _⟩ dX5_chosenBy_34 ?_
      replace h := obind_some h
      obtain ⟨⟨r7, x8⟩, hE9, h⟩ := h
      dsimp only at h
      have J10 : TW g iX5_chosenBy rmX5_chosenBy 0 0 r Mz 0 0 65 [(0, tr 5 0), (1, ti z1), (2, tq 7 r7), (3, ti x8), (4, ti y4)] [] M := by
        replace h := bnd_some h
        obtain ⟨x11, ex11, h⟩ := h
        refine tm_iinc (v := x11) (lc' := [(4, ti x11), (0, tr 5 0), (1, ti z1), (2, tq 7 r7), (3, ti x8)]) dX5_chosenBy_65 rfl (by rw [ex11]; rfl) (by decide) rfl ?_
        refine tm_goto (tgt := 7) dX5_chosenBy_68 (by decide) ?_
        refine tm_lcp [0, 1, 2, 3, 4] rfl ?_
        exact ih r7 x8 x11 _ h J
      refine tm_if_eq (tgt := 65) dX5_chosenBy_37 (by decide) (fun c6 => ?_) (fun c6 => ?_)
      · rw [if_pos c6] at hE9
        obtain ⟨rfl, rfl⟩ := pj2 hE9
        refine tm_lcp [0, 1, 2, 3, 4] rfl ?_
        exact J10
      · rw [if_neg c6] at hE9
        refine tm_aload_n dX5_chosenBy_40 rfl rfl ?_
        refine tm_iload_n dX5_chosenBy_41 rfl rfl ?_
        refine tm_aload dX5_chosenBy_42 rfl ?_
        replace hE9 := obind_some hE9
        obtain ⟨x7, hc8, hE9⟩ := hE9
        refine tm_callV kX5 rfl (avs := [ti z1, tq 7 r3]) (st := []) (okX5_rankBy hc8) wcX5_106.1 wcX5_106.2.1 wcX5_106.2.2.1 wcX5_106.2.2.2 ⟨rfl, rfl, Nat.le_of_ble_eq_true rfl, Nat.le_of_ble_eq_true rfl⟩ rfl (Nat.le_of_ble_eq_true rfl) ⟨Nat.zero_le _, Nat.zero_le _⟩ dX5_chosenBy_44 ?_
        refine tm_istore (lc' := [(6, ti x7), (5, tq 7 r3), (0, tr 5 0), (1, ti z1), (2, tq 7 y2), (3, ti y3), (4, ti y4)]) dX5_chosenBy_47 (by decide) rfl ?_
        refine tm_aload_n dX5_chosenBy_49 rfl rfl ?_
        refine tm_ifnull (k2 := 7) (q := y2) (tgt := 59) dX5_chosenBy_50 (by decide) (fun c9 => ?_) (fun c9 => ?_)
        · rw [if_pos c9] at hE9
          refine tm_aload dX5_chosenBy_59 rfl ?_
          refine tm_astore_n (lc' := [(2, tq 7 r3), (6, ti x7), (5, tq 7 r3), (0, tr 5 0), (1, ti z1), (3, ti y3), (4, ti y4)]) dX5_chosenBy_61 rfl (by decide) rfl ?_
          refine tm_iload dX5_chosenBy_62 rfl ?_
          refine tm_istore_n (lc' := [(3, ti x7), (2, tq 7 r3), (6, ti x7), (5, tq 7 r3), (0, tr 5 0), (1, ti z1), (4, ti y4)]) dX5_chosenBy_64 rfl (by decide) rfl ?_
          obtain ⟨rfl, rfl⟩ := pj2 hE9
          refine tm_lcp [0, 1, 2, 3, 4] rfl ?_
          exact J10
        · rw [if_neg c9] at hE9
          refine tm_iload dX5_chosenBy_53 rfl ?_
          refine tm_iload_n dX5_chosenBy_55 rfl rfl ?_
          refine tm_icmp_ge (tgt := 65) dX5_chosenBy_56 (by decide) (fun c10 => ?_) (fun c10 => ?_)
          · rw [if_pos c10] at hE9
            obtain ⟨rfl, rfl⟩ := pj2 hE9
            refine tm_lcp [0, 1, 2, 3, 4] rfl ?_
            exact J10
          · rw [if_neg c10] at hE9
            refine tm_aload dX5_chosenBy_59 rfl ?_
            refine tm_astore_n (lc' := [(2, tq 7 r3), (6, ti x7), (5, tq 7 r3), (0, tr 5 0), (1, ti z1), (3, ti y3), (4, ti y4)]) dX5_chosenBy_61 rfl (by decide) rfl ?_
            refine tm_iload dX5_chosenBy_62 rfl ?_
            refine tm_istore_n (lc' := [(3, ti x7), (2, tq 7 r3), (6, ti x7), (5, tq 7 r3), (0, tr 5 0), (1, ti z1), (4, ti y4)]) dX5_chosenBy_64 rfl (by decide) rfl ?_
            obtain ⟨rfl, rfl⟩ := pj2 hE9
            refine tm_lcp [0, 1, 2, 3, 4] rfl ?_
            exact J10
set_option maxHeartbeats 4000000 in
set_option maxRecDepth 100000 in
theorem okX5_chosenBy {g : tG} {a1 : Int32} {M : tM} {v : Option Nat} (h : fX5_chosenBy a1 M = some v) : TMet g yX5_chosenBy (Cond.code yX5_chosenBy cX5_chosenBy 7 (some (.object "EvenFlow$Part")) :: tgd) rmX5_chosenBy [tr 5 0, ti a1] M (some (tq 7 v)) M 0 0 := by
  have key : TW g iX5_chosenBy rmX5_chosenBy 0 0 (some (tq 7 v)) M 0 0 0 [(0, tr 5 0), (1, ti a1)] [] M := by
    rw [fX5_chosenBy] at h
    refine tm_null dX5_chosenBy_0 ?_
    refine tm_astore_n (lc' := [(2, tn), (0, tr 5 0), (1, ti a1)]) dX5_chosenBy_1 rfl (by decide) rfl ?_
    refine tm_iconst (v := 0) dX5_chosenBy_2 (by decide) ?_
    refine tm_istore_n (lc' := [(3, ti 0), (2, tn), (0, tr 5 0), (1, ti a1)]) dX5_chosenBy_3 rfl (by decide) rfl ?_
    refine tm_iconst (v := 0) dX5_chosenBy_4 (by decide) ?_
    refine tm_istore (lc' := [(4, ti 0), (3, ti 0), (2, tn), (0, tr 5 0), (1, ti a1)]) dX5_chosenBy_5 (by decide) rfl ?_
    replace h := obind_some h
    obtain ⟨w12, hE13, h⟩ := h
    refine tm_lcp [0, 1, 2, 3, 4] rfl ?_
    refine okX5_chosenBy_l7 a1 M FU none 0 0 _ hE13 (fun r14 e => ?_)
    subst e
    refine tm_aload_n dX5_chosenBy_71 rfl rfl ?_
    obtain rfl := Option.some.inj h
    exact tm_aret rfl dX5_chosenBy_72
  exact TMet.of (by decide) (Nat.le_of_ble_eq_true rfl) key
