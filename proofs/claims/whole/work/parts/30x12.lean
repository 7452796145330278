theorem wcX10_141 : tCB RX10 141 yX10_hasPlaces cX10_hasPlaces 3 (some .boolean) 3 ∧ Cond.methodLink RX10 141 yX10_hasPlaces ∈ tgd ∧ Cond.static yX10_hasPlaces ∈ tgd := ⟨⟨(tgd_t 662 (by decide +kernel) (by decide +kernel)), (tgd_t 1 (by decide +kernel) (by decide +kernel)), by decide, by decide +kernel⟩, (tgd_t 660 (by decide +kernel) (by decide +kernel)), (tgd_t 661 (by decide +kernel) (by decide +kernel))⟩
theorem wcwX10_145 : tCW RX10 145 := ⟨(tgd_t 663 (by decide +kernel) (by decide +kernel)), (tgd_t 523 (by decide +kernel) (by decide +kernel)), (tgd_t 522 (by decide +kernel) (by decide +kernel)), (tgd_t 13 (by decide +kernel) (by decide +kernel))⟩
abbrev iX10_copy : tY := (RX10, cX10_copy, 8, some .int, "copy")
abbrev rmX10_copy : Room := { frames := 4, cells := 0, slots := 0, locals := 87 }
def fX10_copy (a1 : Int32) (a2 : Int32) (a3 : Int32) (a4 : Int32) (a5 : Int32) (M : tM) : Option (Int32 × tM) :=
  (fX1_partAt a1 M).bind fun r1 =>
  (fX1_partAt a3 M).bind fun r3 =>
  if r1 = none then (
  some (((-1), M))
  ) else (
  if r3 = none then (
  some (((-1), M))
  ) else (
  Option.bind r1 fun i7 =>
  if (mI M 7 i7 1) = 5 then (
  Option.bind r3 fun i12 =>
  if (mI M 7 i12 1) = 5 then (
  bnd (mR M 7 i7 9) fun r14 =>
  if r14 = none then (
  (fX10_meets 1 M).bind fun (x16, M18) =>
  some ((x16, M18))
  ) else (
  bnd (mR M 7 i12 9) fun r19 =>
  if r19 = none then (
  (fX10_meets 1 M).bind fun (x46, M48) =>
  some ((x46, M48))
  ) else (
  bnd (mR M 7 i7 9) fun r21 =>
  Option.bind r21 fun i22 =>
  (fX10_hasPlaces 809 i22 a2 a5 M).bind fun x23 =>
  if x23 = 0 then (
  (fX10_meets 2 M).bind fun (x26, M28) =>
  some ((x26, M28))
  ) else (
  bnd (mR M 7 i12 9) fun r29 =>
  Option.bind r29 fun i30 =>
  (fX10_hasPlaces 809 i30 a4 a5 M).bind fun x31 =>
  if x31 = 0 then (
  (fX10_meets 2 M).bind fun (x43, M45) =>
  some ((x43, M45))
  ) else (
  bnd (mR M 7 i7 9) fun r34 =>
  bnd (mR M 7 i12 9) fun r35 =>
  Option.bind r35 fun i36 =>
  Option.bind r34 fun i37 =>
  chk (cpok a2 a4 a5 (mN M 809 i37) (mN M 809 i36)) <|
  bnd (cL M 809 i36 (va_cpy (mL M 809 i37) (mL M 809 i36) (a2.toNatClampNeg) (a4.toNatClampNeg) (a5.toNatClampNeg))) fun M39 =>
  (fX10_toFirstMarking M39).bind fun M42 =>
  some ((1, M42))
  )
  )
  )
  )
  ) else (
  (fX10_meets 3 M).bind fun (x49, M51) =>
  some ((x49, M51))
  )
  ) else (
  (fX10_meets 3 M).bind fun (x9, M11) =>
  some ((x9, M11))
  )
  )
  )
set_option maxHeartbeats 4000000 in
set_option maxRecDepth 100000 in
theorem okX10_copy {g : tG} {a1 : Int32} {a2 : Int32} {a3 : Int32} {a4 : Int32} {a5 : Int32} {M : tM} {v : Int32} {Mz : tM} (h : fX10_copy a1 a2 a3 a4 a5 M = some ((v, Mz))) : TMet g yX10_copy (Cond.code yX10_copy cX10_copy 8 (some .int) :: tgd) rmX10_copy [tr 10 0, ti a1, ti a2, ti a3, ti a4, ti a5] M (some (ti v)) Mz 0 0 := by
  have key : TW g iX10_copy rmX10_copy 0 0 (some (ti v)) Mz 0 0 0 [(0, tr 10 0), (1, ti a1), (2, ti a2), (3, ti a3), (4, ti a4), (5, ti a5)] [] M := by
    rw [fX10_copy] at h
    refine tm_aload_n dX10_copy_0 rfl rfl ?_
    refine tm_get kX10 rfl (j := 0) (by decide) wfX10_10 dX10_copy_1 (v := tr 1 0) rfl ?_
    refine tm_iload_n dX10_copy_4 rfl rfl ?_
    replace h := obind_some h
    obtain ⟨r1, hc2, h⟩ := h
    refine tm_callV kX1 rfl (avs := [ti a1]) (st := []) (okX1_partAt hc2) wcX10_87.1 wcX10_87.2.1 wcX10_87.2.2.1 wcX10_87.2.2.2 ⟨rfl, rfl, Nat.le_of_ble_eq_true rfl, Nat.le_of_ble_eq_true rfl⟩ rfl (Nat.le_of_ble_eq_true rfl) ⟨Nat.zero_le _, Nat.zero_le _⟩ dX10_copy_5 ?_
    refine tm_astore (lc' := [(6, tq 7 r1), (0, tr 10 0), (1, ti a1), (2, ti a2), (3, ti a3), (4, ti a4), (5, ti a5)]) dX10_copy_8 (by decide) rfl ?_
    refine tm_aload_n dX10_copy_10 rfl rfl ?_
    refine tm_get kX10 rfl (j := 0) (by decide) wfX10_10 dX10_copy_11 (v := tr 1 0) rfl ?_
    refine tm_iload_n dX10_copy_14 rfl rfl ?_
    replace h := obind_some h
    obtain ⟨r3, hc4, h⟩ := h
    refine tm_callV kX1 rfl (avs := [ti a3]) (st := []) (okX1_partAt hc4) wcX10_87.1 wcX10_87.2.1 wcX10_87.2.2.1 wcX10_87.2.2.2 ⟨rfl, rfl, Nat.le_of_ble_eq_true rfl, Nat.le_of_ble_eq_true rfl⟩ rfl (Nat.le_of_ble_eq_true rfl) ⟨Nat.zero_le _, Nat.zero_le _⟩ dX10_copy_15 ?_
    refine tm_astore (lc' := [(7, tq 7 r3), (6, tq 7 r1), (0, tr 10 0), (1, ti a1), (2, ti a2), (3, ti a3), (4, ti a4), (5, ti a5)]) dX10_copy_18 (by decide) rfl ?_
    refine tm_aload dX10_copy_20 rfl ?_
    refine tm_ifnull (k2 := 7) (q := r1) (tgt := 30) dX10_copy_22 (by decide) (fun c5 => ?_) (fun c5 => ?_)
    · rw [if_pos c5] at h
      refine tm_iconst (v := (-1)) dX10_copy_30 (by decide) ?_
      obtain ⟨rfl, rfl⟩ := pj2 h
      exact tm_iret rfl dX10_copy_31
    · rw [if_neg c5] at h
      refine tm_aload dX10_copy_25 rfl ?_
      refine tm_ifnonnull (k2 := 7) (q := r3) (tgt := 32) dX10_copy_27 (by decide) (fun c6 => ?_) (fun c6 => ?_)
      · rw [if_neg c6] at h
        refine tm_aload dX10_copy_32 rfl ?_
        replace h := obind_some h
        obtain ⟨i7, ei7, h⟩ := h
        subst ei7
        refine tm_get kX7 rfl (j := 1) (by decide) wfX10_111 dX10_copy_34 (v := ti (mI M 7 i7 1)) rfl ?_
        refine tm_iconst (v := 5) dX10_copy_37 (by decide) ?_
        refine tm_icmp_ne (tgt := 50) dX10_copy_38 (by decide) (fun c8 => ?_) (fun c8 => ?_)
        · rw [if_neg c8] at h
          refine tm_aload_n dX10_copy_50 rfl rfl ?_
          refine tm_iconst (v := 3) dX10_copy_51 (by decide) ?_
          replace h := obind_some h
          obtain ⟨⟨x9, M11⟩, hc10, h⟩ := h
          dsimp only at h
          refine tm_callV kX10 rfl (avs := [ti 3]) (st := []) (okX10_meets hc10) wcX10_76.1 wcX10_76.2.1 wcX10_76.2.2.1 wcX10_76.2.2.2 ⟨rfl, rfl, Nat.le_of_ble_eq_true rfl, Nat.le_of_ble_eq_true rfl⟩ rfl (Nat.le_of_ble_eq_true rfl) ⟨Nat.zero_le _, Nat.zero_le _⟩ dX10_copy_52 ?_
          obtain ⟨rfl, rfl⟩ := pj2 h
          exact tm_iret rfl dX10_copy_55
        · rw [if_pos c8] at h
          refine tm_aload dX10_copy_41 rfl ?_
          replace h := obind_some h
          obtain ⟨i12, ei12, h⟩ := h
          subst ei12
          refine tm_get kX7 rfl (j := 1) (by decide) wfX10_111 dX10_copy_43 (v := ti (mI M 7 i12 1)) rfl ?_
          refine tm_iconst (v := 5) dX10_copy_46 (by decide) ?_
          refine tm_icmp_eq (tgt := 56) dX10_copy_47 (by decide) (fun c13 => ?_) (fun c13 => ?_)
          · rw [if_pos c13] at h
            refine tm_aload dX10_copy_56 rfl ?_
            refine tm_get kX7 rfl (j := 9) (by decide) wfX10_138 dX10_copy_58 (v := tq 809 (mR M 7 i7 9)) rfl ?_
            replace h := bnd_some h
            obtain ⟨r14, er14, h⟩ := h
            refine tm_nmQ er14 ?_
            refine tm_ifnull (k2 := 809) (q := r14) (tgt := 72) dX10_copy_61 (by decide) (fun c15 => ?_) (fun c15 => ?_)
            · rw [if_pos c15] at h
              refine tm_aload_n dX10_copy_72 rfl rfl ?_
              refine tm_iconst (v := 1) dX10_copy_73 (by decide) ?_
              replace h := obind_some h
              obtain ⟨⟨x16, M18⟩, hc17, h⟩ := h
              dsimp only at h
              refine tm_callV kX10 rfl (avs := [ti 1]) (st := []) (okX10_meets hc17) wcX10_76.1 wcX10_76.2.1 wcX10_76.2.2.1 wcX10_76.2.2.2 ⟨rfl, rfl, Nat.le_of_ble_eq_true rfl, Nat.le_of_ble_eq_true rfl⟩ rfl (Nat.le_of_ble_eq_true rfl) ⟨Nat.zero_le _, Nat.zero_le _⟩ dX10_copy_74 ?_
              obtain ⟨rfl, rfl⟩ := pj2 h
              exact tm_iret rfl dX10_copy_77
            · rw [if_neg c15] at h
              refine tm_aload dX10_copy_64 rfl ?_
              refine tm_get kX7 rfl (j := 9) (by decide) wfX10_138 dX10_copy_66 (v := tq 809 (mR M 7 i12 9)) rfl ?_
              replace h := bnd_some h
              obtain ⟨r19, er19, h⟩ := h
              refine tm_nmQ er19 ?_
              refine tm_ifnonnull (k2 := 809) (q := r19) (tgt := 78) dX10_copy_69 (by decide) (fun c20 => ?_) (fun c20 => ?_)
              · rw [if_neg c20] at h
                refine tm_aload dX10_copy_78 rfl ?_
                refine tm_get kX7 rfl (j := 9) (by decide) wfX10_138 dX10_copy_80 (v := tq 809 (mR M 7 i7 9)) rfl ?_
                replace h := bnd_some h
                obtain ⟨r21, er21, h⟩ := h
                refine tm_nmQ er21 ?_
                refine tm_iload_n dX10_copy_83 rfl rfl ?_
                refine tm_iload dX10_copy_84 rfl ?_
                replace h := obind_some h
                obtain ⟨i22, ei22, h⟩ := h
                subst ei22
                replace h := obind_some h
                obtain ⟨x23, hc24, h⟩ := h
                refine tm_callS (avs := [tr 809 i22, ti a2, ti a5]) (st := []) (okX10_hasPlaces hc24) wcX10_141.1 wcX10_141.2.1 wcX10_141.2.2 ⟨rfl, rfl, Nat.le_of_ble_eq_true rfl, Nat.le_of_ble_eq_true rfl⟩ rfl (Nat.le_of_ble_eq_true rfl) ⟨Nat.zero_le _, Nat.zero_le _⟩ dX10_copy_86 ?_
                refine tm_if_eq (tgt := 107) dX10_copy_89 (by decide) (fun c25 => ?_) (fun c25 => ?_)
                · rw [if_pos c25] at h
                  refine tm_aload_n dX10_copy_107 rfl rfl ?_
                  refine tm_iconst (v := 2) dX10_copy_108 (by decide) ?_
                  replace h := obind_some h
                  obtain ⟨⟨x26, M28⟩, hc27, h⟩ := h
                  dsimp only at h
                  refine tm_callV kX10 rfl (avs := [ti 2]) (st := []) (okX10_meets hc27) wcX10_76.1 wcX10_76.2.1 wcX10_76.2.2.1 wcX10_76.2.2.2 ⟨rfl, rfl, Nat.le_of_ble_eq_true rfl, Nat.le_of_ble_eq_true rfl⟩ rfl (Nat.le_of_ble_eq_true rfl) ⟨Nat.zero_le _, Nat.zero_le _⟩ dX10_copy_109 ?_
                  obtain ⟨rfl, rfl⟩ := pj2 h
                  exact tm_iret rfl dX10_copy_112
                · rw [if_neg c25] at h
                  refine tm_aload dX10_copy_92 rfl ?_
                  refine tm_get kX7 rfl (j := 9) (by decide) wfX10_138 dX10_copy_94 (v := tq 809 (mR M 7 i12 9)) rfl ?_
                  replace h := bnd_some h
                  obtain ⟨r29, er29, h⟩ := h
                  refine tm_nmQ er29 ?_
                  refine tm_iload dX10_copy_97 rfl ?_
                  refine tm_iload dX10_copy_99 rfl ?_
                  replace h := obind_some h
                  obtain ⟨i30, ei30, h⟩ := h
                  subst ei30
                  replace h := obind_some h
                  obtain ⟨x31, hc32, h⟩ := h
                  refine tm_callS (avs := [tr 809 i30, ti a4, ti a5]) (st := []) (okX10_hasPlaces hc32) wcX10_141.1 wcX10_141.2.1 wcX10_141.2.2 ⟨rfl, rfl, Nat.le_of_ble_eq_true rfl, Nat.le_of_ble_eq_true rfl⟩ rfl (Nat.le_of_ble_eq_true rfl) ⟨Nat.zero_le _, Nat.zero_le _⟩ dX10_copy_101 ?_
                  refine tm_if_ne (tgt := 113) dX10_copy_104 (by decide) (fun c33 => ?_) (fun c33 => ?_)
                  · rw [if_neg c33] at h
                    refine tm_aload dX10_copy_113 rfl ?_
                    refine tm_get kX7 rfl (j := 9) (by decide) wfX10_138 dX10_copy_115 (v := tq 809 (mR M 7 i7 9)) rfl ?_
                    replace h := bnd_some h
                    obtain ⟨r34, er34, h⟩ := h
                    refine tm_nmQ er34 ?_
                    refine tm_iload_n dX10_copy_118 rfl rfl ?_
                    refine tm_aload dX10_copy_119 rfl ?_
                    refine tm_get kX7 rfl (j := 9) (by decide) wfX10_138 dX10_copy_121 (v := tq 809 (mR M 7 i12 9)) rfl ?_
                    replace h := bnd_some h
                    obtain ⟨r35, er35, h⟩ := h
                    refine tm_nmQ er35 ?_
                    refine tm_iload dX10_copy_124 rfl ?_
                    refine tm_iload dX10_copy_126 rfl ?_
                    replace h := obind_some h
                    obtain ⟨i36, ei36, h⟩ := h
                    subst ei36
                    replace h := obind_some h
                    obtain ⟨i37, ei37, h⟩ := h
                    subst ei37
                    replace h := chk_some h
                    obtain ⟨b38, h⟩ := h
                    replace h := bnd_some h
                    obtain ⟨M39, eM39, h⟩ := h
                    have q40 := (cpok_of b38)
                    refine tm_copyL rfl rfl wcwX10_145 ⟨by decide, by decide⟩ dX10_copy_128 q40.1 q40.2.1 q40.2.2.1 q40.2.2.2.1 q40.2.2.2.2 ?_
                    refine tm_nmM eM39 ?_
                    refine tm_aload_n dX10_copy_131 rfl rfl ?_
                    replace h := obind_some h
                    obtain ⟨M42, hc41, h⟩ := h
                    refine tm_callV kX10 rfl (avs := []) (st := []) (okX10_toFirstMarking hc41) wcX10_135.1 wcX10_135.2.1 wcX10_135.2.2.1 wcX10_135.2.2.2 ⟨rfl, rfl, Nat.le_of_ble_eq_true rfl, Nat.le_of_ble_eq_true rfl⟩ rfl (Nat.le_of_ble_eq_true rfl) ⟨Nat.zero_le _, Nat.zero_le _⟩ dX10_copy_132 ?_
                    refine tm_iconst (v := 1) dX10_copy_135 (by decide) ?_
                    obtain ⟨rfl, rfl⟩ := pj2 h
                    exact tm_iret rfl dX10_copy_136
                  · rw [if_pos c33] at h
                    refine tm_aload_n dX10_copy_107 rfl rfl ?_
                    refine tm_iconst (v := 2) dX10_copy_108 (by decide) ?_
                    replace h := obind_some h
                    obtain ⟨⟨x43, M45⟩, hc44, h⟩ := h
                    dsimp only at h
                    refine tm_callV kX10 rfl (avs := [ti 2]) (st := []) (okX10_meets hc44) wcX10_76.1 wcX10_76.2.1 wcX10_76.2.2.1 wcX10_76.2.2.2 ⟨rfl, rfl, Nat.le_of_ble_eq_true rfl, Nat.le_of_ble_eq_true rfl⟩ rfl (Nat.le_of_ble_eq_true rfl) ⟨Nat.zero_le _, Nat.zero_le _⟩ dX10_copy_109 ?_
                    obtain ⟨rfl, rfl⟩ := pj2 h
                    exact tm_iret rfl dX10_copy_112
              · rw [if_pos c20] at h
                refine tm_aload_n dX10_copy_72 rfl rfl ?_
                refine tm_iconst (v := 1) dX10_copy_73 (by decide) ?_
                replace h := obind_some h
                obtain ⟨⟨x46, M48⟩, hc47, h⟩ := h
                dsimp only at h
                refine tm_callV kX10 rfl (avs := [ti 1]) (st := []) (okX10_meets hc47) wcX10_76.1 wcX10_76.2.1 wcX10_76.2.2.1 wcX10_76.2.2.2 ⟨rfl, rfl, Nat.le_of_ble_eq_true rfl, Nat.le_of_ble_eq_true rfl⟩ rfl (Nat.le_of_ble_eq_true rfl) ⟨Nat.zero_le _, Nat.zero_le _⟩ dX10_copy_74 ?_
                obtain ⟨rfl, rfl⟩ := pj2 h
                exact tm_iret rfl dX10_copy_77
          · rw [if_neg c13] at h
            refine tm_aload_n dX10_copy_50 rfl rfl ?_
            refine tm_iconst (v := 3) dX10_copy_51 (by decide) ?_
            replace h := obind_some h
            obtain ⟨⟨x49, M51⟩, hc50, h⟩ := h
            dsimp only at h
            refine tm_callV kX10 rfl (avs := [ti 3]) (st := []) (okX10_meets hc50) wcX10_76.1 wcX10_76.2.1 wcX10_76.2.2.1 wcX10_76.2.2.2 ⟨rfl, rfl, Nat.le_of_ble_eq_true rfl, Nat.le_of_ble_eq_true rfl⟩ rfl (Nat.le_of_ble_eq_true rfl) ⟨Nat.zero_le _, Nat.zero_le _⟩ dX10_copy_52 ?_
            obtain ⟨rfl, rfl⟩ := pj2 h
            exact tm_iret rfl dX10_copy_55
      · rw [if_pos c6] at h
        refine tm_iconst (v := (-1)) dX10_copy_30 (by decide) ?_
        obtain ⟨rfl, rfl⟩ := pj2 h
        exact tm_iret rfl dX10_copy_31
  exact TMet.of (by decide) (Nat.le_of_ble_eq_true rfl) key
theorem wfX10_151 : Cond.fieldLink RX10 151 "EvenFlow$Part" "row" "[J" ∈ tgd := (tgd_t 438 (by decide +kernel) (by decide +kernel))
abbrev iX10_tear : tY := (RX10, cX10_tear, 3, some .int, "tear")
abbrev rmX10_tear : Room := { frames := 4, cells := 0, slots := 0, locals := 87 }
def fX10_tear (a1 : Int32) (M : tM) : Option (Int32 × tM) :=
  (fX1_partAt a1 M).bind fun r1 =>
  if r1 = none then (
  some (((-1), M))
  ) else (
  Option.bind r1 fun i4 =>
  if (mI M 7 i4 1) = 5 then (
  bnd (mR M 7 i4 9) fun r6 =>
  if r6 = none then (
  (fX10_meets 1 M).bind fun (x12, M14) =>
  some ((x12, M14))
  ) else (
  bnd (sR M 7 i4 9 none) fun M8 =>
  bnd (sR M8 7 i4 10 none) fun M9 =>
  (fX10_toFirstMarking M9).bind fun M11 =>
  some ((1, M11))
  )
  ) else (
  (fX10_meets 3 M).bind fun (x15, M17) =>
  some ((x15, M17))
  )
  )
set_option maxHeartbeats 4000000 in
set_option maxRecDepth 100000 in
theorem okX10_tear {g : tG} {a1 : Int32} {M : tM} {v : Int32} {Mz : tM} (h : fX10_tear a1 M = some ((v, Mz))) : TMet g yX10_tear (Cond.code yX10_tear cX10_tear 3 (some .int) :: tgd) rmX10_tear [tr 10 0, ti a1] M (some (ti v)) Mz 0 0 := by
  have key : TW g iX10_tear rmX10_tear 0 0 (some (ti v)) Mz 0 0 0 [(0, tr 10 0), (1, ti a1)] [] M := by
    rw [fX10_tear] at h
    refine tm_aload_n dX10_tear_0 rfl rfl ?_
    refine tm_get kX10 rfl (j := 0) (by decide) wfX10_10 dX10_tear_1 (v := tr 1 0) rfl ?_
    refine tm_iload_n dX10_tear_4 rfl rfl ?_
    replace h := obind_some h
    obtain ⟨r1, hc2, h⟩ := h
    refine tm_callV kX1 rfl (avs := [ti a1]) (st := []) (okX1_partAt hc2) wcX10_87.1 wcX10_87.2.1 wcX10_87.2.2.1 wcX10_87.2.2.2 ⟨rfl, rfl, Nat.le_of_ble_eq_true rfl, Nat.le_of_ble_eq_true rfl⟩ rfl (Nat.le_of_ble_eq_true rfl) ⟨Nat.zero_le _, Nat.zero_le _⟩ dX10_tear_5 ?_
    refine tm_astore_n (lc' := [(2, tq 7 r1), (0, tr 10 0), (1, ti a1)]) dX10_tear_8 rfl (by decide) rfl ?_
    refine tm_aload_n dX10_tear_9 rfl rfl ?_
    refine tm_ifnonnull (k2 := 7) (q := r1) (tgt := 15) dX10_tear_10 (by decide) (fun c3 => ?_) (fun c3 => ?_)
    · rw [if_neg c3] at h
      refine tm_aload_n dX10_tear_15 rfl rfl ?_
      replace h := obind_some h
      obtain ⟨i4, ei4, h⟩ := h
      subst ei4
      refine tm_get kX7 rfl (j := 1) (by decide) wfX10_111 dX10_tear_16 (v := ti (mI M 7 i4 1)) rfl ?_
      refine tm_iconst (v := 5) dX10_tear_19 (by decide) ?_
      refine tm_icmp_eq (tgt := 29) dX10_tear_20 (by decide) (fun c5 => ?_) (fun c5 => ?_)
      · rw [if_pos c5] at h
        refine tm_aload_n dX10_tear_29 rfl rfl ?_
        refine tm_get kX7 rfl (j := 9) (by decide) wfX10_138 dX10_tear_30 (v := tq 809 (mR M 7 i4 9)) rfl ?_
        replace h := bnd_some h
        obtain ⟨r6, er6, h⟩ := h
        refine tm_nmQ er6 ?_
        refine tm_ifnonnull (k2 := 809) (q := r6) (tgt := 42) dX10_tear_33 (by decide) (fun c7 => ?_) (fun c7 => ?_)
        · rw [if_neg c7] at h
          refine tm_aload_n dX10_tear_42 rfl rfl ?_
          refine tm_null dX10_tear_43 ?_
          replace h := bnd_some h
          obtain ⟨M8, eM8, h⟩ := h
          refine tm_put kX7 rfl (j := 9) (by decide) wfX10_138 rfl dX10_tear_44 (fun _ => ⟨rfl, rfl⟩) (tPut_R (k2 := 809) none rfl) ?_
          refine tm_nmM eM8 ?_
          refine tm_aload_n dX10_tear_47 rfl rfl ?_
          refine tm_null dX10_tear_48 ?_
          replace h := bnd_some h
          obtain ⟨M9, eM9, h⟩ := h
          refine tm_put kX7 rfl (j := 10) (by decide) wfX10_151 rfl dX10_tear_49 (fun _ => ⟨rfl, rfl⟩) (tPut_R (k2 := 810) none rfl) ?_
          refine tm_nmM eM9 ?_
          refine tm_aload_n dX10_tear_52 rfl rfl ?_
          replace h := obind_some h
          obtain ⟨M11, hc10, h⟩ := h
          refine tm_callV kX10 rfl (avs := []) (st := []) (okX10_toFirstMarking hc10) wcX10_135.1 wcX10_135.2.1 wcX10_135.2.2.1 wcX10_135.2.2.2 ⟨rfl, rfl, Nat.le_of_ble_eq_true rfl, Nat.le_of_ble_eq_true rfl⟩ rfl (Nat.le_of_ble_eq_true rfl) ⟨Nat.zero_le _, Nat.zero_le _⟩ dX10_tear_53 ?_
          refine tm_iconst (v := 1) dX10_tear_56 (by decide) ?_
          obtain ⟨rfl, rfl⟩ := pj2 h
          exact tm_iret rfl dX10_tear_57
        · rw [if_pos c7] at h
          refine tm_aload_n dX10_tear_36 rfl rfl ?_
          refine tm_iconst (v := 1) dX10_tear_37 (by decide) ?_
          replace h := obind_some h
          obtain ⟨⟨x12, M14⟩, hc13, h⟩ := h
          dsimp only at h
          refine tm_callV kX10 rfl (avs := [ti 1]) (st := []) (okX10_meets hc13) wcX10_76.1 wcX10_76.2.1 wcX10_76.2.2.1 wcX10_76.2.2.2 ⟨rfl, rfl, Nat.le_of_ble_eq_true rfl, Nat.le_of_ble_eq_true rfl⟩ rfl (Nat.le_of_ble_eq_true rfl) ⟨Nat.zero_le _, Nat.zero_le _⟩ dX10_tear_38 ?_
          obtain ⟨rfl, rfl⟩ := pj2 h
          exact tm_iret rfl dX10_tear_41
      · rw [if_neg c5] at h
        refine tm_aload_n dX10_tear_23 rfl rfl ?_
        refine tm_iconst (v := 3) dX10_tear_24 (by decide) ?_
        replace h := obind_some h
        obtain ⟨⟨x15, M17⟩, hc16, h⟩ := h
        dsimp only at h
        refine tm_callV kX10 rfl (avs := [ti 3]) (st := []) (okX10_meets hc16) wcX10_76.1 wcX10_76.2.1 wcX10_76.2.2.1 wcX10_76.2.2.2 ⟨rfl, rfl, Nat.le_of_ble_eq_true rfl, Nat.le_of_ble_eq_true rfl⟩ rfl (Nat.le_of_ble_eq_true rfl) ⟨Nat.zero_le _, Nat.zero_le _⟩ dX10_tear_25 ?_
        obtain ⟨rfl, rfl⟩ := pj2 h
        exact tm_iret rfl dX10_tear_28
    · rw [if_pos c3] at h
      refine tm_iconst (v := (-1)) dX10_tear_13 (by decide) ?_
      obtain ⟨rfl, rfl⟩ := pj2 h
      exact tm_iret rfl dX10_tear_14
  exact TMet.of (by decide) (Nat.le_of_ble_eq_true rfl) key
theorem wcX10_154 : tCB RX10 154 yX7_toldOf cX7_toldOf 2 (some .int) 1 ∧ Cond.methodLink RX10 154 yX7_toldOf ∈ tgd ∧ Cond.instanceMethod yX7_toldOf ∈ tgd ∧ Cond.selects RX7 yX7_toldOf yX7_toldOf ∈ tgd := ⟨⟨(tgd_t 675 (by decide +kernel) (by decide +kernel)), (tgd_t 11 (by decide +kernel) (by decide +kernel)), by decide, by decide +kernel⟩, (tgd_t 672 (by decide +kernel) (by decide +kernel)), (tgd_t 673 (by decide +kernel) (by decide +kernel)), (tgd_t 674 (by decide +kernel) (by decide +kernel))⟩
abbrev iX10_told : tY := (RX10, cX10_told, 4, some .int, "told")
abbrev rmX10_told : Room := { frames := 1, cells := 0, slots := 0, locals := 21 }
def fX10_told (a1 : Int32) (a2 : Int32) (M : tM) : Option (Int32) :=
  (fX1_partAt a1 M).bind fun r1 =>
  if r1 = none then (
  some (-1)
  ) else (
  if a2 < 0 then (
  some (-1)
  ) else (
  if a2 ≤ 4 then (
  Option.bind r1 fun i6 =>
  (fX7_toldOf i6 a2 M).bind fun x7 =>
  some x7
  ) else (
  some (-1)
  )
  )
  )
set_option maxHeartbeats 4000000 in
set_option maxRecDepth 100000 in
theorem okX10_told {g : tG} {a1 : Int32} {a2 : Int32} {M : tM} {v : Int32} (h : fX10_told a1 a2 M = some v) : TMet g yX10_told (Cond.code yX10_told cX10_told 4 (some .int) :: tgd) rmX10_told [tr 10 0, ti a1, ti a2] M (some (ti v)) M 0 0 := by
  have key : TW g iX10_told rmX10_told 0 0 (some (ti v)) M 0 0 0 [(0, tr 10 0), (1, ti a1), (2, ti a2)] [] M := by
    rw [fX10_told] at h
    refine tm_aload_n dX10_told_0 rfl rfl ?_
    refine tm_get kX10 rfl (j := 0) (by decide) wfX10_10 dX10_told_1 (v := tr 1 0) rfl ?_
    refine tm_iload_n dX10_told_4 rfl rfl ?_
    replace h := obind_some h
    obtain ⟨r1, hc2, h⟩ := h
    refine tm_callV kX1 rfl (avs := [ti a1]) (st := []) (okX1_partAt hc2) wcX10_87.1 wcX10_87.2.1 wcX10_87.2.2.1 wcX10_87.2.2.2 ⟨rfl, rfl, Nat.le_of_ble_eq_true rfl, Nat.le_of_ble_eq_true rfl⟩ rfl (Nat.le_of_ble_eq_true rfl) ⟨Nat.zero_le _, Nat.zero_le _⟩ dX10_told_5 ?_
    refine tm_astore_n (lc' := [(3, tq 7 r1), (0, tr 10 0), (1, ti a1), (2, ti a2)]) dX10_told_8 rfl (by decide) rfl ?_
    refine tm_aload_n dX10_told_9 rfl rfl ?_
    refine tm_ifnull (k2 := 7) (q := r1) (tgt := 22) dX10_told_10 (by decide) (fun c3 => ?_) (fun c3 => ?_)
    · rw [if_pos c3] at h
      refine tm_iconst (v := (-1)) dX10_told_22 (by decide) ?_
      obtain rfl := Option.some.inj h
      exact tm_iret rfl dX10_told_23
    · rw [if_neg c3] at h
      refine tm_iload_n dX10_told_13 rfl rfl ?_
      refine tm_if_lt (tgt := 22) dX10_told_14 (by decide) (fun c4 => ?_) (fun c4 => ?_)
      · rw [if_pos c4] at h
        refine tm_iconst (v := (-1)) dX10_told_22 (by decide) ?_
        obtain rfl := Option.some.inj h
        exact tm_iret rfl dX10_told_23
      · rw [if_neg c4] at h
        refine tm_iload_n dX10_told_17 rfl rfl ?_
        refine tm_iconst (v := 4) dX10_told_18 (by decide) ?_
        refine tm_icmp_le (tgt := 24) dX10_told_19 (by decide) (fun c5 => ?_) (fun c5 => ?_)
        · rw [if_pos c5] at h
          refine tm_aload_n dX10_told_24 rfl rfl ?_
          refine tm_iload_n dX10_told_25 rfl rfl ?_
          replace h := obind_some h
          obtain ⟨i6, ei6, h⟩ := h
          subst ei6
          replace h := obind_some h
          obtain ⟨x7, hc8, h⟩ := h
          refine tm_callV kX7 rfl (avs := [ti a2]) (st := []) (okX7_toldOf hc8) wcX10_154.1 wcX10_154.2.1 wcX10_154.2.2.1 wcX10_154.2.2.2 ⟨rfl, rfl, Nat.le_of_ble_eq_true rfl, Nat.le_of_ble_eq_true rfl⟩ rfl (Nat.le_of_ble_eq_true rfl) ⟨Nat.zero_le _, Nat.zero_le _⟩ dX10_told_26 ?_
          obtain rfl := Option.some.inj h
          exact tm_iret rfl dX10_told_29
        · rw [if_neg c5] at h
          refine tm_iconst (v := (-1)) dX10_told_22 (by decide) ?_
          obtain rfl := Option.some.inj h
          exact tm_iret rfl dX10_told_23
  exact TMet.of (by decide) (Nat.le_of_ble_eq_true rfl) key
theorem wfX10_157 : Cond.fieldLink RX10 157 "EvenFlow" "KIND_ABOVE" "[I" ∈ tgd := (tgd_t 680 (by decide +kernel) (by decide +kernel))
abbrev iX10_is : tY := (RX10, cX10_is, 6, some .int, "is")
abbrev rmX10_is : Room := { frames := 1, cells := 0, slots := 0, locals := 21 }
def fX10_is_l33 (z2 : Int32) (M : tM) : Nat → Int32 → Int32 → Option ((Int32) ⊕ (Unit))
  | 0, _, _ => none
  | n + 1, y4, y5 =>
    if (nI tZn) ≤ y5 then (
    some (Sum.inr (()))
    ) else (
    if y4 < 0 then (
    some (Sum.inr (()))
    ) else (
    if (nI tZn) ≤ y4 then (
    some (Sum.inr (()))
    ) else (
    if y4 = z2 then (
    some (Sum.inl 1)
    ) else (
    chk (inb y4 tZn) <|
    bnd (tZf y4.toNatClampNeg) fun x13 =>
    bnd (y5 + 1) fun x14 =>
    fX10_is_l33 z2 M n x13 x14
    )
    )
    )
    )
def fX10_is (a1 : Int32) (a2 : Int32) (M : tM) : Option (Int32) :=
  (fX1_partAt a1 M).bind fun r1 =>
  if r1 = none then (
  some (-1)
  ) else (
  if a2 < 0 then (
  some (-1)
  ) else (
  if a2 ≤ 5 then (
  Option.bind r1 fun i6 =>
  bnd (mI M 7 i6 1) fun x7 =>
  Option.bind (fX10_is_l33 a2 M FU x7 0) fun w15 => match w15 with
  | Sum.inl q18 => some q18
  | Sum.inr u17 =>
    some 0
  ) else (
  some (-1)
  )
  )
  )
set_option maxHeartbeats 4000000 in
set_option maxRecDepth 100000 in
theorem okX10_is_l33 {g : tG} (z2 : Int32) (M : tM) {r : Option tV} {Mz : tM} : ∀ (n : Nat) (y4 : Int32) (y5 : Int32) (w : (Int32) ⊕ (Unit)), fX10_is_l33 z2 M n y4 y5 = some w → (∀ (uw : Unit), Sum.inr uw = w → TW g iX10_is rmX10_is 0 0 r Mz 0 0 78 [] [] M) → (∀ (v : Int32), Sum.inl v = w → r = (some (ti v)) ∧ Mz = M) → TW g iX10_is rmX10_is 0 0 r Mz 0 0 33 [(2, ti z2), (4, ti y4), (5, ti y5)] [] M := by
  intro n
  induction n with
  | zero => intro y4 y5 w h; cases h
  | succ n ih =>
    intro y4 y5 w h J JR
    rw [fX10_is_l33] at h
    refine tm_iload dX10_is_33 rfl ?_
    refine tm_gets wfX10_157 dX10_is_35 ?_
    refine tm_klen dX10_is_38 ?_
    refine tm_icmp_ge (tgt := 78) dX10_is_39 (by decide) (fun c8 => ?_) (fun c8 => ?_)
    · rw [if_pos c8] at h
      obtain rfl := Option.some.inj h
      refine tm_lcp [] rfl ?_
      exact J _ rfl
    · rw [if_neg c8] at h
      refine tm_iload dX10_is_42 rfl ?_
      refine tm_if_lt (tgt := 78) dX10_is_44 (by decide) (fun c9 => ?_) (fun c9 => ?_)
      · rw [if_pos c9] at h
        obtain rfl := Option.some.inj h
        refine tm_lcp [] rfl ?_
        exact J _ rfl
      · rw [if_neg c9] at h
        refine tm_iload dX10_is_47 rfl ?_
        refine tm_gets wfX10_157 dX10_is_49 ?_
        refine tm_klen dX10_is_52 ?_
        refine tm_icmp_ge (tgt := 78) dX10_is_53 (by decide) (fun c10 => ?_) (fun c10 => ?_)
        · rw [if_pos c10] at h
          obtain rfl := Option.some.inj h
          refine tm_lcp [] rfl ?_
          exact J _ rfl
        · rw [if_neg c10] at h
          refine tm_iload dX10_is_56 rfl ?_
          refine tm_iload_n dX10_is_58 rfl rfl ?_
          refine tm_icmp_ne (tgt := 64) dX10_is_59 (by decide) (fun c11 => ?_) (fun c11 => ?_)
          · rw [if_neg c11] at h
            refine tm_gets wfX10_157 dX10_is_64 ?_
            refine tm_iload dX10_is_67 rfl ?_
            replace h := chk_some h
            obtain ⟨b12, h⟩ := h
            refine tm_kld dX10_is_69 (inb_vp b12) ?_
            replace h := bnd_some h
            obtain ⟨x13, ex13, h⟩ := h
            refine tm_nmI ex13 ?_
            refine tm_istore (lc' := [(4, ti x13), (2, ti z2), (5, ti y5)]) dX10_is_70 (by decide) rfl ?_
            replace h := bnd_some h
            obtain ⟨x14, ex14, h⟩ := h
            refine tm_iinc (v := x14) (lc' := [(5, ti x14), (4, ti x13), (2, ti z2)]) dX10_is_72 rfl (by rw [ex14]; rfl) (by decide) rfl ?_
            refine tm_goto (tgt := 33) dX10_is_75 (by decide) ?_
            refine tm_lcp [2, 4, 5] rfl ?_
            exact ih x13 x14 _ h J JR
          · rw [if_pos c11] at h
            refine tm_iconst (v := 1) dX10_is_62 (by decide) ?_
            obtain rfl := Option.some.inj h
            obtain ⟨rfl, rfl⟩ := JR _ rfl
            exact tm_iret rfl dX10_is_63
set_option maxHeartbeats 4000000 in
set_option maxRecDepth 100000 in
theorem okX10_is {g : tG} {a1 : Int32} {a2 : Int32} {M : tM} {v : Int32} (h : fX10_is a1 a2 M = some v) : TMet g yX10_is (Cond.code yX10_is cX10_is 6 (some .int) :: tgd) rmX10_is [tr 10 0, ti a1, ti a2] M (some (ti v)) M 0 0 := by
  have key : TW g iX10_is rmX10_is 0 0 (some (ti v)) M 0 0 0 [(0, tr 10 0), (1, ti a1), (2, ti a2)] [] M := by
    rw [fX10_is] at h
    refine tm_aload_n dX10_is_0 rfl rfl ?_
    refine tm_get kX10 rfl (j := 0) (by decide) wfX10_10 dX10_is_1 (v := tr 1 0) rfl ?_
    refine tm_iload_n dX10_is_4 rfl rfl ?_
    replace h := obind_some h
    obtain ⟨r1, hc2, h⟩ := h
    refine tm_callV kX1 rfl (avs := [ti a1]) (st := []) (okX1_partAt hc2) wcX10_87.1 wcX10_87.2.1 wcX10_87.2.2.1 wcX10_87.2.2.2 ⟨rfl, rfl, Nat.le_of_ble_eq_true rfl, Nat.le_of_ble_eq_true rfl⟩ rfl (Nat.le_of_ble_eq_true rfl) ⟨Nat.zero_le _, Nat.zero_le _⟩ dX10_is_5 ?_
    refine tm_astore_n (lc' := [(3, tq 7 r1), (0, tr 10 0), (1, ti a1), (2, ti a2)]) dX10_is_8 rfl (by decide) rfl ?_
    refine tm_aload_n dX10_is_9 rfl rfl ?_
    refine tm_ifnull (k2 := 7) (q := r1) (tgt := 22) dX10_is_10 (by decide) (fun c3 => ?_) (fun c3 => ?_)
    · rw [if_pos c3] at h
      refine tm_iconst (v := (-1)) dX10_is_22 (by decide) ?_
      obtain rfl := Option.some.inj h
      exact tm_iret rfl dX10_is_23
    · rw [if_neg c3] at h
      refine tm_iload_n dX10_is_13 rfl rfl ?_
      refine tm_if_lt (tgt := 22) dX10_is_14 (by decide) (fun c4 => ?_) (fun c4 => ?_)
      · rw [if_pos c4] at h
        refine tm_iconst (v := (-1)) dX10_is_22 (by decide) ?_
        obtain rfl := Option.some.inj h
        exact tm_iret rfl dX10_is_23
      · rw [if_neg c4] at h
        refine tm_iload_n dX10_is_17 rfl rfl ?_
        refine tm_iconst (v := 5) dX10_is_18 (by decide) ?_
        refine tm_icmp_le (tgt := 24) dX10_is_19 (by decide) (fun c5 => ?_) (fun c5 => ?_)
        · rw [if_pos c5] at h
          refine tm_aload_n dX10_is_24 rfl rfl ?_
          replace h := obind_some h
          obtain ⟨i6, ei6, h⟩ := h
          subst ei6
          refine tm_get kX7 rfl (j := 1) (by decide) wfX10_111 dX10_is_25 (v := ti (mI M 7 i6 1)) rfl ?_
          replace h := bnd_some h
          obtain ⟨x7, ex7, h⟩ := h
          refine tm_nmI ex7 ?_
          refine tm_istore (lc' := [(4, ti x7), (3, tr 7 i6), (0, tr 10 0), (1, ti a1), (2, ti a2)]) dX10_is_28 (by decide) rfl ?_
          refine tm_iconst (v := 0) dX10_is_30 (by decide) ?_
          refine tm_istore (lc' := [(5, ti 0), (4, ti x7), (3, tr 7 i6), (0, tr 10 0), (1, ti a1), (2, ti a2)]) dX10_is_31 (by decide) rfl ?_
          replace h := obind_some h
          obtain ⟨w15, hE16, h⟩ := h
          refine tm_lcp [2, 4, 5] rfl ?_
          refine okX10_is_l33 a2 M FU x7 0 _ hE16 (fun u17 e => ?_) (fun v19 e => ?_)
          · subst e
            dsimp only at h
            refine tm_iconst (v := 0) dX10_is_78 (by decide) ?_
            obtain rfl := Option.some.inj h
            exact tm_iret rfl dX10_is_79
          · subst e
            obtain rfl := Option.some.inj h
            exact ⟨rfl, rfl⟩
        · rw [if_neg c5] at h
          refine tm_iconst (v := (-1)) dX10_is_22 (by decide) ?_
          obtain rfl := Option.some.inj h
          exact tm_iret rfl dX10_is_23
  exact TMet.of (by decide) (Nat.le_of_ble_eq_true rfl) key
theorem wcX10_160 : tCB RX10 160 yX4_endOf cX4_endOf 2 (some .int) 1 ∧ Cond.methodLink RX10 160 yX4_endOf ∈ tgd ∧ Cond.instanceMethod yX4_endOf ∈ tgd ∧ Cond.selects RX4 yX4_endOf yX4_endOf ∈ tgd := ⟨⟨(tgd_t 689 (by decide +kernel) (by decide +kernel)), (tgd_t 15 (by decide +kernel) (by decide +kernel)), by decide, by decide +kernel⟩, (tgd_t 686 (by decide +kernel) (by decide +kernel)), (tgd_t 687 (by decide +kernel) (by decide +kernel)), (tgd_t 688 (by decide +kernel) (by decide +kernel))⟩
abbrev iX10_ends : tY := (RX10, cX10_ends, 4, some .int, "ends")
abbrev rmX10_ends : Room := { frames := 2, cells := 0, slots := 0, locals := 42 }
def fX10_ends (a1 : Int32) (a2 : Int32) (M : tM) : Option (Int32) :=
  (fX1_lineAt a1 M).bind fun r1 =>
  if r1 = none then (
  some (-1)
  ) else (
  if a2 < 0 then (
  some (-1)
  ) else (
  if a2 ≤ 4 then (
  Option.bind r1 fun i6 =>
  (fX4_endOf i6 a2 M).bind fun x7 =>
  some x7
  ) else (
  some (-1)
  )
  )
  )
set_option maxHeartbeats 4000000 in
set_option maxRecDepth 100000 in
theorem okX10_ends {g : tG} {a1 : Int32} {a2 : Int32} {M : tM} {v : Int32} (h : fX10_ends a1 a2 M = some v) : TMet g yX10_ends (Cond.code yX10_ends cX10_ends 4 (some .int) :: tgd) rmX10_ends [tr 10 0, ti a1, ti a2] M (some (ti v)) M 0 0 := by
  have key : TW g iX10_ends rmX10_ends 0 0 (some (ti v)) M 0 0 0 [(0, tr 10 0), (1, ti a1), (2, ti a2)] [] M := by
    rw [fX10_ends] at h
    refine tm_aload_n dX10_ends_0 rfl rfl ?_
    refine tm_get kX10 rfl (j := 0) (by decide) wfX10_10 dX10_ends_1 (v := tr 1 0) rfl ?_
    refine tm_iload_n dX10_ends_4 rfl rfl ?_
    replace h := obind_some h
    obtain ⟨r1, hc2, h⟩ := h
    refine tm_callV kX1 rfl (avs := [ti a1]) (st := []) (okX1_lineAt hc2) wcX10_98.1 wcX10_98.2.1 wcX10_98.2.2.1 wcX10_98.2.2.2 ⟨rfl, rfl, Nat.le_of_ble_eq_true rfl, Nat.le_of_ble_eq_true rfl⟩ rfl (Nat.le_of_ble_eq_true rfl) ⟨Nat.zero_le _, Nat.zero_le _⟩ dX10_ends_5 ?_
    refine tm_astore_n (lc' := [(3, tq 4 r1), (0, tr 10 0), (1, ti a1), (2, ti a2)]) dX10_ends_8 rfl (by decide) rfl ?_
    refine tm_aload_n dX10_ends_9 rfl rfl ?_
    refine tm_ifnull (k2 := 4) (q := r1) (tgt := 22) dX10_ends_10 (by decide) (fun c3 => ?_) (fun c3 => ?_)
    · rw [if_pos c3] at h
      refine tm_iconst (v := (-1)) dX10_ends_22 (by decide) ?_
      obtain rfl := Option.some.inj h
      exact tm_iret rfl dX10_ends_23
    · rw [if_neg c3] at h
      refine tm_iload_n dX10_ends_13 rfl rfl ?_
      refine tm_if_lt (tgt := 22) dX10_ends_14 (by decide) (fun c4 => ?_) (fun c4 => ?_)
      · rw [if_pos c4] at h
        refine tm_iconst (v := (-1)) dX10_ends_22 (by decide) ?_
        obtain rfl := Option.some.inj h
        exact tm_iret rfl dX10_ends_23
      · rw [if_neg c4] at h
        refine tm_iload_n dX10_ends_17 rfl rfl ?_
        refine tm_iconst (v := 4) dX10_ends_18 (by decide) ?_
        refine tm_icmp_le (tgt := 24) dX10_ends_19 (by decide) (fun c5 => ?_) (fun c5 => ?_)
        · rw [if_pos c5] at h
          refine tm_aload_n dX10_ends_24 rfl rfl ?_
          refine tm_iload_n dX10_ends_25 rfl rfl ?_
          replace h := obind_some h
          obtain ⟨i6, ei6, h⟩ := h
          subst ei6
          replace h := obind_some h
          obtain ⟨x7, hc8, h⟩ := h
          refine tm_callV kX4 rfl (avs := [ti a2]) (st := []) (okX4_endOf hc8) wcX10_160.1 wcX10_160.2.1 wcX10_160.2.2.1 wcX10_160.2.2.2 ⟨rfl, rfl, Nat.le_of_ble_eq_true rfl, Nat.le_of_ble_eq_true rfl⟩ rfl (Nat.le_of_ble_eq_true rfl) ⟨Nat.zero_le _, Nat.zero_le _⟩ dX10_ends_26 ?_
          obtain rfl := Option.some.inj h
          exact tm_iret rfl dX10_ends_29
        · rw [if_neg c5] at h
          refine tm_iconst (v := (-1)) dX10_ends_22 (by decide) ?_
          obtain rfl := Option.some.inj h
          exact tm_iret rfl dX10_ends_23
  exact TMet.of (by decide) (Nat.le_of_ble_eq_true rfl) key
theorem wcX10_163 : tCB RX10 163 yX1_roundState cX1_roundState 1 (some .int) 0 ∧ Cond.methodLink RX10 163 yX1_roundState ∈ tgd ∧ Cond.instanceMethod yX1_roundState ∈ tgd ∧ Cond.selects RX1 yX1_roundState yX1_roundState ∈ tgd := ⟨⟨(tgd_t 705 (by decide +kernel) (by decide +kernel)), (tgd_t 2 (by decide +kernel) (by decide +kernel)), by decide, by decide +kernel⟩, (tgd_t 702 (by decide +kernel) (by decide +kernel)), (tgd_t 703 (by decide +kernel) (by decide +kernel)), (tgd_t 704 (by decide +kernel) (by decide +kernel))⟩
theorem wfX10_167 : Cond.fieldLink RX10 167 "EvenFlow$Graph" "inRound" "I" ∈ tgd := (tgd_t 66 (by decide +kernel) (by decide +kernel))
abbrev iX10_round : tY := (RX10, cX10_round, 2, some .int, "round")
abbrev rmX10_round : Room := { frames := 5, cells := 0, slots := 0, locals := 126 }
def fX10_round  (M : tM) : Option (Int32 × tM) :=
  (fX1_roundState M).bind fun (x1, M3) =>
  if x1 = 0 then (
  some ((mI M3 1 0 4, M3))
  ) else (
  some ((x1, M3))
  )
set_option maxHeartbeats 4000000 in
set_option maxRecDepth 100000 in
theorem okX10_round {g : tG}  {M : tM} {v : Int32} {Mz : tM} (h : fX10_round  M = some ((v, Mz))) : TMet g yX10_round (Cond.code yX10_round cX10_round 2 (some .int) :: tgd) rmX10_round [tr 10 0] M (some (ti v)) Mz 0 0 := by
  have key : TW g iX10_round rmX10_round 0 0 (some (ti v)) Mz 0 0 0 [(0, tr 10 0)] [] M := by
    rw [fX10_round] at h
    refine tm_aload_n dX10_round_0 rfl rfl ?_
    refine tm_get kX10 rfl (j := 0) (by decide) wfX10_10 dX10_round_1 (v := tr 1 0) rfl ?_
    replace h := obind_some h
    obtain ⟨⟨x1, M3⟩, hc2, h⟩ := h
    dsimp only at h
    refine tm_callV kX1 rfl (avs := []) (st := []) (okX1_roundState hc2) wcX10_163.1 wcX10_163.2.1 wcX10_163.2.2.1 wcX10_163.2.2.2 ⟨rfl, rfl, Nat.le_of_ble_eq_true rfl, Nat.le_of_ble_eq_true rfl⟩ rfl (Nat.le_of_ble_eq_true rfl) ⟨Nat.zero_le _, Nat.zero_le _⟩ dX10_round_4 ?_
    refine tm_istore_n (lc' := [(1, ti x1), (0, tr 10 0)]) dX10_round_7 rfl (by decide) rfl ?_
    refine tm_iload_n dX10_round_8 rfl rfl ?_
    refine tm_if_ne (tgt := 22) dX10_round_9 (by decide) (fun c4 => ?_) (fun c4 => ?_)
    · rw [if_neg c4] at h
      refine tm_iload_n dX10_round_22 rfl rfl ?_
      obtain ⟨rfl, rfl⟩ := pj2 h
      exact tm_iret rfl dX10_round_23
    · rw [if_pos c4] at h
      refine tm_aload_n dX10_round_12 rfl rfl ?_
      refine tm_get kX10 rfl (j := 0) (by decide) wfX10_10 dX10_round_13 (v := tr 1 0) rfl ?_
      refine tm_get kX1 rfl (j := 4) (by decide) wfX10_167 dX10_round_16 (v := ti (mI M3 1 0 4)) rfl ?_
      refine tm_goto (tgt := 23) dX10_round_19 (by decide) ?_
      obtain ⟨rfl, rfl⟩ := pj2 h
      exact tm_iret rfl dX10_round_23
  exact TMet.of (by decide) (Nat.le_of_ble_eq_true rfl) key
theorem wfX10_170 : Cond.fieldLink RX10 170 "EvenFlow$Part" "inRound" "I" ∈ tgd := (tgd_t 429 (by decide +kernel) (by decide +kernel))
abbrev iX10_firings : tY := (RX10, cX10_firings, 4, some .int, "firings")
abbrev rmX10_firings : Room := { frames := 5, cells := 0, slots := 0, locals := 126 }
def fX10_firings (a1 : Int32) (M : tM) : Option (Int32 × tM) :=
  (fX1_partAt a1 M).bind fun r1 =>
  if r1 = none then (
  some (((-1), M))
  ) else (
  (fX1_roundState M).bind fun (x4, M6) =>
  if x4 = 0 then (
  Option.bind r1 fun i8 =>
  some ((mI M6 7 i8 6, M6))
  ) else (
  some ((x4, M6))
  )
  )
set_option maxHeartbeats 4000000 in
set_option maxRecDepth 100000 in
theorem okX10_firings {g : tG} {a1 : Int32} {M : tM} {v : Int32} {Mz : tM} (h : fX10_firings a1 M = some ((v, Mz))) : TMet g yX10_firings (Cond.code yX10_firings cX10_firings 4 (some .int) :: tgd) rmX10_firings [tr 10 0, ti a1] M (some (ti v)) Mz 0 0 := by
  have key : TW g iX10_firings rmX10_firings 0 0 (some (ti v)) Mz 0 0 0 [(0, tr 10 0), (1, ti a1)] [] M := by
    rw [fX10_firings] at h
    refine tm_aload_n dX10_firings_0 rfl rfl ?_
    refine tm_get kX10 rfl (j := 0) (by decide) wfX10_10 dX10_firings_1 (v := tr 1 0) rfl ?_
    refine tm_iload_n dX10_firings_4 rfl rfl ?_
    replace h := obind_some h
    obtain ⟨r1, hc2, h⟩ := h
    refine tm_callV kX1 rfl (avs := [ti a1]) (st := []) (okX1_partAt hc2) wcX10_87.1 wcX10_87.2.1 wcX10_87.2.2.1 wcX10_87.2.2.2 ⟨rfl, rfl, Nat.le_of_ble_eq_true rfl, Nat.le_of_ble_eq_true rfl⟩ rfl (Nat.le_of_ble_eq_true rfl) ⟨Nat.zero_le _, Nat.zero_le _⟩ dX10_firings_5 ?_
    refine tm_astore_n (lc' := [(2, tq 7 r1), (0, tr 10 0), (1, ti a1)]) dX10_firings_8 rfl (by decide) rfl ?_
    refine tm_aload_n dX10_firings_9 rfl rfl ?_
    refine tm_ifnonnull (k2 := 7) (q := r1) (tgt := 15) dX10_firings_10 (by decide) (fun c3 => ?_) (fun c3 => ?_)
    · rw [if_neg c3] at h
      refine tm_aload_n dX10_firings_15 rfl rfl ?_
      refine tm_get kX10 rfl (j := 0) (by decide) wfX10_10 dX10_firings_16 (v := tr 1 0) rfl ?_
      replace h := obind_some h
      obtain ⟨⟨x4, M6⟩, hc5, h⟩ := h
      dsimp only at h
      refine tm_callV kX1 rfl (avs := []) (st := []) (okX1_roundState hc5) wcX10_163.1 wcX10_163.2.1 wcX10_163.2.2.1 wcX10_163.2.2.2 ⟨rfl, rfl, Nat.le_of_ble_eq_true rfl, Nat.le_of_ble_eq_true rfl⟩ rfl (Nat.le_of_ble_eq_true rfl) ⟨Nat.zero_le _, Nat.zero_le _⟩ dX10_firings_19 ?_
      refine tm_istore_n (lc' := [(3, ti x4), (2, tq 7 r1), (0, tr 10 0), (1, ti a1)]) dX10_firings_22 rfl (by decide) rfl ?_
      refine tm_iload_n dX10_firings_23 rfl rfl ?_
      refine tm_if_ne (tgt := 34) dX10_firings_24 (by decide) (fun c7 => ?_) (fun c7 => ?_)
      · rw [if_neg c7] at h
        refine tm_iload_n dX10_firings_34 rfl rfl ?_
        obtain ⟨rfl, rfl⟩ := pj2 h
        exact tm_iret rfl dX10_firings_35
      · rw [if_pos c7] at h
        refine tm_aload_n dX10_firings_27 rfl rfl ?_
        replace h := obind_some h
        obtain ⟨i8, ei8, h⟩ := h
        subst ei8
        refine tm_get kX7 rfl (j := 6) (by decide) wfX10_170 dX10_firings_28 (v := ti (mI M6 7 i8 6)) rfl ?_
        refine tm_goto (tgt := 35) dX10_firings_31 (by decide) ?_
        obtain ⟨rfl, rfl⟩ := pj2 h
        exact tm_iret rfl dX10_firings_35
    · rw [if_pos c3] at h
      refine tm_iconst (v := (-1)) dX10_firings_13 (by decide) ?_
      obtain ⟨rfl, rfl⟩ := pj2 h
      exact tm_iret rfl dX10_firings_14
  exact TMet.of (by decide) (Nat.le_of_ble_eq_true rfl) key
theorem wfX10_171 : Cond.fieldLink RX10 171 "EvenFlow$Graph" "unevenLine" "I" ∈ tgd := (tgd_t 68 (by decide +kernel) (by decide +kernel))
abbrev iX10_uneven : tY := (RX10, cX10_uneven, 1, some .int, "uneven")
abbrev rmX10_uneven : Room := { frames := 5, cells := 0, slots := 0, locals := 126 }
def fX10_uneven  (M : tM) : Option (Int32 × tM) :=
  (fX1_roundState M).bind fun (x1, M3) =>
  if x1 = (-4) then (
  some (((-4), M3))
  ) else (
  some ((mI M3 1 0 5, M3))
  )
set_option maxHeartbeats 4000000 in
set_option maxRecDepth 100000 in
theorem okX10_uneven {g : tG}  {M : tM} {v : Int32} {Mz : tM} (h : fX10_uneven  M = some ((v, Mz))) : TMet g yX10_uneven (Cond.code yX10_uneven cX10_uneven 1 (some .int) :: tgd) rmX10_uneven [tr 10 0] M (some (ti v)) Mz 0 0 := by
  have key : TW g iX10_uneven rmX10_uneven 0 0 (some (ti v)) Mz 0 0 0 [(0, tr 10 0)] [] M := by
    rw [fX10_uneven] at h
    refine tm_aload_n dX10_uneven_0 rfl rfl ?_
    refine tm_get kX10 rfl (j := 0) (by decide) wfX10_10 dX10_uneven_1 (v := tr 1 0) rfl ?_
    replace h := obind_some h
    obtain ⟨⟨x1, M3⟩, hc2, h⟩ := h
    dsimp only at h
    refine tm_callV kX1 rfl (avs := []) (st := []) (okX1_roundState hc2) wcX10_163.1 wcX10_163.2.1 wcX10_163.2.2.1 wcX10_163.2.2.2 ⟨rfl, rfl, Nat.le_of_ble_eq_true rfl, Nat.le_of_ble_eq_true rfl⟩ rfl (Nat.le_of_ble_eq_true rfl) ⟨Nat.zero_le _, Nat.zero_le _⟩ dX10_uneven_4 ?_
    refine tm_bipush (v := (-4)) dX10_uneven_7 (by decide) ?_
    refine tm_icmp_ne (tgt := 17) dX10_uneven_9 (by decide) (fun c4 => ?_) (fun c4 => ?_)
    · rw [if_neg c4] at h
      refine tm_aload_n dX10_uneven_17 rfl rfl ?_
      refine tm_get kX10 rfl (j := 0) (by decide) wfX10_10 dX10_uneven_18 (v := tr 1 0) rfl ?_
      refine tm_get kX1 rfl (j := 5) (by decide) wfX10_171 dX10_uneven_21 (v := ti (mI M3 1 0 5)) rfl ?_
      obtain ⟨rfl, rfl⟩ := pj2 h
      exact tm_iret rfl dX10_uneven_24
    · rw [if_pos c4] at h
      refine tm_bipush (v := (-4)) dX10_uneven_12 (by decide) ?_
      refine tm_goto (tgt := 24) dX10_uneven_14 (by decide) ?_
      obtain ⟨rfl, rfl⟩ := pj2 h
      exact tm_iret rfl dX10_uneven_24
  exact TMet.of (by decide) (Nat.le_of_ble_eq_true rfl) key
abbrev iX10_noRound : tY := (RX10, cX10_noRound, 2, some .int, "noRound")
abbrev rmX10_noRound : Room := { frames := 5, cells := 0, slots := 0, locals := 126 }
def fX10_noRound  (M : tM) : Option (Int32 × tM) :=
  (fX1_roundState M).bind fun (x1, M3) =>
  if x1 = (-9) then (
  some (((-4), M3))
  ) else (
  some ((x1, M3))
  )
set_option maxHeartbeats 4000000 in
set_option maxRecDepth 100000 in
theorem okX10_noRound {g : tG}  {M : tM} {v : Int32} {Mz : tM} (h : fX10_noRound  M = some ((v, Mz))) : TMet g yX10_noRound (Cond.code yX10_noRound cX10_noRound 2 (some .int) :: tgd) rmX10_noRound [tr 10 0] M (some (ti v)) Mz 0 0 := by
  have key : TW g iX10_noRound rmX10_noRound 0 0 (some (ti v)) Mz 0 0 0 [(0, tr 10 0)] [] M := by
    rw [fX10_noRound] at h
    refine tm_aload_n dX10_noRound_0 rfl rfl ?_
    refine tm_get kX10 rfl (j := 0) (by decide) wfX10_10 dX10_noRound_1 (v := tr 1 0) rfl ?_
    replace h := obind_some h
    obtain ⟨⟨x1, M3⟩, hc2, h⟩ := h
    dsimp only at h
    refine tm_callV kX1 rfl (avs := []) (st := []) (okX1_roundState hc2) wcX10_163.1 wcX10_163.2.1 wcX10_163.2.2.1 wcX10_163.2.2.2 ⟨rfl, rfl, Nat.le_of_ble_eq_true rfl, Nat.le_of_ble_eq_true rfl⟩ rfl (Nat.le_of_ble_eq_true rfl) ⟨Nat.zero_le _, Nat.zero_le _⟩ dX10_noRound_4 ?_
    refine tm_istore_n (lc' := [(1, ti x1), (0, tr 10 0)]) dX10_noRound_7 rfl (by decide) rfl ?_
    refine tm_iload_n dX10_noRound_8 rfl rfl ?_
    refine tm_bipush (v := (-9)) dX10_noRound_9 (by decide) ?_
    refine tm_icmp_ne (tgt := 19) dX10_noRound_11 (by decide) (fun c4 => ?_) (fun c4 => ?_)
    · rw [if_neg c4] at h
      refine tm_iload_n dX10_noRound_19 rfl rfl ?_
      obtain ⟨rfl, rfl⟩ := pj2 h
      exact tm_iret rfl dX10_noRound_20
    · rw [if_pos c4] at h
      refine tm_bipush (v := (-4)) dX10_noRound_14 (by decide) ?_
      refine tm_goto (tgt := 20) dX10_noRound_16 (by decide) ?_
      obtain ⟨rfl, rfl⟩ := pj2 h
      exact tm_iret rfl dX10_noRound_20
  exact TMet.of (by decide) (Nat.le_of_ble_eq_true rfl) key
theorem wcX10_174 : tCB RX10 174 yX10_noRound cX10_noRound 2 (some .int) 0 ∧ Cond.methodLink RX10 174 yX10_noRound ∈ tgd ∧ Cond.instanceMethod yX10_noRound ∈ tgd ∧ Cond.selects RX10 yX10_noRound yX10_noRound ∈ tgd := ⟨⟨(tgd_t 764 (by decide +kernel) (by decide +kernel)), (tgd_t 1 (by decide +kernel) (by decide +kernel)), by decide, by decide +kernel⟩, (tgd_t 761 (by decide +kernel) (by decide +kernel)), (tgd_t 763 (by decide +kernel) (by decide +kernel)), (tgd_p 11 (by decide +kernel) (by decide +kernel))⟩
theorem wcX10_177 : tCB RX10 177 yX2_isStuck cX2_isStuck 1 (some .boolean) 0 ∧ Cond.methodLink RX10 177 yX2_isStuck ∈ tgd ∧ Cond.instanceMethod yX2_isStuck ∈ tgd ∧ Cond.selects RX2 yX2_isStuck yX2_isStuck ∈ tgd := ⟨⟨(tgd_t 768 (by decide +kernel) (by decide +kernel)), (tgd_t 5 (by decide +kernel) (by decide +kernel)), by decide, by decide +kernel⟩, (tgd_t 765 (by decide +kernel) (by decide +kernel)), (tgd_t 766 (by decide +kernel) (by decide +kernel)), (tgd_t 767 (by decide +kernel) (by decide +kernel))⟩
abbrev iX10_stuck : tY := (RX10, cX10_stuck, 2, some .int, "stuck")
abbrev rmX10_stuck : Room := { frames := 6, cells := 0, slots := 0, locals := 147 }
def fX10_stuck  (M : tM) : Option (Int32 × tM) :=
  (fX10_noRound M).bind fun (x1, M3) =>
  if x1 = 0 then (
  (fX2_isStuck M3).bind fun (x5, M7) =>
  if x5 = 0 then (
  some ((0, M7))
  ) else (
  some ((1, M7))
  )
  ) else (
  some ((x1, M3))
  )
set_option maxHeartbeats 4000000 in
set_option maxRecDepth 100000 in
theorem okX10_stuck {g : tG}  {M : tM} {v : Int32} {Mz : tM} (h : fX10_stuck  M = some ((v, Mz))) : TMet g yX10_stuck (Cond.code yX10_stuck cX10_stuck 2 (some .int) :: tgd) rmX10_stuck [tr 10 0] M (some (ti v)) Mz 0 0 := by
  have key : TW g iX10_stuck rmX10_stuck 0 0 (some (ti v)) Mz 0 0 0 [(0, tr 10 0)] [] M := by
    rw [fX10_stuck] at h
    refine tm_aload_n dX10_stuck_0 rfl rfl ?_
    replace h := obind_some h
    obtain ⟨⟨x1, M3⟩, hc2, h⟩ := h
    dsimp only at h
    refine tm_callV kX10 rfl (avs := []) (st := []) (okX10_noRound hc2) wcX10_174.1 wcX10_174.2.1 wcX10_174.2.2.1 wcX10_174.2.2.2 ⟨rfl, rfl, Nat.le_of_ble_eq_true rfl, Nat.le_of_ble_eq_true rfl⟩ rfl (Nat.le_of_ble_eq_true rfl) ⟨Nat.zero_le _, Nat.zero_le _⟩ dX10_stuck_1 ?_
    refine tm_istore_n (lc' := [(1, ti x1), (0, tr 10 0)]) dX10_stuck_4 rfl (by decide) rfl ?_
    refine tm_iload_n dX10_stuck_5 rfl rfl ?_
    refine tm_if_eq (tgt := 11) dX10_stuck_6 (by decide) (fun c4 => ?_) (fun c4 => ?_)
    · rw [if_pos c4] at h
      refine tm_aload_n dX10_stuck_11 rfl rfl ?_
      refine tm_get kX10 rfl (j := 2) (by decide) wfX10_33 dX10_stuck_12 (v := tr 2 0) rfl ?_
      replace h := obind_some h
      obtain ⟨⟨x5, M7⟩, hc6, h⟩ := h
      dsimp only at h
      refine tm_callV kX2 rfl (avs := []) (st := []) (okX2_isStuck hc6) wcX10_177.1 wcX10_177.2.1 wcX10_177.2.2.1 wcX10_177.2.2.2 ⟨rfl, rfl, Nat.le_of_ble_eq_true rfl, Nat.le_of_ble_eq_true rfl⟩ rfl (Nat.le_of_ble_eq_true rfl) ⟨Nat.zero_le _, Nat.zero_le _⟩ dX10_stuck_15 ?_
      refine tm_if_eq (tgt := 25) dX10_stuck_18 (by decide) (fun c8 => ?_) (fun c8 => ?_)
      · rw [if_pos c8] at h
        refine tm_iconst (v := 0) dX10_stuck_25 (by decide) ?_
        obtain ⟨rfl, rfl⟩ := pj2 h
        exact tm_iret rfl dX10_stuck_26
      · rw [if_neg c8] at h
        refine tm_iconst (v := 1) dX10_stuck_21 (by decide) ?_
        refine tm_goto (tgt := 26) dX10_stuck_22 (by decide) ?_
        obtain ⟨rfl, rfl⟩ := pj2 h
        exact tm_iret rfl dX10_stuck_26
    · rw [if_neg c4] at h
      refine tm_iload_n dX10_stuck_9 rfl rfl ?_
      obtain ⟨rfl, rfl⟩ := pj2 h
      exact tm_iret rfl dX10_stuck_10
  exact TMet.of (by decide) (Nat.le_of_ble_eq_true rfl) key
theorem wcX10_181 : tCB RX10 181 yX2_moreOn cX2_moreOn 3 (some .int) 1 ∧ Cond.methodLink RX10 181 yX2_moreOn ∈ tgd ∧ Cond.instanceMethod yX2_moreOn ∈ tgd ∧ Cond.selects RX2 yX2_moreOn yX2_moreOn ∈ tgd := ⟨⟨(tgd_t 803 (by decide +kernel) (by decide +kernel)), (tgd_t 5 (by decide +kernel) (by decide +kernel)), by decide, by decide +kernel⟩, (tgd_t 800 (by decide +kernel) (by decide +kernel)), (tgd_t 801 (by decide +kernel) (by decide +kernel)), (tgd_t 802 (by decide +kernel) (by decide +kernel))⟩
abbrev iX10_lacks : tY := (RX10, cX10_lacks, 3, some .int, "lacks")
abbrev rmX10_lacks : Room := { frames := 6, cells := 0, slots := 0, locals := 147 }
def fX10_lacks (a1 : Int32) (M : tM) : Option (Int32 × tM) :=
  (fX1_lineAt a1 M).bind fun r1 =>
  if r1 = none then (
  some (((-1), M))
  ) else (
  (fX10_noRound M).bind fun (x4, M6) =>
  if x4 = 0 then (
  (fX2_moreOn a1 M6).bind fun (x8, M10) =>
  some ((x8, M10))
  ) else (
  some ((x4, M6))
  )
  )
set_option maxHeartbeats 4000000 in
set_option maxRecDepth 100000 in
theorem okX10_lacks {g : tG} {a1 : Int32} {M : tM} {v : Int32} {Mz : tM} (h : fX10_lacks a1 M = some ((v, Mz))) : TMet g yX10_lacks (Cond.code yX10_lacks cX10_lacks 3 (some .int) :: tgd) rmX10_lacks [tr 10 0, ti a1] M (some (ti v)) Mz 0 0 := by
  have key : TW g iX10_lacks rmX10_lacks 0 0 (some (ti v)) Mz 0 0 0 [(0, tr 10 0), (1, ti a1)] [] M := by
    rw [fX10_lacks] at h
    refine tm_aload_n dX10_lacks_0 rfl rfl ?_
    refine tm_get kX10 rfl (j := 0) (by decide) wfX10_10 dX10_lacks_1 (v := tr 1 0) rfl ?_
    refine tm_iload_n dX10_lacks_4 rfl rfl ?_
    replace h := obind_some h
    obtain ⟨r1, hc2, h⟩ := h
    refine tm_callV kX1 rfl (avs := [ti a1]) (st := []) (okX1_lineAt hc2) wcX10_98.1 wcX10_98.2.1 wcX10_98.2.2.1 wcX10_98.2.2.2 ⟨rfl, rfl, Nat.le_of_ble_eq_true rfl, Nat.le_of_ble_eq_true rfl⟩ rfl (Nat.le_of_ble_eq_true rfl) ⟨Nat.zero_le _, Nat.zero_le _⟩ dX10_lacks_5 ?_
    refine tm_ifnonnull (k2 := 4) (q := r1) (tgt := 13) dX10_lacks_8 (by decide) (fun c3 => ?_) (fun c3 => ?_)
    · rw [if_neg c3] at h
      refine tm_aload_n dX10_lacks_13 rfl rfl ?_
      replace h := obind_some h
      obtain ⟨⟨x4, M6⟩, hc5, h⟩ := h
      dsimp only at h
      refine tm_callV kX10 rfl (avs := []) (st := []) (okX10_noRound hc5) wcX10_174.1 wcX10_174.2.1 wcX10_174.2.2.1 wcX10_174.2.2.2 ⟨rfl, rfl, Nat.le_of_ble_eq_true rfl, Nat.le_of_ble_eq_true rfl⟩ rfl (Nat.le_of_ble_eq_true rfl) ⟨Nat.zero_le _, Nat.zero_le _⟩ dX10_lacks_14 ?_
      refine tm_istore_n (lc' := [(2, ti x4), (0, tr 10 0), (1, ti a1)]) dX10_lacks_17 rfl (by decide) rfl ?_
      refine tm_iload_n dX10_lacks_18 rfl rfl ?_
      refine tm_if_eq (tgt := 26) dX10_lacks_19 (by decide) (fun c7 => ?_) (fun c7 => ?_)
      · rw [if_pos c7] at h
        refine tm_aload_n dX10_lacks_26 rfl rfl ?_
        refine tm_get kX10 rfl (j := 2) (by decide) wfX10_33 dX10_lacks_27 (v := tr 2 0) rfl ?_
        refine tm_iload_n dX10_lacks_30 rfl rfl ?_
        replace h := obind_some h
        obtain ⟨⟨x8, M10⟩, hc9, h⟩ := h
        dsimp only at h
        refine tm_callV kX2 rfl (avs := [ti a1]) (st := []) (okX2_moreOn hc9) wcX10_181.1 wcX10_181.2.1 wcX10_181.2.2.1 wcX10_181.2.2.2 ⟨rfl, rfl, Nat.le_of_ble_eq_true rfl, Nat.le_of_ble_eq_true rfl⟩ rfl (Nat.le_of_ble_eq_true rfl) ⟨Nat.zero_le _, Nat.zero_le _⟩ dX10_lacks_31 ?_
        obtain ⟨rfl, rfl⟩ := pj2 h
        exact tm_iret rfl dX10_lacks_34
      · rw [if_neg c7] at h
        refine tm_iload_n dX10_lacks_22 rfl rfl ?_
        refine tm_goto (tgt := 34) dX10_lacks_23 (by decide) ?_
        obtain ⟨rfl, rfl⟩ := pj2 h
        exact tm_iret rfl dX10_lacks_34
    · rw [if_pos c3] at h
      refine tm_iconst (v := (-1)) dX10_lacks_11 (by decide) ?_
      obtain ⟨rfl, rfl⟩ := pj2 h
      exact tm_iret rfl dX10_lacks_12
  exact TMet.of (by decide) (Nat.le_of_ble_eq_true rfl) key
abbrev iX10_noSchedule : tY := (RX10, cX10_noSchedule, 2, some .int, "noSchedule")
abbrev rmX10_noSchedule : Room := { frames := 5, cells := 0, slots := 0, locals := 126 }
def fX10_noSchedule  (M : tM) : Option (Int32 × tM) :=
  (fX1_roundState M).bind fun (x1, M3) =>
  if x1 = 0 then (
  (fX2_isStuck M3).bind fun (x6, M8) =>
  if x6 = 0 then (
  some ((0, M8))
  ) else (
  some (((-4), M8))
  )
  ) else (
  if x1 = (-9) then (
  some (((-4), M3))
  ) else (
  some ((x1, M3))
  )
  )
set_option maxHeartbeats 4000000 in
set_option maxRecDepth 100000 in
theorem okX10_noSchedule {g : tG}  {M : tM} {v : Int32} {Mz : tM} (h : fX10_noSchedule  M = some ((v, Mz))) : TMet g yX10_noSchedule (Cond.code yX10_noSchedule cX10_noSchedule 2 (some .int) :: tgd) rmX10_noSchedule [tr 10 0] M (some (ti v)) Mz 0 0 := by
  have key : TW g iX10_noSchedule rmX10_noSchedule 0 0 (some (ti v)) Mz 0 0 0 [(0, tr 10 0)] [] M := by
    rw [fX10_noSchedule] at h
    refine tm_aload_n dX10_noSchedule_0 rfl rfl ?_
    refine tm_get kX10 rfl (j := 0) (by decide) wfX10_10 dX10_noSchedule_1 (v := tr 1 0) rfl ?_
    replace h := obind_some h
    obtain ⟨⟨x1, M3⟩, hc2, h⟩ := h
    dsimp only at h
    refine tm_callV kX1 rfl (avs := []) (st := []) (okX1_roundState hc2) wcX10_163.1 wcX10_163.2.1 wcX10_163.2.2.1 wcX10_163.2.2.2 ⟨rfl, rfl, Nat.le_of_ble_eq_true rfl, Nat.le_of_ble_eq_true rfl⟩ rfl (Nat.le_of_ble_eq_true rfl) ⟨Nat.zero_le _, Nat.zero_le _⟩ dX10_noSchedule_4 ?_
    refine tm_istore_n (lc' := [(1, ti x1), (0, tr 10 0)]) dX10_noSchedule_7 rfl (by decide) rfl ?_
    refine tm_iload_n dX10_noSchedule_8 rfl rfl ?_
    refine tm_if_ne (tgt := 29) dX10_noSchedule_9 (by decide) (fun c4 => ?_) (fun c4 => ?_)
    · rw [if_neg c4] at h
      refine tm_iload_n dX10_noSchedule_29 rfl rfl ?_
      refine tm_bipush (v := (-9)) dX10_noSchedule_30 (by decide) ?_
      refine tm_icmp_ne (tgt := 40) dX10_noSchedule_32 (by decide) (fun c5 => ?_) (fun c5 => ?_)
      · rw [if_neg c5] at h
        refine tm_iload_n dX10_noSchedule_40 rfl rfl ?_
        obtain ⟨rfl, rfl⟩ := pj2 h
        exact tm_iret rfl dX10_noSchedule_41
      · rw [if_pos c5] at h
        refine tm_bipush (v := (-4)) dX10_noSchedule_35 (by decide) ?_
        refine tm_goto (tgt := 41) dX10_noSchedule_37 (by decide) ?_
        obtain ⟨rfl, rfl⟩ := pj2 h
        exact tm_iret rfl dX10_noSchedule_41
    · rw [if_pos c4] at h
      refine tm_aload_n dX10_noSchedule_12 rfl rfl ?_
      refine tm_get kX10 rfl (j := 2) (by decide) wfX10_33 dX10_noSchedule_13 (v := tr 2 0) rfl ?_
      replace h := obind_some h
      obtain ⟨⟨x6, M8⟩, hc7, h⟩ := h
      dsimp only at h
      refine tm_callV kX2 rfl (avs := []) (st := []) (okX2_isStuck hc7) wcX10_177.1 wcX10_177.2.1 wcX10_177.2.2.1 wcX10_177.2.2.2 ⟨rfl, rfl, Nat.le_of_ble_eq_true rfl, Nat.le_of_ble_eq_true rfl⟩ rfl (Nat.le_of_ble_eq_true rfl) ⟨Nat.zero_le _, Nat.zero_le _⟩ dX10_noSchedule_16 ?_
      refine tm_if_eq (tgt := 27) dX10_noSchedule_19 (by decide) (fun c9 => ?_) (fun c9 => ?_)
      · rw [if_pos c9] at h
        refine tm_iconst (v := 0) dX10_noSchedule_27 (by decide) ?_
        obtain ⟨rfl, rfl⟩ := pj2 h
        exact tm_iret rfl dX10_noSchedule_28
      · rw [if_neg c9] at h
        refine tm_bipush (v := (-4)) dX10_noSchedule_22 (by decide) ?_
        refine tm_goto (tgt := 28) dX10_noSchedule_24 (by decide) ?_
        obtain ⟨rfl, rfl⟩ := pj2 h
        exact tm_iret rfl dX10_noSchedule_28
  exact TMet.of (by decide) (Nat.le_of_ble_eq_true rfl) key
