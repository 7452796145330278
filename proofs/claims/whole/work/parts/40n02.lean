theorem wcX1_41 : tCB RX1 41 yX7_init cX7_init 6 (none) 4 ∧ Cond.methodLink RX1 41 yX7_init ∈ tgd ∧ Cond.instanceMethod yX7_init ∈ tgd := ⟨⟨(tgd_t 395 (by decide +kernel) (by decide +kernel)), (tgd_t 11 (by decide +kernel) (by decide +kernel)), by decide, by decide +kernel⟩, (tgd_t 393 (by decide +kernel) (by decide +kernel)), (tgd_t 394 (by decide +kernel) (by decide +kernel))⟩
theorem wniX7_0 : Cond.instantiable RX7 15 ∈ tgd ∧ Cond.initialized RX7 ∈ tgd := ⟨(tgd_t 392 (by decide +kernel) (by decide +kernel)), (tgd_t 11 (by decide +kernel) (by decide +kernel))⟩
abbrev iX1_addPart : tY := (RX1, cX1_addPart, 6, some .int, "addPart")
abbrev rmX1_addPart : Room := { frames := 2, cells := 3, slots := 39, locals := 46 }
def fX1_addPart (a1 : Int32) (a2 : Int64) (a3 : Int32) (M : tM) : Option (Int32 × tM) :=
  bnd (mI M 1 0 2) fun x1 =>
  bnd (x1.toNatClampNeg) fun i2 =>
  chk (!mE M 19 i2) <|
  bnd (mA M 19 i2 15) fun M4 =>
  (fX7_init i2 x1 a1 a2 a3 M4).bind fun M6 =>
  chk (!mE M6 7 i2) <|
  chk (tfix M6 19 7 i2) <|
  bnd (mF M6 19 7 i2) fun M9 =>
  chk (inb x1 (mN M9 200 0)) <|
  bnd (sR M9 200 0 (x1.toNatClampNeg) (some i2)) fun M11 =>
  bnd (sI M11 1 0 2 ((mI M11 1 0 2) + 1)) fun M12 =>
  some ((x1, M12))
set_option maxHeartbeats 4000000 in
set_option maxRecDepth 100000 in
theorem okX1_addPart {g : tG} {a1 : Int32} {a2 : Int64} {a3 : Int32} {M : tM} {v : Int32} {Mz : tM} (h : fX1_addPart a1 a2 a3 M = some ((v, Mz))) : TMet g yX1_addPart (Cond.code yX1_addPart cX1_addPart 6 (some .int) :: tgd) rmX1_addPart [tr 1 0, ti a1, tl a2, ti a3] M (some (ti v)) Mz 3 39 := by
  have key : TW g iX1_addPart rmX1_addPart 3 39 (some (ti v)) Mz 0 0 0 [(0, tr 1 0), (1, ti a1), (2, tl a2), (4, ti a3)] [] M := by
    rw [fX1_addPart] at h
    refine tm_aload_n dX1_addPart_0 rfl rfl ?_
    refine tm_get kX1 rfl (j := 2) (by decide) wfX1_35 dX1_addPart_1 (v := ti (mI M 1 0 2)) rfl ?_
    replace h := bnd_some h
    obtain ⟨x1, ex1, h⟩ := h
    refine tm_nmI ex1 ?_
    refine tm_istore (lc' := [(5, ti x1), (0, tr 1 0), (1, ti a1), (2, tl a2), (4, ti a3)]) dX1_addPart_4 (by decide) rfl ?_
    refine tm_aload_n dX1_addPart_6 rfl rfl ?_
    refine tm_get kX1 rfl (j := 0) (by decide) wfX1_11 dX1_addPart_7 (v := tr 200 0) rfl ?_
    refine tm_iload dX1_addPart_10 rfl ?_
    replace h := bnd_some h
    obtain ⟨i2, ei2, h⟩ := h
    replace h := chk_some h
    obtain ⟨b3, h⟩ := h
    replace h := bnd_some h
    obtain ⟨M4, eM4, h⟩ := h
    refine tm_new kX7 (k := 19) (i := i2) rfl dfX7 wclX1_9 wniX7_0.1 wniX7_0.2 (nt_of b3) rwX7 (by decide) ⟨Nat.le_of_ble_eq_true rfl, Nat.le_of_ble_eq_true rfl⟩ dX1_addPart_12 ?_
    refine tm_nmM eM4 ?_
    refine tm_dup dX1_addPart_15 rfl ?_
    refine tm_iload dX1_addPart_16 rfl ?_
    refine tm_iload_n dX1_addPart_18 rfl rfl ?_
    refine tm_lload_n dX1_addPart_19 rfl rfl ?_
    refine tm_iload dX1_addPart_20 rfl ?_
    replace h := obind_some h
    obtain ⟨M6, hc5, h⟩ := h
    refine tm_callI (avs := [ti x1, ti a1, tl a2, ti a3]) (st := [tr 19 i2, ti x1, tr 200 0]) (okX7_init hc5) wcX1_41.1 wcX1_41.2.1 wcX1_41.2.2 rfl ⟨rfl, rfl, Nat.le_of_ble_eq_true rfl, Nat.le_of_ble_eq_true rfl⟩ rfl (Nat.le_of_ble_eq_true rfl) ⟨Nat.le_of_ble_eq_true rfl, Nat.le_of_ble_eq_true rfl⟩ dX1_addPart_22 ?_
    replace h := chk_some h
    obtain ⟨b7, h⟩ := h
    replace h := chk_some h
    obtain ⟨b8, h⟩ := h
    replace h := bnd_some h
    obtain ⟨M9, eM9, h⟩ := h
    refine tm_fin (kc := 19) (k := 7) rfl (by decide) rfl rfl finX7 b7 b8 ?_
    refine tm_nmM eM9 ?_
    replace h := chk_some h
    obtain ⟨b10, h⟩ := h
    replace h := bnd_some h
    obtain ⟨M11, eM11, h⟩ := h
    refine tm_aast kX7 rfl ⟨rfl, rfl, rfl, fun _ => rfl⟩ dX1_addPart_25 (inb_vp b10) ?_
    refine tm_nmM eM11 ?_
    refine tm_aload_n dX1_addPart_26 rfl rfl ?_
    refine tm_dup dX1_addPart_27 rfl ?_
    refine tm_get kX1 rfl (j := 2) (by decide) wfX1_35 dX1_addPart_28 (v := ti (mI M11 1 0 2)) rfl ?_
    refine tm_iconst (v := 1) dX1_addPart_31 (by decide) ?_
    refine tm_iadd dX1_addPart_32 ?_
    replace h := bnd_some h
    obtain ⟨M12, eM12, h⟩ := h
    refine tm_put kX1 rfl (j := 2) (by decide) wfX1_35 rfl dX1_addPart_33 (fun _ => ⟨rfl, rfl⟩) (tPut_I ((mI M11 1 0 2) + 1) rfl) ?_
    refine tm_nmM eM12 ?_
    refine tm_iload dX1_addPart_36 rfl ?_
    obtain ⟨rfl, rfl⟩ := pj2 h
    exact tm_iret rfl dX1_addPart_38
  exact TMet.of (by decide) (Nat.le_of_ble_eq_true rfl) key
theorem wcX10_80 : tCB RX10 80 yX1_addPart cX1_addPart 6 (some .int) 3 ∧ Cond.methodLink RX10 80 yX1_addPart ∈ tgd ∧ Cond.instanceMethod yX1_addPart ∈ tgd ∧ Cond.selects RX1 yX1_addPart yX1_addPart ∈ tgd := ⟨⟨(tgd_t 391 (by decide +kernel) (by decide +kernel)), (tgd_t 2 (by decide +kernel) (by decide +kernel)), by decide, by decide +kernel⟩, (tgd_t 388 (by decide +kernel) (by decide +kernel)), (tgd_t 389 (by decide +kernel) (by decide +kernel)), (tgd_t 390 (by decide +kernel) (by decide +kernel))⟩
abbrev iX10_part : tY := (RX10, cX10_part, 6, some .int, "part")
abbrev rmX10_part : Room := { frames := 5, cells := 3, slots := 39, locals := 107 }
def fX10_part (a1 : Int32) (a2 : Int64) (a3 : Int32) (M : tM) : Option (Int32 × tM) :=
  if a1 < 0 then (
  some (((-1), M))
  ) else (
  if a1 ≤ 5 then (
  if a1 = 4 then (
  if a3 < 1 then (
  some (((-1), M))
  ) else (
  if 4 < a3 then (
  some (((-1), M))
  ) else (
  if a1 = 5 then (
  if a3 ≤ 12 then (
  if (mI M 1 0 2) < 12 then (
  if a1 = 5 then (
  if 0 ≤ a3 then (
  (fX1_addPart a1 a2 a3 M).bind fun (x66, M68) =>
  (fX10_graphChanged M68).bind fun M70 =>
  some ((x66, M70))
  ) else (
  (fX10_meets 5 M).bind fun (x71, M73) =>
  some ((x71, M73))
  )
  ) else (
  (fX1_addPart a1 a2 a3 M).bind fun (x60, M62) =>
  (fX10_graphChanged M62).bind fun M64 =>
  some ((x60, M64))
  )
  ) else (
  some (((-2), M))
  )
  ) else (
  some (((-1), M))
  )
  ) else (
  if (mI M 1 0 2) < 12 then (
  if a1 = 5 then (
  if 0 ≤ a3 then (
  (fX1_addPart a1 a2 a3 M).bind fun (x49, M51) =>
  (fX10_graphChanged M51).bind fun M53 =>
  some ((x49, M53))
  ) else (
  (fX10_meets 5 M).bind fun (x54, M56) =>
  some ((x54, M56))
  )
  ) else (
  (fX1_addPart a1 a2 a3 M).bind fun (x43, M45) =>
  (fX10_graphChanged M45).bind fun M47 =>
  some ((x43, M47))
  )
  ) else (
  some (((-2), M))
  )
  )
  )
  )
  ) else (
  if a1 = 5 then (
  if a3 ≤ 12 then (
  if (mI M 1 0 2) < 12 then (
  if a1 = 5 then (
  if 0 ≤ a3 then (
  (fX1_addPart a1 a2 a3 M).bind fun (x30, M32) =>
  (fX10_graphChanged M32).bind fun M34 =>
  some ((x30, M34))
  ) else (
  (fX10_meets 5 M).bind fun (x35, M37) =>
  some ((x35, M37))
  )
  ) else (
  (fX1_addPart a1 a2 a3 M).bind fun (x24, M26) =>
  (fX10_graphChanged M26).bind fun M28 =>
  some ((x24, M28))
  )
  ) else (
  some (((-2), M))
  )
  ) else (
  some (((-1), M))
  )
  ) else (
  if (mI M 1 0 2) < 12 then (
  if a1 = 5 then (
  if 0 ≤ a3 then (
  (fX1_addPart a1 a2 a3 M).bind fun (x13, M15) =>
  (fX10_graphChanged M15).bind fun M17 =>
  some ((x13, M17))
  ) else (
  (fX10_meets 5 M).bind fun (x18, M20) =>
  some ((x18, M20))
  )
  ) else (
  (fX1_addPart a1 a2 a3 M).bind fun (x7, M9) =>
  (fX10_graphChanged M9).bind fun M11 =>
  some ((x7, M11))
  )
  ) else (
  some (((-2), M))
  )
  )
  )
  ) else (
  some (((-1), M))
  )
  )
set_option maxHeartbeats 4000000 in
set_option maxRecDepth 100000 in
theorem okX10_part {g : tG} {a1 : Int32} {a2 : Int64} {a3 : Int32} {M : tM} {v : Int32} {Mz : tM} (h : fX10_part a1 a2 a3 M = some ((v, Mz))) : TMet g yX10_part (Cond.code yX10_part cX10_part 6 (some .int) :: tgd) rmX10_part [tr 10 0, ti a1, tl a2, ti a3] M (some (ti v)) Mz 3 39 := by
  have key : TW g iX10_part rmX10_part 3 39 (some (ti v)) Mz 0 0 0 [(0, tr 10 0), (1, ti a1), (2, tl a2), (4, ti a3)] [] M := by
    rw [fX10_part] at h
    refine tm_iload_n dX10_part_0 rfl rfl ?_
    refine tm_if_lt (tgt := 9) dX10_part_1 (by decide) (fun c1 => ?_) (fun c1 => ?_)
    · rw [if_pos c1] at h
      refine tm_iconst (v := (-1)) dX10_part_9 (by decide) ?_
      obtain ⟨rfl, rfl⟩ := pj2 h
      refine tm_widen (c2 := 3) (s2 := 39) (Nat.le_of_ble_eq_true rfl) (Nat.le_of_ble_eq_true rfl) ?_
      exact tm_iret rfl dX10_part_10
    · rw [if_neg c1] at h
      refine tm_iload_n dX10_part_4 rfl rfl ?_
      refine tm_iconst (v := 5) dX10_part_5 (by decide) ?_
      refine tm_icmp_le (tgt := 11) dX10_part_6 (by decide) (fun c2 => ?_) (fun c2 => ?_)
      · rw [if_pos c2] at h
        refine tm_iload_n dX10_part_11 rfl rfl ?_
        refine tm_iconst (v := 4) dX10_part_12 (by decide) ?_
        refine tm_icmp_ne (tgt := 28) dX10_part_13 (by decide) (fun c3 => ?_) (fun c3 => ?_)
        · rw [if_neg c3] at h
          refine tm_iload_n dX10_part_28 rfl rfl ?_
          refine tm_iconst (v := 5) dX10_part_29 (by decide) ?_
          refine tm_icmp_ne (tgt := 42) dX10_part_30 (by decide) (fun c4 => ?_) (fun c4 => ?_)
          · rw [if_neg c4] at h
            refine tm_aload_n dX10_part_42 rfl rfl ?_
            refine tm_get kX10 rfl (j := 0) (by decide) wfX10_10 dX10_part_43 (v := tr 1 0) rfl ?_
            refine tm_get kX1 rfl (j := 2) (by decide) wfX10_72 dX10_part_46 (v := ti (mI M 1 0 2)) rfl ?_
            refine tm_bipush (v := 12) dX10_part_49 (by decide) ?_
            refine tm_icmp_lt (tgt := 57) dX10_part_51 (by decide) (fun c5 => ?_) (fun c5 => ?_)
            · rw [if_pos c5] at h
              refine tm_iload_n dX10_part_57 rfl rfl ?_
              refine tm_iconst (v := 5) dX10_part_58 (by decide) ?_
              refine tm_icmp_ne (tgt := 73) dX10_part_59 (by decide) (fun c6 => ?_) (fun c6 => ?_)
              · rw [if_neg c6] at h
                refine tm_aload_n dX10_part_73 rfl rfl ?_
                refine tm_get kX10 rfl (j := 0) (by decide) wfX10_10 dX10_part_74 (v := tr 1 0) rfl ?_
                refine tm_iload_n dX10_part_77 rfl rfl ?_
                refine tm_lload_n dX10_part_78 rfl rfl ?_
                refine tm_iload dX10_part_79 rfl ?_
                replace h := obind_some h
                obtain ⟨⟨x7, M9⟩, hc8, h⟩ := h
                dsimp only at h
                refine tm_callV kX1 rfl (avs := [ti a1, tl a2, ti a3]) (st := []) (okX1_addPart hc8) wcX10_80.1 wcX10_80.2.1 wcX10_80.2.2.1 wcX10_80.2.2.2 ⟨rfl, rfl, Nat.le_of_ble_eq_true rfl, Nat.le_of_ble_eq_true rfl⟩ rfl (Nat.le_of_ble_eq_true rfl) ⟨Nat.le_of_ble_eq_true rfl, Nat.le_of_ble_eq_true rfl⟩ dX10_part_81 ?_
                refine tm_istore (lc' := [(5, ti x7), (0, tr 10 0), (1, ti a1), (2, tl a2), (4, ti a3)]) dX10_part_84 (by decide) rfl ?_
                refine tm_aload_n dX10_part_86 rfl rfl ?_
                replace h := obind_some h
                obtain ⟨M11, hc10, h⟩ := h
                refine tm_callV kX10 rfl (avs := []) (st := []) (okX10_graphChanged hc10) wcX10_84.1 wcX10_84.2.1 wcX10_84.2.2.1 wcX10_84.2.2.2 ⟨rfl, rfl, Nat.le_of_ble_eq_true rfl, Nat.le_of_ble_eq_true rfl⟩ rfl (Nat.le_of_ble_eq_true rfl) ⟨Nat.le_of_ble_eq_true rfl, Nat.le_of_ble_eq_true rfl⟩ dX10_part_87 ?_
                refine tm_iload dX10_part_90 rfl ?_
                obtain ⟨rfl, rfl⟩ := pj2 h
                exact tm_iret rfl dX10_part_92
              · rw [if_pos c6] at h
                refine tm_iload dX10_part_62 rfl ?_
                refine tm_if_ge (tgt := 73) dX10_part_64 (by decide) (fun c12 => ?_) (fun c12 => ?_)
                · rw [if_pos c12] at h
                  refine tm_aload_n dX10_part_73 rfl rfl ?_
                  refine tm_get kX10 rfl (j := 0) (by decide) wfX10_10 dX10_part_74 (v := tr 1 0) rfl ?_
                  refine tm_iload_n dX10_part_77 rfl rfl ?_
                  refine tm_lload_n dX10_part_78 rfl rfl ?_
                  refine tm_iload dX10_part_79 rfl ?_
                  replace h := obind_some h
                  obtain ⟨⟨x13, M15⟩, hc14, h⟩ := h
                  dsimp only at h
                  refine tm_callV kX1 rfl (avs := [ti a1, tl a2, ti a3]) (st := []) (okX1_addPart hc14) wcX10_80.1 wcX10_80.2.1 wcX10_80.2.2.1 wcX10_80.2.2.2 ⟨rfl, rfl, Nat.le_of_ble_eq_true rfl, Nat.le_of_ble_eq_true rfl⟩ rfl (Nat.le_of_ble_eq_true rfl) ⟨Nat.le_of_ble_eq_true rfl, Nat.le_of_ble_eq_true rfl⟩ dX10_part_81 ?_
                  refine tm_istore (lc' := [(5, ti x13), (0, tr 10 0), (1, ti a1), (2, tl a2), (4, ti a3)]) dX10_part_84 (by decide) rfl ?_
                  refine tm_aload_n dX10_part_86 rfl rfl ?_
                  replace h := obind_some h
                  obtain ⟨M17, hc16, h⟩ := h
                  refine tm_callV kX10 rfl (avs := []) (st := []) (okX10_graphChanged hc16) wcX10_84.1 wcX10_84.2.1 wcX10_84.2.2.1 wcX10_84.2.2.2 ⟨rfl, rfl, Nat.le_of_ble_eq_true rfl, Nat.le_of_ble_eq_true rfl⟩ rfl (Nat.le_of_ble_eq_true rfl) ⟨Nat.le_of_ble_eq_true rfl, Nat.le_of_ble_eq_true rfl⟩ dX10_part_87 ?_
                  refine tm_iload dX10_part_90 rfl ?_
                  obtain ⟨rfl, rfl⟩ := pj2 h
                  exact tm_iret rfl dX10_part_92
                · rw [if_neg c12] at h
                  refine tm_aload_n dX10_part_67 rfl rfl ?_
                  refine tm_iconst (v := 5) dX10_part_68 (by decide) ?_
                  replace h := obind_some h
                  obtain ⟨⟨x18, M20⟩, hc19, h⟩ := h
                  dsimp only at h
                  refine tm_callV kX10 rfl (avs := [ti 5]) (st := []) (okX10_meets hc19) wcX10_76.1 wcX10_76.2.1 wcX10_76.2.2.1 wcX10_76.2.2.2 ⟨rfl, rfl, Nat.le_of_ble_eq_true rfl, Nat.le_of_ble_eq_true rfl⟩ rfl (Nat.le_of_ble_eq_true rfl) ⟨Nat.le_of_ble_eq_true rfl, Nat.le_of_ble_eq_true rfl⟩ dX10_part_69 ?_
                  obtain ⟨rfl, rfl⟩ := pj2 h
                  refine tm_widen (c2 := 3) (s2 := 39) (Nat.le_of_ble_eq_true rfl) (Nat.le_of_ble_eq_true rfl) ?_
                  exact tm_iret rfl dX10_part_72
            · rw [if_neg c5] at h
              refine tm_bipush (v := (-2)) dX10_part_54 (by decide) ?_
              obtain ⟨rfl, rfl⟩ := pj2 h
              refine tm_widen (c2 := 3) (s2 := 39) (Nat.le_of_ble_eq_true rfl) (Nat.le_of_ble_eq_true rfl) ?_
              exact tm_iret rfl dX10_part_56
          · rw [if_pos c4] at h
            refine tm_iload dX10_part_33 rfl ?_
            refine tm_bipush (v := 12) dX10_part_35 (by decide) ?_
            refine tm_icmp_le (tgt := 42) dX10_part_37 (by decide) (fun c21 => ?_) (fun c21 => ?_)
            · rw [if_pos c21] at h
              refine tm_aload_n dX10_part_42 rfl rfl ?_
              refine tm_get kX10 rfl (j := 0) (by decide) wfX10_10 dX10_part_43 (v := tr 1 0) rfl ?_
              refine tm_get kX1 rfl (j := 2) (by decide) wfX10_72 dX10_part_46 (v := ti (mI M 1 0 2)) rfl ?_
              refine tm_bipush (v := 12) dX10_part_49 (by decide) ?_
              refine tm_icmp_lt (tgt := 57) dX10_part_51 (by decide) (fun c22 => ?_) (fun c22 => ?_)
              · rw [if_pos c22] at h
                refine tm_iload_n dX10_part_57 rfl rfl ?_
                refine tm_iconst (v := 5) dX10_part_58 (by decide) ?_
                refine tm_icmp_ne (tgt := 73) dX10_part_59 (by decide) (fun c23 => ?_) (fun c23 => ?_)
                · rw [if_neg c23] at h
                  refine tm_aload_n dX10_part_73 rfl rfl ?_
                  refine tm_get kX10 rfl (j := 0) (by decide) wfX10_10 dX10_part_74 (v := tr 1 0) rfl ?_
                  refine tm_iload_n dX10_part_77 rfl rfl ?_
                  refine tm_lload_n dX10_part_78 rfl rfl ?_
                  refine tm_iload dX10_part_79 rfl ?_
                  replace h := obind_some h
                  obtain ⟨⟨x24, M26⟩, hc25, h⟩ := h
                  dsimp only at h
                  refine tm_callV kX1 rfl (avs := [ti a1, tl a2, ti a3]) (st := []) (okX1_addPart hc25) wcX10_80.1 wcX10_80.2.1 wcX10_80.2.2.1 wcX10_80.2.2.2 ⟨rfl, rfl, Nat.le_of_ble_eq_true rfl, Nat.le_of_ble_eq_true rfl⟩ rfl (Nat.le_of_ble_eq_true rfl) ⟨Nat.le_of_ble_eq_true rfl, Nat.le_of_ble_eq_true rfl⟩ dX10_part_81 ?_
                  refine tm_istore (lc' := [(5, ti x24), (0, tr 10 0), (1, ti a1), (2, tl a2), (4, ti a3)]) dX10_part_84 (by decide) rfl ?_
                  refine tm_aload_n dX10_part_86 rfl rfl ?_
                  replace h := obind_some h
                  obtain ⟨M28, hc27, h⟩ := h
                  refine tm_callV kX10 rfl (avs := []) (st := []) (okX10_graphChanged hc27) wcX10_84.1 wcX10_84.2.1 wcX10_84.2.2.1 wcX10_84.2.2.2 ⟨rfl, rfl, Nat.le_of_ble_eq_true rfl, Nat.le_of_ble_eq_true rfl⟩ rfl (Nat.le_of_ble_eq_true rfl) ⟨Nat.le_of_ble_eq_true rfl, Nat.le_of_ble_eq_true rfl⟩ dX10_part_87 ?_
                  refine tm_iload dX10_part_90 rfl ?_
                  obtain ⟨rfl, rfl⟩ := pj2 h
                  exact tm_iret rfl dX10_part_92
                · rw [if_pos c23] at h
                  refine tm_iload dX10_part_62 rfl ?_
                  refine tm_if_ge (tgt := 73) dX10_part_64 (by decide) (fun c29 => ?_) (fun c29 => ?_)
                  · rw [if_pos c29] at h
                    refine tm_aload_n dX10_part_73 rfl rfl ?_
                    refine tm_get kX10 rfl (j := 0) (by decide) wfX10_10 dX10_part_74 (v := tr 1 0) rfl ?_
                    refine tm_iload_n dX10_part_77 rfl rfl ?_
                    refine tm_lload_n dX10_part_78 rfl rfl ?_
                    refine tm_iload dX10_part_79 rfl ?_
                    replace h := obind_some h
                    obtain ⟨⟨x30, M32⟩, hc31, h⟩ := h
                    dsimp only at h
                    refine tm_callV kX1 rfl (avs := [ti a1, tl a2, ti a3]) (st := []) (okX1_addPart hc31) wcX10_80.1 wcX10_80.2.1 wcX10_80.2.2.1 wcX10_80.2.2.2 ⟨rfl, rfl, Nat.le_of_ble_eq_true rfl, Nat.le_of_ble_eq_true rfl⟩ rfl (Nat.le_of_ble_eq_true rfl) ⟨Nat.le_of_ble_eq_true rfl, Nat.le_of_ble_eq_true rfl⟩ dX10_part_81 ?_
                    refine tm_istore (lc' := [(5, ti x30), (0, tr 10 0), (1, ti a1), (2, tl a2), (4, ti a3)]) dX10_part_84 (by decide) rfl ?_
                    refine tm_aload_n dX10_part_86 rfl rfl ?_
                    replace h := obind_some h
                    obtain ⟨M34, hc33, h⟩ := h
                    refine tm_callV kX10 rfl (avs := []) (st := []) (okX10_graphChanged hc33) wcX10_84.1 wcX10_84.2.1 wcX10_84.2.2.1 wcX10_84.2.2.2 ⟨rfl, rfl, Nat.le_of_ble_eq_true rfl, Nat.le_of_ble_eq_true rfl⟩ rfl (Nat.le_of_ble_eq_true rfl) ⟨Nat.le_of_ble_eq_true rfl, Nat.le_of_ble_eq_true rfl⟩ dX10_part_87 ?_
                    refine tm_iload dX10_part_90 rfl ?_
                    obtain ⟨rfl, rfl⟩ := pj2 h
                    exact tm_iret rfl dX10_part_92
                  · rw [if_neg c29] at h
                    refine tm_aload_n dX10_part_67 rfl rfl ?_
                    refine tm_iconst (v := 5) dX10_part_68 (by decide) ?_
                    replace h := obind_some h
                    obtain ⟨⟨x35, M37⟩, hc36, h⟩ := h
                    dsimp only at h
                    refine tm_callV kX10 rfl (avs := [ti 5]) (st := []) (okX10_meets hc36) wcX10_76.1 wcX10_76.2.1 wcX10_76.2.2.1 wcX10_76.2.2.2 ⟨rfl, rfl, Nat.le_of_ble_eq_true rfl, Nat.le_of_ble_eq_true rfl⟩ rfl (Nat.le_of_ble_eq_true rfl) ⟨Nat.le_of_ble_eq_true rfl, Nat.le_of_ble_eq_true rfl⟩ dX10_part_69 ?_
                    obtain ⟨rfl, rfl⟩ := pj2 h
                    refine tm_widen (c2 := 3) (s2 := 39) (Nat.le_of_ble_eq_true rfl) (Nat.le_of_ble_eq_true rfl) ?_
                    exact tm_iret rfl dX10_part_72
              · rw [if_neg c22] at h
                refine tm_bipush (v := (-2)) dX10_part_54 (by decide) ?_
                obtain ⟨rfl, rfl⟩ := pj2 h
                refine tm_widen (c2 := 3) (s2 := 39) (Nat.le_of_ble_eq_true rfl) (Nat.le_of_ble_eq_true rfl) ?_
                exact tm_iret rfl dX10_part_56
            · rw [if_neg c21] at h
              refine tm_iconst (v := (-1)) dX10_part_40 (by decide) ?_
              obtain ⟨rfl, rfl⟩ := pj2 h
              refine tm_widen (c2 := 3) (s2 := 39) (Nat.le_of_ble_eq_true rfl) (Nat.le_of_ble_eq_true rfl) ?_
              exact tm_iret rfl dX10_part_41
        · rw [if_pos c3] at h
          refine tm_iload dX10_part_16 rfl ?_
          refine tm_iconst (v := 1) dX10_part_18 (by decide) ?_
          refine tm_icmp_lt (tgt := 40) dX10_part_19 (by decide) (fun c38 => ?_) (fun c38 => ?_)
          · rw [if_pos c38] at h
            refine tm_iconst (v := (-1)) dX10_part_40 (by decide) ?_
            obtain ⟨rfl, rfl⟩ := pj2 h
            refine tm_widen (c2 := 3) (s2 := 39) (Nat.le_of_ble_eq_true rfl) (Nat.le_of_ble_eq_true rfl) ?_
            exact tm_iret rfl dX10_part_41
          · rw [if_neg c38] at h
            refine tm_iload dX10_part_22 rfl ?_
            refine tm_iconst (v := 4) dX10_part_24 (by decide) ?_
            refine tm_icmp_gt (tgt := 40) dX10_part_25 (by decide) (fun c39 => ?_) (fun c39 => ?_)
            · rw [if_pos c39] at h
              refine tm_iconst (v := (-1)) dX10_part_40 (by decide) ?_
              obtain ⟨rfl, rfl⟩ := pj2 h
              refine tm_widen (c2 := 3) (s2 := 39) (Nat.le_of_ble_eq_true rfl) (Nat.le_of_ble_eq_true rfl) ?_
              exact tm_iret rfl dX10_part_41
            · rw [if_neg c39] at h
              refine tm_iload_n dX10_part_28 rfl rfl ?_
              refine tm_iconst (v := 5) dX10_part_29 (by decide) ?_
              refine tm_icmp_ne (tgt := 42) dX10_part_30 (by decide) (fun c40 => ?_) (fun c40 => ?_)
              · rw [if_neg c40] at h
                refine tm_aload_n dX10_part_42 rfl rfl ?_
                refine tm_get kX10 rfl (j := 0) (by decide) wfX10_10 dX10_part_43 (v := tr 1 0) rfl ?_
                refine tm_get kX1 rfl (j := 2) (by decide) wfX10_72 dX10_part_46 (v := ti (mI M 1 0 2)) rfl ?_
                refine tm_bipush (v := 12) dX10_part_49 (by decide) ?_
                refine tm_icmp_lt (tgt := 57) dX10_part_51 (by decide) (fun c41 => ?_) (fun c41 => ?_)
                · rw [if_pos c41] at h
                  refine tm_iload_n dX10_part_57 rfl rfl ?_
                  refine tm_iconst (v := 5) dX10_part_58 (by decide) ?_
                  refine tm_icmp_ne (tgt := 73) dX10_part_59 (by decide) (fun c42 => ?_) (fun c42 => ?_)
                  · rw [if_neg c42] at h
                    refine tm_aload_n dX10_part_73 rfl rfl ?_
                    refine tm_get kX10 rfl (j := 0) (by decide) wfX10_10 dX10_part_74 (v := tr 1 0) rfl ?_
                    refine tm_iload_n dX10_part_77 rfl rfl ?_
                    refine tm_lload_n dX10_part_78 rfl rfl ?_
                    refine tm_iload dX10_part_79 rfl ?_
                    replace h := obind_some h
                    obtain ⟨⟨x43, M45⟩, hc44, h⟩ := h
                    dsimp only at h
                    refine tm_callV kX1 rfl (avs := [ti a1, tl a2, ti a3]) (st := []) (okX1_addPart hc44) wcX10_80.1 wcX10_80.2.1 wcX10_80.2.2.1 wcX10_80.2.2.2 ⟨rfl, rfl, Nat.le_of_ble_eq_true rfl, Nat.le_of_ble_eq_true rfl⟩ rfl (Nat.le_of_ble_eq_true rfl) ⟨Nat.le_of_ble_eq_true rfl, Nat.le_of_ble_eq_true rfl⟩ dX10_part_81 ?_
                    refine tm_istore (lc' := [(5, ti x43), (0, tr 10 0), (1, ti a1), (2, tl a2), (4, ti a3)]) dX10_part_84 (by decide) rfl ?_
                    refine tm_aload_n dX10_part_86 rfl rfl ?_
                    replace h := obind_some h
                    obtain ⟨M47, hc46, h⟩ := h
                    refine tm_callV kX10 rfl (avs := []) (st := []) (okX10_graphChanged hc46) wcX10_84.1 wcX10_84.2.1 wcX10_84.2.2.1 wcX10_84.2.2.2 ⟨rfl, rfl, Nat.le_of_ble_eq_true rfl, Nat.le_of_ble_eq_true rfl⟩ rfl (Nat.le_of_ble_eq_true rfl) ⟨Nat.le_of_ble_eq_true rfl, Nat.le_of_ble_eq_true rfl⟩ dX10_part_87 ?_
                    refine tm_iload dX10_part_90 rfl ?_
                    obtain ⟨rfl, rfl⟩ := pj2 h
                    exact tm_iret rfl dX10_part_92
                  · rw [if_pos c42] at h
                    refine tm_iload dX10_part_62 rfl ?_
                    refine tm_if_ge (tgt := 73) dX10_part_64 (by decide) (fun c48 => ?_) (fun c48 => ?_)
                    · rw [if_pos c48] at h
                      refine tm_aload_n dX10_part_73 rfl rfl ?_
                      refine tm_get kX10 rfl (j := 0) (by decide) wfX10_10 dX10_part_74 (v := tr 1 0) rfl ?_
                      refine tm_iload_n dX10_part_77 rfl rfl ?_
                      refine tm_lload_n dX10_part_78 rfl rfl ?_
                      refine tm_iload dX10_part_79 rfl ?_
                      replace h := obind_some h
                      obtain ⟨⟨x49, M51⟩, hc50, h⟩ := h
                      dsimp only at h
                      refine tm_callV kX1 rfl (avs := [ti a1, tl a2, ti a3]) (st := []) (okX1_addPart hc50) wcX10_80.1 wcX10_80.2.1 wcX10_80.2.2.1 wcX10_80.2.2.2 ⟨rfl, rfl, Nat.le_of_ble_eq_true rfl, Nat.le_of_ble_eq_true rfl⟩ rfl (Nat.le_of_ble_eq_true rfl) ⟨Nat.le_of_ble_eq_true rfl, Nat.le_of_ble_eq_true rfl⟩ dX10_part_81 ?_
                      refine tm_istore (lc' := [(5, ti x49), (0, tr 10 0), (1, ti a1), (2, tl a2), (4, ti a3)]) dX10_part_84 (by decide) rfl ?_
                      refine tm_aload_n dX10_part_86 rfl rfl ?_
                      replace h := obind_some h
                      obtain ⟨M53, hc52, h⟩ := h
                      refine tm_callV kX10 rfl (avs := []) (st := []) (okX10_graphChanged hc52) wcX10_84.1 wcX10_84.2.1 wcX10_84.2.2.1 wcX10_84.2.2.2 ⟨rfl, rfl, Nat.le_of_ble_eq_true rfl, Nat.le_of_ble_eq_true rfl⟩ rfl (Nat.le_of_ble_eq_true rfl) ⟨Nat.le_of_ble_eq_true rfl, Nat.le_of_ble_eq_true rfl⟩ dX10_part_87 ?_
                      refine tm_iload dX10_part_90 rfl ?_
                      obtain ⟨rfl, rfl⟩ := pj2 h
                      exact tm_iret rfl dX10_part_92
                    · rw [if_neg c48] at h
                      refine tm_aload_n dX10_part_67 rfl rfl ?_
                      refine tm_iconst (v := 5) dX10_part_68 (by decide) ?_
                      replace h := obind_some h
                      obtain ⟨⟨x54, M56⟩, hc55, h⟩ := h
                      dsimp only at h
                      refine tm_callV kX10 rfl (avs := [ti 5]) (st := []) (okX10_meets hc55) wcX10_76.1 wcX10_76.2.1 wcX10_76.2.2.1 wcX10_76.2.2.2 ⟨rfl, rfl, Nat.le_of_ble_eq_true rfl, Nat.le_of_ble_eq_true rfl⟩ rfl (Nat.le_of_ble_eq_true rfl) ⟨Nat.le_of_ble_eq_true rfl, Nat.le_of_ble_eq_true rfl⟩ dX10_part_69 ?_
                      obtain ⟨rfl, rfl⟩ := pj2 h
                      refine tm_widen (c2 := 3) (s2 := 39) (Nat.le_of_ble_eq_true rfl) (Nat.le_of_ble_eq_true rfl) ?_
                      exact tm_iret rfl dX10_part_72
                · rw [if_neg c41] at h
                  refine tm_bipush (v := (-2)) dX10_part_54 (by decide) ?_
                  obtain ⟨rfl, rfl⟩ := pj2 h
                  refine tm_widen (c2 := 3) (s2 := 39) (Nat.le_of_ble_eq_true rfl) (Nat.le_of_ble_eq_true rfl) ?_
                  exact tm_iret rfl dX10_part_56
              · rw [if_pos c40] at h
                refine tm_iload dX10_part_33 rfl ?_
                refine tm_bipush (v := 12) dX10_part_35 (by decide) ?_
                refine tm_icmp_le (tgt := 42) dX10_part_37 (by decide) (fun c57 => ?_) (fun c57 => ?_)
                · rw [if_pos c57] at h
                  refine tm_aload_n dX10_part_42 rfl rfl ?_
                  refine tm_get kX10 rfl (j := 0) (by decide) wfX10_10 dX10_part_43 (v := tr 1 0) rfl ?_
                  refine tm_get kX1 rfl (j := 2) (by decide) wfX10_72 dX10_part_46 (v := ti (mI M 1 0 2)) rfl ?_
                  refine tm_bipush (v := 12) dX10_part_49 (by decide) ?_
                  refine tm_icmp_lt (tgt := 57) dX10_part_51 (by decide) (fun c58 => ?_) (fun c58 => ?_)
                  · rw [if_pos c58] at h
                    refine tm_iload_n dX10_part_57 rfl rfl ?_
                    refine tm_iconst (v := 5) dX10_part_58 (by decide) ?_
                    refine tm_icmp_ne (tgt := 73) dX10_part_59 (by decide) (fun c59 => ?_) (fun c59 => ?_)
                    · rw [if_neg c59] at h
                      refine tm_aload_n dX10_part_73 rfl rfl ?_
                      refine tm_get kX10 rfl (j := 0) (by decide) wfX10_10 dX10_part_74 (v := tr 1 0) rfl ?_
                      refine tm_iload_n dX10_part_77 rfl rfl ?_
                      refine tm_lload_n dX10_part_78 rfl rfl ?_
                      refine tm_iload dX10_part_79 rfl ?_
                      replace h := obind_some h
                      obtain ⟨⟨x60, M62⟩, hc61, h⟩ := h
                      dsimp only at h
                      refine tm_callV kX1 rfl (avs := [ti a1, tl a2, ti a3]) (st := []) (okX1_addPart hc61) wcX10_80.1 wcX10_80.2.1 wcX10_80.2.2.1 wcX10_80.2.2.2 ⟨rfl, rfl, Nat.le_of_ble_eq_true rfl, Nat.le_of_ble_eq_true rfl⟩ rfl (Nat.le_of_ble_eq_true rfl) ⟨Nat.le_of_ble_eq_true rfl, Nat.le_of_ble_eq_true rfl⟩ dX10_part_81 ?_
                      refine tm_istore (lc' := [(5, ti x60), (0, tr 10 0), (1, ti a1), (2, tl a2), (4, ti a3)]) dX10_part_84 (by decide) rfl ?_
                      refine tm_aload_n dX10_part_86 rfl rfl ?_
                      replace h := obind_some h
                      obtain ⟨M64, hc63, h⟩ := h
                      refine tm_callV kX10 rfl (avs := []) (st := []) (okX10_graphChanged hc63) wcX10_84.1 wcX10_84.2.1 wcX10_84.2.2.1 wcX10_84.2.2.2 ⟨rfl, rfl, Nat.le_of_ble_eq_true rfl, Nat.le_of_ble_eq_true rfl⟩ rfl (Nat.le_of_ble_eq_true rfl) ⟨Nat.le_of_ble_eq_true rfl, Nat.le_of_ble_eq_true rfl⟩ dX10_part_87 ?_
                      refine tm_iload dX10_part_90 rfl ?_
                      obtain ⟨rfl, rfl⟩ := pj2 h
                      exact tm_iret rfl dX10_part_92
                    · rw [if_pos c59] at h
                      refine tm_iload dX10_part_62 rfl ?_
                      refine tm_if_ge (tgt := 73) dX10_part_64 (by decide) (fun c65 => ?_) (fun c65 => ?_)
                      · rw [if_pos c65] at h
                        refine tm_aload_n dX10_part_73 rfl rfl ?_
                        refine tm_get kX10 rfl (j := 0) (by decide) wfX10_10 dX10_part_74 (v := tr 1 0) rfl ?_
                        refine tm_iload_n dX10_part_77 rfl rfl ?_
                        refine tm_lload_n dX10_part_78 rfl rfl ?_
                        refine tm_iload dX10_part_79 rfl ?_
                        replace h := obind_some h
                        obtain ⟨⟨x66, M68⟩, hc67, h⟩ := h
                        dsimp only at h
                        refine tm_callV kX1 rfl (avs := [ti a1, tl a2, ti a3]) (st := []) (okX1_addPart hc67) wcX10_80.1 wcX10_80.2.1 wcX10_80.2.2.1 wcX10_80.2.2.2 ⟨rfl, rfl, Nat.le_of_ble_eq_true rfl, Nat.le_of_ble_eq_true rfl⟩ rfl (Nat.le_of_ble_eq_true rfl) ⟨Nat.le_of_ble_eq_true rfl, Nat.le_of_ble_eq_true rfl⟩ dX10_part_81 ?_
                        refine tm_istore (lc' := [(5, ti x66), (0, tr 10 0), (1, ti a1), (2, tl a2), (4, ti a3)]) dX10_part_84 (by decide) rfl ?_
                        refine tm_aload_n dX10_part_86 rfl rfl ?_
                        replace h := obind_some h
                        obtain ⟨M70, hc69, h⟩ := h
                        refine tm_callV kX10 rfl (avs := []) (st := []) (okX10_graphChanged hc69) wcX10_84.1 wcX10_84.2.1 wcX10_84.2.2.1 wcX10_84.2.2.2 ⟨rfl, rfl, Nat.le_of_ble_eq_true rfl, Nat.le_of_ble_eq_true rfl⟩ rfl (Nat.le_of_ble_eq_true rfl) ⟨Nat.le_of_ble_eq_true rfl, Nat.le_of_ble_eq_true rfl⟩ dX10_part_87 ?_
                        refine tm_iload dX10_part_90 rfl ?_
                        obtain ⟨rfl, rfl⟩ := pj2 h
                        exact tm_iret rfl dX10_part_92
                      · rw [if_neg c65] at h
                        refine tm_aload_n dX10_part_67 rfl rfl ?_
                        refine tm_iconst (v := 5) dX10_part_68 (by decide) ?_
                        replace h := obind_some h
                        obtain ⟨⟨x71, M73⟩, hc72, h⟩ := h
                        dsimp only at h
                        refine tm_callV kX10 rfl (avs := [ti 5]) (st := []) (okX10_meets hc72) wcX10_76.1 wcX10_76.2.1 wcX10_76.2.2.1 wcX10_76.2.2.2 ⟨rfl, rfl, Nat.le_of_ble_eq_true rfl, Nat.le_of_ble_eq_true rfl⟩ rfl (Nat.le_of_ble_eq_true rfl) ⟨Nat.le_of_ble_eq_true rfl, Nat.le_of_ble_eq_true rfl⟩ dX10_part_69 ?_
                        obtain ⟨rfl, rfl⟩ := pj2 h
                        refine tm_widen (c2 := 3) (s2 := 39) (Nat.le_of_ble_eq_true rfl) (Nat.le_of_ble_eq_true rfl) ?_
                        exact tm_iret rfl dX10_part_72
                  · rw [if_neg c58] at h
                    refine tm_bipush (v := (-2)) dX10_part_54 (by decide) ?_
                    obtain ⟨rfl, rfl⟩ := pj2 h
                    refine tm_widen (c2 := 3) (s2 := 39) (Nat.le_of_ble_eq_true rfl) (Nat.le_of_ble_eq_true rfl) ?_
                    exact tm_iret rfl dX10_part_56
                · rw [if_neg c57] at h
                  refine tm_iconst (v := (-1)) dX10_part_40 (by decide) ?_
                  obtain ⟨rfl, rfl⟩ := pj2 h
                  refine tm_widen (c2 := 3) (s2 := 39) (Nat.le_of_ble_eq_true rfl) (Nat.le_of_ble_eq_true rfl) ?_
                  exact tm_iret rfl dX10_part_41
      · rw [if_neg c2] at h
        refine tm_iconst (v := (-1)) dX10_part_9 (by decide) ?_
        obtain ⟨rfl, rfl⟩ := pj2 h
        refine tm_widen (c2 := 3) (s2 := 39) (Nat.le_of_ble_eq_true rfl) (Nat.le_of_ble_eq_true rfl) ?_
        exact tm_iret rfl dX10_part_10
  exact TMet.of (by decide) (Nat.le_of_ble_eq_true rfl) key
theorem wcX1_44 : tCB RX1 44 yX4_init cX4_init 6 (none) 5 ∧ Cond.methodLink RX1 44 yX4_init ∈ tgd ∧ Cond.instanceMethod yX4_init ∈ tgd := ⟨⟨(tgd_t 551 (by decide +kernel) (by decide +kernel)), (tgd_t 15 (by decide +kernel) (by decide +kernel)), by decide, by decide +kernel⟩, (tgd_t 549 (by decide +kernel) (by decide +kernel)), (tgd_t 550 (by decide +kernel) (by decide +kernel))⟩
theorem wfX1_47 : Cond.fieldLink RX1 47 "EvenFlow$Part" "lastOut" "LEvenFlow$Line;" ∈ tgd := (tgd_t 450 (by decide +kernel) (by decide +kernel))
theorem wfX1_51 : Cond.fieldLink RX1 51 "EvenFlow$Part" "firstOut" "LEvenFlow$Line;" ∈ tgd := (tgd_t 448 (by decide +kernel) (by decide +kernel))
theorem wfX1_54 : Cond.fieldLink RX1 54 "EvenFlow$Line" "nextOut" "LEvenFlow$Line;" ∈ tgd := (tgd_t 602 (by decide +kernel) (by decide +kernel))
theorem wfX1_57 : Cond.fieldLink RX1 57 "EvenFlow$Part" "lastIn" "LEvenFlow$Line;" ∈ tgd := (tgd_t 445 (by decide +kernel) (by decide +kernel))
theorem wfX1_60 : Cond.fieldLink RX1 60 "EvenFlow$Part" "firstIn" "LEvenFlow$Line;" ∈ tgd := (tgd_t 442 (by decide +kernel) (by decide +kernel))
theorem wfX1_63 : Cond.fieldLink RX1 63 "EvenFlow$Line" "nextIn" "LEvenFlow$Line;" ∈ tgd := (tgd_t 597 (by decide +kernel) (by decide +kernel))
theorem wniX4_0 : Cond.instantiable RX4 14 ∈ tgd ∧ Cond.initialized RX4 ∈ tgd := ⟨(tgd_t 548 (by decide +kernel) (by decide +kernel)), (tgd_t 15 (by decide +kernel) (by decide +kernel))⟩
abbrev iX1_addLine : tY := (RX1, cX1_addLine, 7, some .int, "addLine")
abbrev rmX1_addLine : Room := { frames := 2, cells := 6, slots := 682, locals := 48 }
def fX1_addLine (a1 : Option Nat) (a2 : Int32) (a3 : Option Nat) (a4 : Int32) (M : tM) : Option (Int32 × tM) :=
  bnd (mI M 1 0 3) fun x1 =>
  bnd (x1.toNatClampNeg) fun i2 =>
  chk (!mE M 16 i2) <|
  bnd (mA M 16 i2 14) fun M4 =>
  (fX4_init i2 x1 a1 a2 a3 a4 M4).bind fun M6 =>
  chk (!mE M6 4 i2) <|
  chk (tfix M6 16 4 i2) <|
  bnd (mF M6 16 4 i2) fun M9 =>
  chk (inb x1 (mN M9 201 0)) <|
  bnd (sR M9 201 0 (x1.toNatClampNeg) (some i2)) fun M11 =>
  bnd (sI M11 1 0 3 ((mI M11 1 0 3) + 1)) fun M12 =>
  Option.bind a1 fun i13 =>
  bnd (mR M12 7 i13 14) fun r14 =>
  Option.bind (α := tM) (
  if r14 = none then (
  bnd (sR M12 7 i13 13 (some i2)) fun M19 =>
  some M19
  ) else (
  bnd (mR M12 7 i13 14) fun r16 =>
  Option.bind r16 fun i17 =>
  bnd (sR M12 4 i17 13 (some i2)) fun M18 =>
  some M18
  )
  ) fun M16 =>
  bnd (sR M16 7 i13 14 (some i2)) fun M20 =>
  Option.bind a3 fun i21 =>
  bnd (mR M20 7 i21 12) fun r22 =>
  Option.bind (α := tM) (
  if r22 = none then (
  bnd (sR M20 7 i21 11 (some i2)) fun M27 =>
  some M27
  ) else (
  bnd (mR M20 7 i21 12) fun r24 =>
  Option.bind r24 fun i25 =>
  bnd (sR M20 4 i25 12 (some i2)) fun M26 =>
  some M26
  )
  ) fun M24 =>
  bnd (sR M24 7 i21 12 (some i2)) fun M28 =>
  some ((x1, M28))
set_option maxHeartbeats 4000000 in
set_option maxRecDepth 100000 in
theorem okX1_addLine {g : tG} {a1 : Option Nat} {a2 : Int32} {a3 : Option Nat} {a4 : Int32} {M : tM} {v : Int32} {Mz : tM} (h : fX1_addLine a1 a2 a3 a4 M = some ((v, Mz))) : TMet g yX1_addLine (Cond.code yX1_addLine cX1_addLine 7 (some .int) :: tgd) rmX1_addLine [tr 1 0, tq 7 a1, ti a2, tq 7 a3, ti a4] M (some (ti v)) Mz 6 682 := by
  have key : TW g iX1_addLine rmX1_addLine 6 682 (some (ti v)) Mz 0 0 0 [(0, tr 1 0), (1, tq 7 a1), (2, ti a2), (3, tq 7 a3), (4, ti a4)] [] M := by
    rw [fX1_addLine] at h
    refine tm_aload_n dX1_addLine_0 rfl rfl ?_
    refine tm_get kX1 rfl (j := 3) (by decide) wfX1_38 dX1_addLine_1 (v := ti (mI M 1 0 3)) rfl ?_
    replace h := bnd_some h
    obtain ⟨x1, ex1, h⟩ := h
    refine tm_nmI ex1 ?_
    refine tm_istore (lc' := [(5, ti x1), (0, tr 1 0), (1, tq 7 a1), (2, ti a2), (3, tq 7 a3), (4, ti a4)]) dX1_addLine_4 (by decide) rfl ?_
    replace h := bnd_some h
    obtain ⟨i2, ei2, h⟩ := h
    replace h := chk_some h
    obtain ⟨b3, h⟩ := h
    replace h := bnd_some h
    obtain ⟨M4, eM4, h⟩ := h
    refine tm_new kX4 (k := 16) (i := i2) rfl dfX4 wclX1_17 wniX4_0.1 wniX4_0.2 (nt_of b3) rwX4 (by decide) ⟨Nat.le_of_ble_eq_true rfl, Nat.le_of_ble_eq_true rfl⟩ dX1_addLine_6 ?_
    refine tm_nmM eM4 ?_
    refine tm_dup dX1_addLine_9 rfl ?_
    refine tm_iload dX1_addLine_10 rfl ?_
    refine tm_aload_n dX1_addLine_12 rfl rfl ?_
    refine tm_iload_n dX1_addLine_13 rfl rfl ?_
    refine tm_aload_n dX1_addLine_14 rfl rfl ?_
    refine tm_iload dX1_addLine_15 rfl ?_
    replace h := obind_some h
    obtain ⟨M6, hc5, h⟩ := h
    refine tm_callI (avs := [ti x1, tq 7 a1, ti a2, tq 7 a3, ti a4]) (st := [tr 16 i2]) (okX4_init hc5) wcX1_44.1 wcX1_44.2.1 wcX1_44.2.2 rfl ⟨rfl, rfl, Nat.le_of_ble_eq_true rfl, Nat.le_of_ble_eq_true rfl⟩ rfl (Nat.le_of_ble_eq_true rfl) ⟨Nat.le_of_ble_eq_true rfl, Nat.le_of_ble_eq_true rfl⟩ dX1_addLine_17 ?_
    replace h := chk_some h
    obtain ⟨b7, h⟩ := h
    replace h := chk_some h
    obtain ⟨b8, h⟩ := h
    replace h := bnd_some h
    obtain ⟨M9, eM9, h⟩ := h
    refine tm_fin (kc := 16) (k := 4) rfl (by decide) rfl rfl finX4 b7 b8 ?_
    refine tm_nmM eM9 ?_
    refine tm_astore (lc' := [(6, tr 4 i2), (5, ti x1), (0, tr 1 0), (1, tq 7 a1), (2, ti a2), (3, tq 7 a3), (4, ti a4)]) dX1_addLine_20 (by decide) rfl ?_
    refine tm_aload_n dX1_addLine_22 rfl rfl ?_
    refine tm_get kX1 rfl (j := 1) (by decide) wfX1_19 dX1_addLine_23 (v := tr 201 0) rfl ?_
    refine tm_iload dX1_addLine_26 rfl ?_
    refine tm_aload dX1_addLine_28 rfl ?_
    replace h := chk_some h
    obtain ⟨b10, h⟩ := h
    replace h := bnd_some h
    obtain ⟨M11, eM11, h⟩ := h
    refine tm_aast kX4 rfl ⟨rfl, rfl, rfl, fun _ => rfl⟩ dX1_addLine_30 (inb_vp b10) ?_
    refine tm_nmM eM11 ?_
    refine tm_aload_n dX1_addLine_31 rfl rfl ?_
    refine tm_dup dX1_addLine_32 rfl ?_
    refine tm_get kX1 rfl (j := 3) (by decide) wfX1_38 dX1_addLine_33 (v := ti (mI M11 1 0 3)) rfl ?_
    refine tm_iconst (v := 1) dX1_addLine_36 (by decide) ?_
    refine tm_iadd dX1_addLine_37 ?_
    replace h := bnd_some h
    obtain ⟨M12, eM12, h⟩ := h
    refine tm_put kX1 rfl (j := 3) (by decide) wfX1_38 rfl dX1_addLine_38 (fun _ => ⟨rfl, rfl⟩) (tPut_I ((mI M11 1 0 3) + 1) rfl) ?_
    refine tm_nmM eM12 ?_
    refine tm_aload_n dX1_addLine_41 rfl rfl ?_
    replace h := obind_some h
    obtain ⟨i13, ei13, h⟩ := h
    subst ei13
    refine tm_get kX7 rfl (j := 14) (by decide) wfX1_47 dX1_addLine_42 (v := tq 4 (mR M12 7 i13 14)) rfl ?_
    replace h := bnd_some h
    obtain ⟨r14, er14, h⟩ := h
    refine tm_nmQ er14 ?_
    replace h := obind_some h
    obtain ⟨M16, hE17, h⟩ := h
    have J18 : TW g iX1_addLine rmX1_addLine 6 682 (some (ti v)) Mz 6 682 66 [(1, tr 7 i13), (3, tq 7 a3), (5, ti x1), (6, tr 4 i2)] [] M16 := by
      refine tm_aload_n dX1_addLine_66 rfl rfl ?_
      refine tm_aload dX1_addLine_67 rfl ?_
      replace h := bnd_some h
      obtain ⟨M20, eM20, h⟩ := h
      refine tm_put kX7 rfl (j := 14) (by decide) wfX1_47 rfl dX1_addLine_69 (fun _ => ⟨rfl, rfl⟩) (tPut_R (k2 := 4) (some i2) rfl) ?_
      refine tm_nmM eM20 ?_
      refine tm_aload_n dX1_addLine_72 rfl rfl ?_
      replace h := obind_some h
      obtain ⟨i21, ei21, h⟩ := h
      subst ei21
      refine tm_get kX7 rfl (j := 12) (by decide) wfX1_57 dX1_addLine_73 (v := tq 4 (mR M20 7 i21 12)) rfl ?_
      replace h := bnd_some h
      obtain ⟨r22, er22, h⟩ := h
      refine tm_nmQ er22 ?_
      replace h := obind_some h
      obtain ⟨M24, hE25, h⟩ := h
      have J26 : TW g iX1_addLine rmX1_addLine 6 682 (some (ti v)) Mz 6 682 97 [(3, tr 7 i21), (5, ti x1), (6, tr 4 i2)] [] M24 := by
        refine tm_aload_n dX1_addLine_97 rfl rfl ?_
        refine tm_aload dX1_addLine_98 rfl ?_
        replace h := bnd_some h
        obtain ⟨M28, eM28, h⟩ := h
        refine tm_put kX7 rfl (j := 12) (by decide) wfX1_57 rfl dX1_addLine_100 (fun _ => ⟨rfl, rfl⟩) (tPut_R (k2 := 4) (some i2) rfl) ?_
        refine tm_nmM eM28 ?_
        refine tm_iload dX1_addLine_103 rfl ?_
        obtain ⟨rfl, rfl⟩ := pj2 h
        exact tm_iret rfl dX1_addLine_105
      refine tm_ifnonnull (k2 := 4) (q := r22) (tgt := 88) dX1_addLine_76 (by decide) (fun c23 => ?_) (fun c23 => ?_)
      · rw [if_neg c23] at hE25
        refine tm_aload_n dX1_addLine_88 rfl rfl ?_
        refine tm_get kX7 rfl (j := 12) (by decide) wfX1_57 dX1_addLine_89 (v := tq 4 (mR M20 7 i21 12)) rfl ?_
        replace hE25 := bnd_some hE25
        obtain ⟨r24, er24, hE25⟩ := hE25
        refine tm_nmQ er24 ?_
        refine tm_aload dX1_addLine_92 rfl ?_
        replace hE25 := obind_some hE25
        obtain ⟨i25, ei25, hE25⟩ := hE25
        subst ei25
        replace hE25 := bnd_some hE25
        obtain ⟨M26, eM26, hE25⟩ := hE25
        refine tm_put kX4 rfl (j := 12) (by decide) wfX1_63 rfl dX1_addLine_94 (fun _ => ⟨rfl, rfl⟩) (tPut_R (k2 := 4) (some i2) rfl) ?_
        refine tm_nmM eM26 ?_
        obtain rfl := Option.some.inj hE25
        refine tm_lcp [3, 5, 6] rfl ?_
        exact J26
      · rw [if_pos c23] at hE25
        refine tm_aload_n dX1_addLine_79 rfl rfl ?_
        refine tm_aload dX1_addLine_80 rfl ?_
        replace hE25 := bnd_some hE25
        obtain ⟨M27, eM27, hE25⟩ := hE25
        refine tm_put kX7 rfl (j := 11) (by decide) wfX1_60 rfl dX1_addLine_82 (fun _ => ⟨rfl, rfl⟩) (tPut_R (k2 := 4) (some i2) rfl) ?_
        refine tm_nmM eM27 ?_
        refine tm_goto (tgt := 97) dX1_addLine_85 (by decide) ?_
        obtain rfl := Option.some.inj hE25
        refine tm_lcp [3, 5, 6] rfl ?_
        exact J26
    refine tm_ifnonnull (k2 := 4) (q := r14) (tgt := 57) dX1_addLine_45 (by decide) (fun c15 => ?_) (fun c15 => ?_)
    · rw [if_neg c15] at hE17
      refine tm_aload_n dX1_addLine_57 rfl rfl ?_
      refine tm_get kX7 rfl (j := 14) (by decide) wfX1_47 dX1_addLine_58 (v := tq 4 (mR M12 7 i13 14)) rfl ?_
      replace hE17 := bnd_some hE17
      obtain ⟨r16, er16, hE17⟩ := hE17
      refine tm_nmQ er16 ?_
      refine tm_aload dX1_addLine_61 rfl ?_
      replace hE17 := obind_some hE17
      obtain ⟨i17, ei17, hE17⟩ := hE17
      subst ei17
      replace hE17 := bnd_some hE17
      obtain ⟨M18, eM18, hE17⟩ := hE17
      refine tm_put kX4 rfl (j := 13) (by decide) wfX1_54 rfl dX1_addLine_63 (fun _ => ⟨rfl, rfl⟩) (tPut_R (k2 := 4) (some i2) rfl) ?_
      refine tm_nmM eM18 ?_
      obtain rfl := Option.some.inj hE17
      refine tm_lcp [1, 3, 5, 6] rfl ?_
      exact J18
    · rw [if_pos c15] at hE17
      refine tm_aload_n dX1_addLine_48 rfl rfl ?_
      refine tm_aload dX1_addLine_49 rfl ?_
      replace hE17 := bnd_some hE17
      obtain ⟨M19, eM19, hE17⟩ := hE17
      refine tm_put kX7 rfl (j := 13) (by decide) wfX1_51 rfl dX1_addLine_51 (fun _ => ⟨rfl, rfl⟩) (tPut_R (k2 := 4) (some i2) rfl) ?_
      refine tm_nmM eM19 ?_
      refine tm_goto (tgt := 66) dX1_addLine_54 (by decide) ?_
      obtain rfl := Option.some.inj hE17
      refine tm_lcp [1, 3, 5, 6] rfl ?_
      exact J18
  exact TMet.of (by decide) (Nat.le_of_ble_eq_true rfl) key
theorem wcX10_94 : tCB RX10 94 yX1_addLine cX1_addLine 7 (some .int) 4 ∧ Cond.methodLink RX10 94 yX1_addLine ∈ tgd ∧ Cond.instanceMethod yX1_addLine ∈ tgd ∧ Cond.selects RX1 yX1_addLine yX1_addLine ∈ tgd := ⟨⟨(tgd_t 547 (by decide +kernel) (by decide +kernel)), (tgd_t 2 (by decide +kernel) (by decide +kernel)), by decide, by decide +kernel⟩, (tgd_t 544 (by decide +kernel) (by decide +kernel)), (tgd_t 545 (by decide +kernel) (by decide +kernel)), (tgd_t 546 (by decide +kernel) (by decide +kernel))⟩
abbrev iX10_line : tY := (RX10, cX10_line, 8, some .int, "line")
abbrev rmX10_line : Room := { frames := 5, cells := 6, slots := 682, locals := 107 }
def fX10_line (a1 : Int32) (a2 : Int32) (a3 : Int32) (a4 : Int32) (M : tM) : Option (Int32 × tM) :=
  (fX1_partAt a1 M).bind fun r1 =>
  (fX1_partAt a3 M).bind fun r3 =>
  if r1 = none then (
  some (((-1), M))
  ) else (
  if r3 = none then (
  some (((-1), M))
  ) else (
  if a2 < 1 then (
  some (((-1), M))
  ) else (
  if 50 < a2 then (
  some (((-1), M))
  ) else (
  if a4 < 1 then (
  some (((-1), M))
  ) else (
  if a4 ≤ 50 then (
  if (mI M 1 0 3) < 20 then (
  (fX1_addLine r1 a2 r3 a4 M).bind fun (x12, M14) =>
  (fX10_graphChanged M14).bind fun M16 =>
  some ((x12, M16))
  ) else (
  some (((-2), M))
  )
  ) else (
  some (((-1), M))
  )
  )
  )
  )
  )
  )
set_option maxHeartbeats 4000000 in
set_option maxRecDepth 100000 in
theorem okX10_line {g : tG} {a1 : Int32} {a2 : Int32} {a3 : Int32} {a4 : Int32} {M : tM} {v : Int32} {Mz : tM} (h : fX10_line a1 a2 a3 a4 M = some ((v, Mz))) : TMet g yX10_line (Cond.code yX10_line cX10_line 8 (some .int) :: tgd) rmX10_line [tr 10 0, ti a1, ti a2, ti a3, ti a4] M (some (ti v)) Mz 6 682 := by
  have key : TW g iX10_line rmX10_line 6 682 (some (ti v)) Mz 0 0 0 [(0, tr 10 0), (1, ti a1), (2, ti a2), (3, ti a3), (4, ti a4)] [] M := by
    rw [fX10_line] at h
    refine tm_aload_n dX10_line_0 rfl rfl ?_
    refine tm_get kX10 rfl (j := 0) (by decide) wfX10_10 dX10_line_1 (v := tr 1 0) rfl ?_
    refine tm_iload_n dX10_line_4 rfl rfl ?_
    replace h := obind_some h
    obtain ⟨r1, hc2, h⟩ := h
    refine tm_callV kX1 rfl (avs := [ti a1]) (st := []) (okX1_partAt hc2) wcX10_87.1 wcX10_87.2.1 wcX10_87.2.2.1 wcX10_87.2.2.2 ⟨rfl, rfl, Nat.le_of_ble_eq_true rfl, Nat.le_of_ble_eq_true rfl⟩ rfl (Nat.le_of_ble_eq_true rfl) ⟨Nat.le_of_ble_eq_true rfl, Nat.le_of_ble_eq_true rfl⟩ dX10_line_5 ?_
    refine tm_astore (lc' := [(5, tq 7 r1), (0, tr 10 0), (1, ti a1), (2, ti a2), (3, ti a3), (4, ti a4)]) dX10_line_8 (by decide) rfl ?_
    refine tm_aload_n dX10_line_10 rfl rfl ?_
    refine tm_get kX10 rfl (j := 0) (by decide) wfX10_10 dX10_line_11 (v := tr 1 0) rfl ?_
    refine tm_iload_n dX10_line_14 rfl rfl ?_
    replace h := obind_some h
    obtain ⟨r3, hc4, h⟩ := h
    refine tm_callV kX1 rfl (avs := [ti a3]) (st := []) (okX1_partAt hc4) wcX10_87.1 wcX10_87.2.1 wcX10_87.2.2.1 wcX10_87.2.2.2 ⟨rfl, rfl, Nat.le_of_ble_eq_true rfl, Nat.le_of_ble_eq_true rfl⟩ rfl (Nat.le_of_ble_eq_true rfl) ⟨Nat.le_of_ble_eq_true rfl, Nat.le_of_ble_eq_true rfl⟩ dX10_line_15 ?_
    refine tm_astore (lc' := [(6, tq 7 r3), (5, tq 7 r1), (0, tr 10 0), (1, ti a1), (2, ti a2), (3, ti a3), (4, ti a4)]) dX10_line_18 (by decide) rfl ?_
    refine tm_aload dX10_line_20 rfl ?_
    refine tm_ifnull (k2 := 7) (q := r1) (tgt := 30) dX10_line_22 (by decide) (fun c5 => ?_) (fun c5 => ?_)
    · rw [if_pos c5] at h
      refine tm_iconst (v := (-1)) dX10_line_30 (by decide) ?_
      obtain ⟨rfl, rfl⟩ := pj2 h
      refine tm_widen (c2 := 6) (s2 := 682) (Nat.le_of_ble_eq_true rfl) (Nat.le_of_ble_eq_true rfl) ?_
      exact tm_iret rfl dX10_line_31
    · rw [if_neg c5] at h
      refine tm_aload dX10_line_25 rfl ?_
      refine tm_ifnonnull (k2 := 7) (q := r3) (tgt := 32) dX10_line_27 (by decide) (fun c6 => ?_) (fun c6 => ?_)
      · rw [if_neg c6] at h
        refine tm_iload_n dX10_line_32 rfl rfl ?_
        refine tm_iconst (v := 1) dX10_line_33 (by decide) ?_
        refine tm_icmp_lt (tgt := 56) dX10_line_34 (by decide) (fun c7 => ?_) (fun c7 => ?_)
        · rw [if_pos c7] at h
          refine tm_iconst (v := (-1)) dX10_line_56 (by decide) ?_
          obtain ⟨rfl, rfl⟩ := pj2 h
          refine tm_widen (c2 := 6) (s2 := 682) (Nat.le_of_ble_eq_true rfl) (Nat.le_of_ble_eq_true rfl) ?_
          exact tm_iret rfl dX10_line_57
        · rw [if_neg c7] at h
          refine tm_iload_n dX10_line_37 rfl rfl ?_
          refine tm_bipush (v := 50) dX10_line_38 (by decide) ?_
          refine tm_icmp_gt (tgt := 56) dX10_line_40 (by decide) (fun c8 => ?_) (fun c8 => ?_)
          · rw [if_pos c8] at h
            refine tm_iconst (v := (-1)) dX10_line_56 (by decide) ?_
            obtain ⟨rfl, rfl⟩ := pj2 h
            refine tm_widen (c2 := 6) (s2 := 682) (Nat.le_of_ble_eq_true rfl) (Nat.le_of_ble_eq_true rfl) ?_
            exact tm_iret rfl dX10_line_57
          · rw [if_neg c8] at h
            refine tm_iload dX10_line_43 rfl ?_
            refine tm_iconst (v := 1) dX10_line_45 (by decide) ?_
            refine tm_icmp_lt (tgt := 56) dX10_line_46 (by decide) (fun c9 => ?_) (fun c9 => ?_)
            · rw [if_pos c9] at h
              refine tm_iconst (v := (-1)) dX10_line_56 (by decide) ?_
              obtain ⟨rfl, rfl⟩ := pj2 h
              refine tm_widen (c2 := 6) (s2 := 682) (Nat.le_of_ble_eq_true rfl) (Nat.le_of_ble_eq_true rfl) ?_
              exact tm_iret rfl dX10_line_57
            · rw [if_neg c9] at h
              refine tm_iload dX10_line_49 rfl ?_
              refine tm_bipush (v := 50) dX10_line_51 (by decide) ?_
              refine tm_icmp_le (tgt := 58) dX10_line_53 (by decide) (fun c10 => ?_) (fun c10 => ?_)
              · rw [if_pos c10] at h
                refine tm_aload_n dX10_line_58 rfl rfl ?_
                refine tm_get kX10 rfl (j := 0) (by decide) wfX10_10 dX10_line_59 (v := tr 1 0) rfl ?_
                refine tm_get kX1 rfl (j := 3) (by decide) wfX10_91 dX10_line_62 (v := ti (mI M 1 0 3)) rfl ?_
                refine tm_bipush (v := 20) dX10_line_65 (by decide) ?_
                refine tm_icmp_lt (tgt := 73) dX10_line_67 (by decide) (fun c11 => ?_) (fun c11 => ?_)
                · rw [if_pos c11] at h
                  refine tm_aload_n dX10_line_73 rfl rfl ?_
                  refine tm_get kX10 rfl (j := 0) (by decide) wfX10_10 dX10_line_74 (v := tr 1 0) rfl ?_
                  refine tm_aload dX10_line_77 rfl ?_
                  refine tm_iload_n dX10_line_79 rfl rfl ?_
                  refine tm_aload dX10_line_80 rfl ?_
                  refine tm_iload dX10_line_82 rfl ?_
                  replace h := obind_some h
                  obtain ⟨⟨x12, M14⟩, hc13, h⟩ := h
                  dsimp only at h
                  refine tm_callV kX1 rfl (avs := [tq 7 r1, ti a2, tq 7 r3, ti a4]) (st := []) (okX1_addLine hc13) wcX10_94.1 wcX10_94.2.1 wcX10_94.2.2.1 wcX10_94.2.2.2 ⟨rfl, rfl, Nat.le_of_ble_eq_true rfl, Nat.le_of_ble_eq_true rfl⟩ rfl (Nat.le_of_ble_eq_true rfl) ⟨Nat.le_of_ble_eq_true rfl, Nat.le_of_ble_eq_true rfl⟩ dX10_line_84 ?_
                  refine tm_istore (lc' := [(7, ti x12), (6, tq 7 r3), (5, tq 7 r1), (0, tr 10 0), (1, ti a1), (2, ti a2), (3, ti a3), (4, ti a4)]) dX10_line_87 (by decide) rfl ?_
                  refine tm_aload_n dX10_line_89 rfl rfl ?_
                  replace h := obind_some h
                  obtain ⟨M16, hc15, h⟩ := h
                  refine tm_callV kX10 rfl (avs := []) (st := []) (okX10_graphChanged hc15) wcX10_84.1 wcX10_84.2.1 wcX10_84.2.2.1 wcX10_84.2.2.2 ⟨rfl, rfl, Nat.le_of_ble_eq_true rfl, Nat.le_of_ble_eq_true rfl⟩ rfl (Nat.le_of_ble_eq_true rfl) ⟨Nat.le_of_ble_eq_true rfl, Nat.le_of_ble_eq_true rfl⟩ dX10_line_90 ?_
                  refine tm_iload dX10_line_93 rfl ?_
                  obtain ⟨rfl, rfl⟩ := pj2 h
                  exact tm_iret rfl dX10_line_95
                · rw [if_neg c11] at h
                  refine tm_bipush (v := (-2)) dX10_line_70 (by decide) ?_
                  obtain ⟨rfl, rfl⟩ := pj2 h
                  refine tm_widen (c2 := 6) (s2 := 682) (Nat.le_of_ble_eq_true rfl) (Nat.le_of_ble_eq_true rfl) ?_
                  exact tm_iret rfl dX10_line_72
              · rw [if_neg c10] at h
                refine tm_iconst (v := (-1)) dX10_line_56 (by decide) ?_
                obtain ⟨rfl, rfl⟩ := pj2 h
                refine tm_widen (c2 := 6) (s2 := 682) (Nat.le_of_ble_eq_true rfl) (Nat.le_of_ble_eq_true rfl) ?_
                exact tm_iret rfl dX10_line_57
      · rw [if_pos c6] at h
        refine tm_iconst (v := (-1)) dX10_line_30 (by decide) ?_
        obtain ⟨rfl, rfl⟩ := pj2 h
        refine tm_widen (c2 := 6) (s2 := 682) (Nat.le_of_ble_eq_true rfl) (Nat.le_of_ble_eq_true rfl) ?_
        exact tm_iret rfl dX10_line_31
  exact TMet.of (by decide) (Nat.le_of_ble_eq_true rfl) key
