abbrev iX6_unrollInto : tY := (RX6, cX6_unrollInto, 2, none, "unrollInto")
abbrev rmX6_unrollInto : Room := { frames := 19, cells := 0, slots := 0, locals := 988 }
def fX6_unrollInto (k1 : Nat) (a1 : Nat) (M : tM) : Option (tM) :=
  bnd (sI M 6 0 8 0) fun M1 =>
  (fX6_unrollRow 15 k1 a1 0 ((mI M1 1 0 2) - 1) 1 0 M1).bind fun M3 =>
  some M3
set_option maxHeartbeats 4000000 in
set_option maxRecDepth 100000 in
theorem okX6_unrollInto {g : tG} {k1 : Nat} {a1 : Nat} {M : tM} {Mz : tM} (h : fX6_unrollInto k1 a1 M = some Mz) : TMet g yX6_unrollInto (Cond.code yX6_unrollInto cX6_unrollInto 2 (none) :: tgd) rmX6_unrollInto [tr 6 0, tr k1 a1] M none Mz 0 0 := by
  have key : TW g iX6_unrollInto rmX6_unrollInto 0 0 none Mz 0 0 0 [(0, tr 6 0), (1, tr k1 a1)] [] M := by
    rw [fX6_unrollInto] at h
    refine tm_aload_n dX6_unrollInto_0 rfl rfl ?_
    refine tm_iconst (v := 0) dX6_unrollInto_1 (by decide) ?_
    replace h := bnd_some h
    obtain ⟨M1, eM1, h⟩ := h
    refine tm_put kX6 rfl (j := 8) (by decide) wfX6_58 rfl dX6_unrollInto_2 (fun _ => ⟨rfl, rfl⟩) (tPut_I 0 rfl) ?_
    refine tm_nmM eM1 ?_
    refine tm_aload_n dX6_unrollInto_5 rfl rfl ?_
    refine tm_aload_n dX6_unrollInto_6 rfl rfl ?_
    refine tm_iconst (v := 0) dX6_unrollInto_7 (by decide) ?_
    refine tm_aload_n dX6_unrollInto_8 rfl rfl ?_
    refine tm_get kX6 rfl (j := 0) (by decide) wfX6_30 dX6_unrollInto_9 (v := tr 1 0) rfl ?_
    refine tm_get kX1 rfl (j := 2) (by decide) wfX6_42 dX6_unrollInto_12 (v := ti (mI M1 1 0 2)) rfl ?_
    refine tm_iconst (v := 1) dX6_unrollInto_15 (by decide) ?_
    refine tm_isub dX6_unrollInto_16 ?_
    refine tm_iconst (v := 1) dX6_unrollInto_17 (by decide) ?_
    refine tm_iconst (v := 0) dX6_unrollInto_18 (by decide) ?_
    replace h := obind_some h
    obtain ⟨M3, hc2, h⟩ := h
    refine tm_callV kX6 rfl (avs := [tr k1 a1, ti 0, ti ((mI M1 1 0 2) - 1), ti 1, ti 0]) (st := []) (okX6_unrollRow 15 hc2) wcX6_61.1 wcX6_61.2.1 wcX6_61.2.2.1 wcX6_61.2.2.2 ⟨rfl, rfl, Nat.le_of_ble_eq_true rfl, Nat.le_of_ble_eq_true rfl⟩ rfl (Nat.le_of_ble_eq_true rfl) ⟨Nat.zero_le _, Nat.zero_le _⟩ dX6_unrollInto_19 ?_
    obtain rfl := Option.some.inj h
    exact tm_vret rfl dX6_unrollInto_22
  exact TMet.of (by decide) (Nat.le_of_ble_eq_true rfl) key
theorem wcX10_204 : tCB RX10 204 yX1_hasPhased cX1_hasPhased 2 (some .boolean) 0 ∧ Cond.methodLink RX10 204 yX1_hasPhased ∈ tgd ∧ Cond.instanceMethod yX1_hasPhased ∈ tgd ∧ Cond.selects RX1 yX1_hasPhased yX1_hasPhased ∈ tgd := ⟨⟨(tgd_t 905 (by decide +kernel) (by decide +kernel)), (tgd_t 2 (by decide +kernel) (by decide +kernel)), by decide, by decide +kernel⟩, (tgd_t 902 (by decide +kernel) (by decide +kernel)), (tgd_t 903 (by decide +kernel) (by decide +kernel)), (tgd_t 904 (by decide +kernel) (by decide +kernel))⟩
theorem wcX10_207 : tCB RX10 207 yX6_arrange cX6_arrange 4 (some .boolean) 0 ∧ Cond.methodLink RX10 207 yX6_arrange ∈ tgd ∧ Cond.instanceMethod yX6_arrange ∈ tgd ∧ Cond.selects RX6 yX6_arrange yX6_arrange ∈ tgd := ⟨⟨(tgd_t 909 (by decide +kernel) (by decide +kernel)), (tgd_t 7 (by decide +kernel) (by decide +kernel)), by decide, by decide +kernel⟩, (tgd_t 906 (by decide +kernel) (by decide +kernel)), (tgd_t 907 (by decide +kernel) (by decide +kernel)), (tgd_t 908 (by decide +kernel) (by decide +kernel))⟩
theorem wcX10_212 : tCB RX10 212 yX6_unrollInto cX6_unrollInto 2 (none) 1 ∧ Cond.methodLink RX10 212 yX6_unrollInto ∈ tgd ∧ Cond.instanceMethod yX6_unrollInto ∈ tgd ∧ Cond.selects RX6 yX6_unrollInto yX6_unrollInto ∈ tgd := ⟨⟨(tgd_t 954 (by decide +kernel) (by decide +kernel)), (tgd_t 7 (by decide +kernel) (by decide +kernel)), by decide, by decide +kernel⟩, (tgd_t 951 (by decide +kernel) (by decide +kernel)), (tgd_t 952 (by decide +kernel) (by decide +kernel)), (tgd_t 953 (by decide +kernel) (by decide +kernel))⟩
abbrev iX10_once : tY := (RX10, cX10_once, 2, some .int, "once")
abbrev rmX10_once : Room := { frames := 20, cells := 0, slots := 0, locals := 1009 }
def fX10_once  (M : tM) : Option (Int32 × tM) :=
  (fX10_noRound M).bind fun (x1, M3) =>
  if x1 = 0 then (
  (fX1_hasPhased M3).bind fun x5 =>
  if x5 = 0 then (
  (fX6_arrange M3).bind fun (x8, M10) =>
  if x8 = 0 then (
  some (((-9), M10))
  ) else (
  (fX6_unrollInto 902 0 M10).bind fun M13 =>
  (fX8_adopt 902 0 (mI M13 1 0 4) M13).bind fun (x14, M16) =>
  some ((x14, M16))
  )
  ) else (
  (fX10_meets 3 M3).bind fun (x17, M19) =>
  some ((x17, M19))
  )
  ) else (
  some ((x1, M3))
  )
set_option maxHeartbeats 4000000 in
set_option maxRecDepth 100000 in
theorem okX10_once {g : tG}  {M : tM} {v : Int32} {Mz : tM} (h : fX10_once  M = some ((v, Mz))) : TMet g yX10_once (Cond.code yX10_once cX10_once 2 (some .int) :: tgd) rmX10_once [tr 10 0] M (some (ti v)) Mz 0 0 := by
  have key : TW g iX10_once rmX10_once 0 0 (some (ti v)) Mz 0 0 0 [(0, tr 10 0)] [] M := by
    rw [fX10_once] at h
    refine tm_aload_n dX10_once_0 rfl rfl ?_
    replace h := obind_some h
    obtain ⟨⟨x1, M3⟩, hc2, h⟩ := h
    dsimp only at h
    refine tm_callV kX10 rfl (avs := []) (st := []) (okX10_noRound hc2) wcX10_174.1 wcX10_174.2.1 wcX10_174.2.2.1 wcX10_174.2.2.2 ⟨rfl, rfl, Nat.le_of_ble_eq_true rfl, Nat.le_of_ble_eq_true rfl⟩ rfl (Nat.le_of_ble_eq_true rfl) ⟨Nat.zero_le _, Nat.zero_le _⟩ dX10_once_1 ?_
    refine tm_istore_n (lc' := [(1, ti x1), (0, tr 10 0)]) dX10_once_4 rfl (by decide) rfl ?_
    refine tm_iload_n dX10_once_5 rfl rfl ?_
    refine tm_if_eq (tgt := 11) dX10_once_6 (by decide) (fun c4 => ?_) (fun c4 => ?_)
    · rw [if_pos c4] at h
      refine tm_aload_n dX10_once_11 rfl rfl ?_
      refine tm_get kX10 rfl (j := 0) (by decide) wfX10_10 dX10_once_12 (v := tr 1 0) rfl ?_
      replace h := obind_some h
      obtain ⟨x5, hc6, h⟩ := h
      refine tm_callV kX1 rfl (avs := []) (st := []) (okX1_hasPhased hc6) wcX10_204.1 wcX10_204.2.1 wcX10_204.2.2.1 wcX10_204.2.2.2 ⟨rfl, rfl, Nat.le_of_ble_eq_true rfl, Nat.le_of_ble_eq_true rfl⟩ rfl (Nat.le_of_ble_eq_true rfl) ⟨Nat.zero_le _, Nat.zero_le _⟩ dX10_once_15 ?_
      refine tm_if_eq (tgt := 27) dX10_once_18 (by decide) (fun c7 => ?_) (fun c7 => ?_)
      · rw [if_pos c7] at h
        refine tm_aload_n dX10_once_27 rfl rfl ?_
        refine tm_get kX10 rfl (j := 4) (by decide) wfX10_47 dX10_once_28 (v := tr 6 0) rfl ?_
        replace h := obind_some h
        obtain ⟨⟨x8, M10⟩, hc9, h⟩ := h
        dsimp only at h
        refine tm_callV kX6 rfl (avs := []) (st := []) (okX6_arrange hc9) wcX10_207.1 wcX10_207.2.1 wcX10_207.2.2.1 wcX10_207.2.2.2 ⟨rfl, rfl, Nat.le_of_ble_eq_true rfl, Nat.le_of_ble_eq_true rfl⟩ rfl (Nat.le_of_ble_eq_true rfl) ⟨Nat.zero_le _, Nat.zero_le _⟩ dX10_once_31 ?_
        refine tm_if_ne (tgt := 40) dX10_once_34 (by decide) (fun c11 => ?_) (fun c11 => ?_)
        · rw [if_neg c11] at h
          refine tm_aload_n dX10_once_40 rfl rfl ?_
          refine tm_get kX10 rfl (j := 4) (by decide) wfX10_47 dX10_once_41 (v := tr 6 0) rfl ?_
          refine tm_aload_n dX10_once_44 rfl rfl ?_
          refine tm_get kX10 rfl (j := 1) (by decide) wfX10_26 dX10_once_45 (v := tr 8 0) rfl ?_
          refine tm_get kX8 rfl (j := 2) (by decide) wfX10_210 dX10_once_48 (v := tr 902 0) rfl ?_
          replace h := obind_some h
          obtain ⟨M13, hc12, h⟩ := h
          refine tm_callV kX6 rfl (avs := [tr 902 0]) (st := []) (okX6_unrollInto hc12) wcX10_212.1 wcX10_212.2.1 wcX10_212.2.2.1 wcX10_212.2.2.2 ⟨rfl, rfl, Nat.le_of_ble_eq_true rfl, Nat.le_of_ble_eq_true rfl⟩ rfl (Nat.le_of_ble_eq_true rfl) ⟨Nat.zero_le _, Nat.zero_le _⟩ dX10_once_51 ?_
          refine tm_aload_n dX10_once_54 rfl rfl ?_
          refine tm_get kX10 rfl (j := 1) (by decide) wfX10_26 dX10_once_55 (v := tr 8 0) rfl ?_
          refine tm_aload_n dX10_once_58 rfl rfl ?_
          refine tm_get kX10 rfl (j := 1) (by decide) wfX10_26 dX10_once_59 (v := tr 8 0) rfl ?_
          refine tm_get kX8 rfl (j := 2) (by decide) wfX10_210 dX10_once_62 (v := tr 902 0) rfl ?_
          refine tm_aload_n dX10_once_65 rfl rfl ?_
          refine tm_get kX10 rfl (j := 0) (by decide) wfX10_10 dX10_once_66 (v := tr 1 0) rfl ?_
          refine tm_get kX1 rfl (j := 4) (by decide) wfX10_167 dX10_once_69 (v := ti (mI M13 1 0 4)) rfl ?_
          replace h := obind_some h
          obtain ⟨⟨x14, M16⟩, hc15, h⟩ := h
          dsimp only at h
          refine tm_callV kX8 rfl (avs := [tr 902 0, ti (mI M13 1 0 4)]) (st := []) (okX8_adopt hc15) wcX10_197.1 wcX10_197.2.1 wcX10_197.2.2.1 wcX10_197.2.2.2 ⟨rfl, rfl, Nat.le_of_ble_eq_true rfl, Nat.le_of_ble_eq_true rfl⟩ rfl (Nat.le_of_ble_eq_true rfl) ⟨Nat.zero_le _, Nat.zero_le _⟩ dX10_once_72 ?_
          obtain ⟨rfl, rfl⟩ := pj2 h
          exact tm_iret rfl dX10_once_75
        · rw [if_pos c11] at h
          refine tm_bipush (v := (-9)) dX10_once_37 (by decide) ?_
          obtain ⟨rfl, rfl⟩ := pj2 h
          exact tm_iret rfl dX10_once_39
      · rw [if_neg c7] at h
        refine tm_aload_n dX10_once_21 rfl rfl ?_
        refine tm_iconst (v := 3) dX10_once_22 (by decide) ?_
        replace h := obind_some h
        obtain ⟨⟨x17, M19⟩, hc18, h⟩ := h
        dsimp only at h
        refine tm_callV kX10 rfl (avs := [ti 3]) (st := []) (okX10_meets hc18) wcX10_76.1 wcX10_76.2.1 wcX10_76.2.2.1 wcX10_76.2.2.2 ⟨rfl, rfl, Nat.le_of_ble_eq_true rfl, Nat.le_of_ble_eq_true rfl⟩ rfl (Nat.le_of_ble_eq_true rfl) ⟨Nat.zero_le _, Nat.zero_le _⟩ dX10_once_23 ?_
        obtain ⟨rfl, rfl⟩ := pj2 h
        exact tm_iret rfl dX10_once_26
    · rw [if_neg c4] at h
      refine tm_iload_n dX10_once_9 rfl rfl ?_
      obtain ⟨rfl, rfl⟩ := pj2 h
      exact tm_iret rfl dX10_once_10
  exact TMet.of (by decide) (Nat.le_of_ble_eq_true rfl) key
