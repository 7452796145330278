abbrev rtX3_tryAll (nn : Nat) : Room := { frames := 2 * nn + 4, cells := 0, slots := 0, locals := 60 * nn + 100 }
abbrev rtX6_writeRow (nn : Nat) : Room := { frames := nn + 3, cells := 0, slots := 0, locals := 60 * nn + 60 }
abbrev rtX6_unrollRow (nn : Nat) : Room := { frames := nn + 3, cells := 0, slots := 0, locals := 60 * nn + 60 }
theorem wcX3_49 : tCB RX3 49 yX3_tryAll cX3_tryAll 4 (none) 1 ∧ Cond.methodLink RX3 49 yX3_tryAll ∈ tgd ∧ Cond.instanceMethod yX3_tryAll ∈ tgd ∧ Cond.selects RX3 yX3_tryAll yX3_tryAll ∈ tgd := ⟨⟨(tgd_t 865 (by decide +kernel) (by decide +kernel)), (tgd_t 6 (by decide +kernel) (by decide +kernel)), by decide, by decide +kernel⟩, (tgd_t 862 (by decide +kernel) (by decide +kernel)), (tgd_t 864 (by decide +kernel) (by decide +kernel)), (tgd_p 20 (by decide +kernel) (by decide +kernel))⟩
theorem wcX3_78 : tCB RX3 78 yX3_keepStores cX3_keepStores 4 (none) 2 ∧ Cond.methodLink RX3 78 yX3_keepStores ∈ tgd ∧ Cond.instanceMethod yX3_keepStores ∈ tgd ∧ Cond.selects RX3 yX3_keepStores yX3_keepStores ∈ tgd := ⟨⟨(tgd_t 874 (by decide +kernel) (by decide +kernel)), (tgd_t 6 (by decide +kernel) (by decide +kernel)), by decide, by decide +kernel⟩, (tgd_t 871 (by decide +kernel) (by decide +kernel)), (tgd_t 873 (by decide +kernel) (by decide +kernel)), (tgd_p 22 (by decide +kernel) (by decide +kernel))⟩
theorem wcX3_81 : tCB RX3 81 yX5_step cX5_step 5 (none) 1 ∧ Cond.methodLink RX3 81 yX5_step ∈ tgd ∧ Cond.instanceMethod yX5_step ∈ tgd ∧ Cond.selects RX5 yX5_step yX5_step ∈ tgd := ⟨⟨(tgd_t 790 (by decide +kernel) (by decide +kernel)), (tgd_t 3 (by decide +kernel) (by decide +kernel)), by decide, by decide +kernel⟩, (tgd_t 875 (by decide +kernel) (by decide +kernel)), (tgd_t 788 (by decide +kernel) (by decide +kernel)), (tgd_t 789 (by decide +kernel) (by decide +kernel))⟩
theorem wcX3_94 : tCB RX3 94 yX5_stepBack cX5_stepBack 4 (none) 1 ∧ Cond.methodLink RX3 94 yX5_stepBack ∈ tgd ∧ Cond.instanceMethod yX5_stepBack ∈ tgd ∧ Cond.selects RX5 yX5_stepBack yX5_stepBack ∈ tgd := ⟨⟨(tgd_t 880 (by decide +kernel) (by decide +kernel)), (tgd_t 3 (by decide +kernel) (by decide +kernel)), by decide, by decide +kernel⟩, (tgd_t 877 (by decide +kernel) (by decide +kernel)), (tgd_t 878 (by decide +kernel) (by decide +kernel)), (tgd_t 879 (by decide +kernel) (by decide +kernel))⟩
theorem wcX3_97 : tCB RX3 97 yX3_giveStoresBack cX3_giveStoresBack 4 (none) 2 ∧ Cond.methodLink RX3 97 yX3_giveStoresBack ∈ tgd ∧ Cond.instanceMethod yX3_giveStoresBack ∈ tgd ∧ Cond.selects RX3 yX3_giveStoresBack yX3_giveStoresBack ∈ tgd := ⟨⟨(tgd_t 888 (by decide +kernel) (by decide +kernel)), (tgd_t 6 (by decide +kernel) (by decide +kernel)), by decide, by decide +kernel⟩, (tgd_t 885 (by decide +kernel) (by decide +kernel)), (tgd_t 887 (by decide +kernel) (by decide +kernel)), (tgd_p 23 (by decide +kernel) (by decide +kernel))⟩
theorem wcwX3_88 : tCW RX3 88 := ⟨(tgd_t 876 (by decide +kernel) (by decide +kernel)), (tgd_t 523 (by decide +kernel) (by decide +kernel)), (tgd_t 522 (by decide +kernel) (by decide +kernel)), (tgd_t 13 (by decide +kernel) (by decide +kernel))⟩
theorem wfX3_29 : Cond.fieldLink RX3 29 "EvenFlow$Least" "mostTries" "I" ∈ tgd := (tgd_t 209 (by decide +kernel) (by decide +kernel))
theorem wfX3_33 : Cond.fieldLink RX3 33 "EvenFlow$Least" "tryCount" "I" ∈ tgd := (tgd_t 204 (by decide +kernel) (by decide +kernel))
theorem wfX3_36 : Cond.fieldLink RX3 36 "EvenFlow$Least" "spent" "Z" ∈ tgd := (tgd_t 210 (by decide +kernel) (by decide +kernel))
theorem wfX3_41 : Cond.fieldLink RX3 41 "EvenFlow$Least" "bestSum" "I" ∈ tgd := (tgd_t 208 (by decide +kernel) (by decide +kernel))
theorem wfX3_70 : Cond.fieldLink RX3 70 "EvenFlow$Part" "number" "I" ∈ tgd := (tgd_t 402 (by decide +kernel) (by decide +kernel))
theorem wfX3_75 : Cond.fieldLink RX3 75 "EvenFlow$Marking" "sumOfStores" "I" ∈ tgd := (tgd_t 118 (by decide +kernel) (by decide +kernel))
theorem wfX3_85 : Cond.fieldLink RX3 85 "EvenFlow$Marking" "leftInAll" "I" ∈ tgd := (tgd_t 114 (by decide +kernel) (by decide +kernel))
abbrev iX3_tryOne : tY := (RX3, cX3_tryOne, 4, none, "tryOne")
abbrev rbX3_tryOne (nn : Nat) : Room := { frames := 2 * nn + 5, cells := 0, slots := 0, locals := 60 * nn + 130 }
def fX3_tryOne_b (rc : Int32 → tM → Option (tM)) (a1 : Option Nat) (a2 : Int32) (M : tM) : Option (tM) :=
  if (mI M 3 0 3) < (mI M 3 0 7) then (
  bnd (sI M 3 0 3 ((mI M 3 0 3) + 1)) fun M2 =>
  Option.bind a1 fun i3 =>
  chk (inb a2 (mN M2 404 0)) <|
  bnd (sI M2 404 0 (a2.toNatClampNeg) (mI M2 7 i3 0)) fun M5 =>
  bnd (mI M5 5 0 7) fun x6 =>
  (fX3_keepStores (some i3) a2 M5).bind fun M8 =>
  (fX5_step (some i3) M8).bind fun M10 =>
  Option.bind (α := tM) (
  if (mI M10 3 0 6) ≤ (mI M10 5 0 7) then (
  some M10
  ) else (
  if (mI M10 5 0 6) = 0 then (
  bnd (sI M10 3 0 6 (mI M10 5 0 7)) fun M15 =>
  chk (cpok 0 0 (a2 + 1) (mN M15 404 0) (mN M15 402 0)) <|
  bnd (cI M15 402 0 (va_cpy (mI M15 404 0) (mI M15 402 0) ((0 : Int32).toNatClampNeg) ((0 : Int32).toNatClampNeg) ((a2 + 1).toNatClampNeg))) fun M17 =>
  some M17
  ) else (
  (rc (a2 + 1) M10).bind fun M14 =>
  some M14
  )
  )
  ) fun M12 =>
  (fX5_stepBack (some i3) M12).bind fun M20 =>
  (fX3_giveStoresBack (some i3) a2 M20).bind fun M22 =>
  bnd (sI M22 5 0 7 x6) fun M23 =>
  some M23
  ) else (
  bnd (sI M 3 0 8 1) fun M24 =>
  some M24
  )
set_option maxHeartbeats 4000000 in
set_option maxRecDepth 100000 in
theorem okX3_tryOne_b {g : tG} {nn : Nat} {rc : Int32 → tM → Option (tM)} (hrc : ∀ {a1' : Int32} {Ma Mb : tM}, rc a1' Ma = some Mb → TMet g yX3_tryAll (Cond.code yX3_tryAll cX3_tryAll 4 (none) :: tgd) (rtX3_tryAll nn) [tr 3 0, ti a1'] Ma none Mb 0 0) {a1 : Option Nat} {a2 : Int32} {M : tM} {Mz : tM} (h : fX3_tryOne_b rc a1 a2 M = some Mz) : TMet g yX3_tryOne (Cond.code yX3_tryOne cX3_tryOne 4 (none) :: tgd) (rbX3_tryOne nn) [tr 3 0, tq 7 a1, ti a2] M none Mz 0 0 := by
  have key : TW g iX3_tryOne (rbX3_tryOne nn) 0 0 none Mz 0 0 0 [(0, tr 3 0), (1, tq 7 a1), (2, ti a2)] [] M := by
    rw [fX3_tryOne_b] at h
    refine tm_aload_n dX3_tryOne_0 rfl rfl ?_
    refine tm_get kX3 rfl (j := 3) (by decide) wfX3_33 dX3_tryOne_1 (v := ti (mI M 3 0 3)) rfl ?_
    refine tm_aload_n dX3_tryOne_4 rfl rfl ?_
    refine tm_get kX3 rfl (j := 7) (by decide) wfX3_29 dX3_tryOne_5 (v := ti (mI M 3 0 7)) rfl ?_
    refine tm_icmp_lt (tgt := 17) dX3_tryOne_8 (by decide) (fun c1 => ?_) (fun c1 => ?_)
    · rw [if_pos c1] at h
      refine tm_aload_n dX3_tryOne_17 rfl rfl ?_
      refine tm_dup dX3_tryOne_18 rfl ?_
      refine tm_get kX3 rfl (j := 3) (by decide) wfX3_33 dX3_tryOne_19 (v := ti (mI M 3 0 3)) rfl ?_
      refine tm_iconst (v := 1) dX3_tryOne_22 (by decide) ?_
      refine tm_iadd dX3_tryOne_23 ?_
      replace h := bnd_some h
      obtain ⟨M2, eM2, h⟩ := h
      refine tm_put kX3 rfl (j := 3) (by decide) wfX3_33 rfl dX3_tryOne_24 (fun _ => ⟨rfl, rfl⟩) (tPut_I ((mI M 3 0 3) + 1) rfl) ?_
      refine tm_nmM eM2 ?_
      refine tm_aload_n dX3_tryOne_27 rfl rfl ?_
      refine tm_get kX3 rfl (j := 4) (by decide) wfX3_15 dX3_tryOne_28 (v := tr 404 0) rfl ?_
      refine tm_iload_n dX3_tryOne_31 rfl rfl ?_
      refine tm_aload_n dX3_tryOne_32 rfl rfl ?_
      replace h := obind_some h
      obtain ⟨i3, ei3, h⟩ := h
      subst ei3
      refine tm_get kX7 rfl (j := 0) (by decide) wfX3_70 dX3_tryOne_33 (v := ti (mI M2 7 i3 0)) rfl ?_
      replace h := chk_some h
      obtain ⟨b4, h⟩ := h
      replace h := bnd_some h
      obtain ⟨M5, eM5, h⟩ := h
      refine tm_iast rfl dX3_tryOne_36 (inb_vp b4) ?_
      refine tm_nmM eM5 ?_
      refine tm_aload_n dX3_tryOne_37 rfl rfl ?_
      refine tm_get kX3 rfl (j := 1) (by decide) wfX3_25 dX3_tryOne_38 (v := tr 5 0) rfl ?_
      refine tm_get kX5 rfl (j := 7) (by decide) wfX3_75 dX3_tryOne_41 (v := ti (mI M5 5 0 7)) rfl ?_
      replace h := bnd_some h
      obtain ⟨x6, ex6, h⟩ := h
      refine tm_nmI ex6 ?_
      refine tm_istore_n (lc' := [(3, ti x6), (0, tr 3 0), (1, tr 7 i3), (2, ti a2)]) dX3_tryOne_44 rfl (by decide) rfl ?_
      refine tm_aload_n dX3_tryOne_45 rfl rfl ?_
      refine tm_aload_n dX3_tryOne_46 rfl rfl ?_
      refine tm_iload_n dX3_tryOne_47 rfl rfl ?_
      replace h := obind_some h
      obtain ⟨M8, hc7, h⟩ := h
      refine tm_callV kX3 rfl (avs := [tr 7 i3, ti a2]) (st := []) (okX3_keepStores hc7) wcX3_78.1 wcX3_78.2.1 wcX3_78.2.2.1 wcX3_78.2.2.2 ⟨rfl, rfl, (by show 0 + 1 ≤ 2 * nn + 5; omega), (by show 8 + (4 + 11) + (0) ≤ 60 * nn + 130; omega)⟩ rfl (Nat.le_of_ble_eq_true rfl) ⟨Nat.zero_le _, Nat.zero_le _⟩ dX3_tryOne_48 ?_
      refine tm_aload_n dX3_tryOne_51 rfl rfl ?_
      refine tm_get kX3 rfl (j := 1) (by decide) wfX3_25 dX3_tryOne_52 (v := tr 5 0) rfl ?_
      refine tm_aload_n dX3_tryOne_55 rfl rfl ?_
      replace h := obind_some h
      obtain ⟨M10, hc9, h⟩ := h
      refine tm_callV kX5 rfl (avs := [tr 7 i3]) (st := []) (okX5_step hc9) wcX3_81.1 wcX3_81.2.1 wcX3_81.2.2.1 wcX3_81.2.2.2 ⟨rfl, rfl, (by show 1 + 1 ≤ 2 * nn + 5; omega), (by show 8 + (5 + 11) + (21) ≤ 60 * nn + 130; omega)⟩ rfl (Nat.le_of_ble_eq_true rfl) ⟨Nat.zero_le _, Nat.zero_le _⟩ dX3_tryOne_56 ?_
      refine tm_aload_n dX3_tryOne_59 rfl rfl ?_
      refine tm_get kX3 rfl (j := 1) (by decide) wfX3_25 dX3_tryOne_60 (v := tr 5 0) rfl ?_
      refine tm_get kX5 rfl (j := 7) (by decide) wfX3_75 dX3_tryOne_63 (v := ti (mI M10 5 0 7)) rfl ?_
      refine tm_aload_n dX3_tryOne_66 rfl rfl ?_
      refine tm_get kX3 rfl (j := 6) (by decide) wfX3_41 dX3_tryOne_67 (v := ti (mI M10 3 0 6)) rfl ?_
      replace h := obind_some h
      obtain ⟨M12, hE13, h⟩ := h
      have J14 : TW g iX3_tryOne (rbX3_tryOne nn) 0 0 none Mz 0 0 120 [(0, tr 3 0), (1, tr 7 i3), (2, ti a2), (3, ti x6)] [] M12 := by
        refine tm_aload_n dX3_tryOne_120 rfl rfl ?_
        refine tm_get kX3 rfl (j := 1) (by decide) wfX3_25 dX3_tryOne_121 (v := tr 5 0) rfl ?_
        refine tm_aload_n dX3_tryOne_124 rfl rfl ?_
        replace h := obind_some h
        obtain ⟨M20, hc19, h⟩ := h
        refine tm_callV kX5 rfl (avs := [tr 7 i3]) (st := []) (okX5_stepBack hc19) wcX3_94.1 wcX3_94.2.1 wcX3_94.2.2.1 wcX3_94.2.2.2 ⟨rfl, rfl, (by show 1 + 1 ≤ 2 * nn + 5; omega), (by show 8 + (4 + 11) + (21) ≤ 60 * nn + 130; omega)⟩ rfl (Nat.le_of_ble_eq_true rfl) ⟨Nat.zero_le _, Nat.zero_le _⟩ dX3_tryOne_125 ?_
        refine tm_aload_n dX3_tryOne_128 rfl rfl ?_
        refine tm_aload_n dX3_tryOne_129 rfl rfl ?_
        refine tm_iload_n dX3_tryOne_130 rfl rfl ?_
        replace h := obind_some h
        obtain ⟨M22, hc21, h⟩ := h
        refine tm_callV kX3 rfl (avs := [tr 7 i3, ti a2]) (st := []) (okX3_giveStoresBack hc21) wcX3_97.1 wcX3_97.2.1 wcX3_97.2.2.1 wcX3_97.2.2.2 ⟨rfl, rfl, (by show 0 + 1 ≤ 2 * nn + 5; omega), (by show 8 + (4 + 11) + (0) ≤ 60 * nn + 130; omega)⟩ rfl (Nat.le_of_ble_eq_true rfl) ⟨Nat.zero_le _, Nat.zero_le _⟩ dX3_tryOne_131 ?_
        refine tm_aload_n dX3_tryOne_134 rfl rfl ?_
        refine tm_get kX3 rfl (j := 1) (by decide) wfX3_25 dX3_tryOne_135 (v := tr 5 0) rfl ?_
        refine tm_iload_n dX3_tryOne_138 rfl rfl ?_
        replace h := bnd_some h
        obtain ⟨M23, eM23, h⟩ := h
        refine tm_put kX5 rfl (j := 7) (by decide) wfX3_75 rfl dX3_tryOne_139 (fun _ => ⟨rfl, rfl⟩) (tPut_I x6 rfl) ?_
        refine tm_nmM eM23 ?_
        obtain rfl := Option.some.inj h
        exact tm_vret rfl dX3_tryOne_142
      refine tm_icmp_ge (tgt := 120) dX3_tryOne_70 (by decide) (fun c11 => ?_) (fun c11 => ?_)
      · rw [if_pos c11] at hE13
        obtain rfl := Option.some.inj hE13
        refine tm_lcp [0, 1, 2, 3] rfl ?_
        exact J14
      · rw [if_neg c11] at hE13
        refine tm_aload_n dX3_tryOne_73 rfl rfl ?_
        refine tm_get kX3 rfl (j := 1) (by decide) wfX3_25 dX3_tryOne_74 (v := tr 5 0) rfl ?_
        refine tm_get kX5 rfl (j := 6) (by decide) wfX3_85 dX3_tryOne_77 (v := ti (mI M10 5 0 6)) rfl ?_
        refine tm_if_ne (tgt := 113) dX3_tryOne_80 (by decide) (fun c12 => ?_) (fun c12 => ?_)
        · rw [if_neg c12] at hE13
          refine tm_aload_n dX3_tryOne_113 rfl rfl ?_
          refine tm_iload_n dX3_tryOne_114 rfl rfl ?_
          refine tm_iconst (v := 1) dX3_tryOne_115 (by decide) ?_
          refine tm_iadd dX3_tryOne_116 ?_
          replace hE13 := obind_some hE13
          obtain ⟨M14, hc13, hE13⟩ := hE13
          refine tm_callV kX3 rfl (avs := [ti (a2 + 1)]) (st := []) (hrc hc13) wcX3_49.1 wcX3_49.2.1 wcX3_49.2.2.1 wcX3_49.2.2.2 ⟨rfl, rfl, (by show 2 * nn + 4 + 1 ≤ 2 * nn + 5; omega), (by show 8 + (4 + 11) + (60 * nn + 100) ≤ 60 * nn + 130; omega)⟩ rfl (Nat.le_of_ble_eq_true rfl) ⟨Nat.zero_le _, Nat.zero_le _⟩ dX3_tryOne_117 ?_
          obtain rfl := Option.some.inj hE13
          refine tm_lcp [0, 1, 2, 3] rfl ?_
          exact J14
        · rw [if_pos c12] at hE13
          refine tm_aload_n dX3_tryOne_83 rfl rfl ?_
          refine tm_aload_n dX3_tryOne_84 rfl rfl ?_
          refine tm_get kX3 rfl (j := 1) (by decide) wfX3_25 dX3_tryOne_85 (v := tr 5 0) rfl ?_
          refine tm_get kX5 rfl (j := 7) (by decide) wfX3_75 dX3_tryOne_88 (v := ti (mI M10 5 0 7)) rfl ?_
          replace hE13 := bnd_some hE13
          obtain ⟨M15, eM15, hE13⟩ := hE13
          refine tm_put kX3 rfl (j := 6) (by decide) wfX3_41 rfl dX3_tryOne_91 (fun _ => ⟨rfl, rfl⟩) (tPut_I (mI M10 5 0 7) rfl) ?_
          refine tm_nmM eM15 ?_
          refine tm_aload_n dX3_tryOne_94 rfl rfl ?_
          refine tm_get kX3 rfl (j := 4) (by decide) wfX3_15 dX3_tryOne_95 (v := tr 404 0) rfl ?_
          refine tm_iconst (v := 0) dX3_tryOne_98 (by decide) ?_
          refine tm_aload_n dX3_tryOne_99 rfl rfl ?_
          refine tm_get kX3 rfl (j := 2) (by decide) wfX3_9 dX3_tryOne_100 (v := tr 402 0) rfl ?_
          refine tm_iconst (v := 0) dX3_tryOne_103 (by decide) ?_
          refine tm_iload_n dX3_tryOne_104 rfl rfl ?_
          refine tm_iconst (v := 1) dX3_tryOne_105 (by decide) ?_
          refine tm_iadd dX3_tryOne_106 ?_
          replace hE13 := chk_some hE13
          obtain ⟨b16, hE13⟩ := hE13
          replace hE13 := bnd_some hE13
          obtain ⟨M17, eM17, hE13⟩ := hE13
          have q18 := (cpok_of b16)
          refine tm_copyI rfl rfl wcwX3_88 ⟨(by show 1 ≤ 2 * nn + 5; omega), (by show 0 + 18 ≤ 60 * nn + 130; omega)⟩ dX3_tryOne_107 q18.1 q18.2.1 q18.2.2.1 q18.2.2.2.1 q18.2.2.2.2 ?_
          refine tm_nmM eM17 ?_
          refine tm_goto (tgt := 120) dX3_tryOne_110 (by decide) ?_
          obtain rfl := Option.some.inj hE13
          refine tm_lcp [0, 1, 2, 3] rfl ?_
          exact J14
    · rw [if_neg c1] at h
      refine tm_aload_n dX3_tryOne_11 rfl rfl ?_
      refine tm_iconst (v := 1) dX3_tryOne_12 (by decide) ?_
      replace h := bnd_some h
      obtain ⟨M24, eM24, h⟩ := h
      refine tm_put kX3 rfl (j := 8) (by decide) wfX3_36 rfl dX3_tryOne_13 (tb_f (x := 1) (by decide)) (tPut_I 1 rfl) ?_
      refine tm_nmM eM24 ?_
      obtain rfl := Option.some.inj h
      exact tm_vret rfl dX3_tryOne_16
  exact TMet.of (by decide) (Nat.le_of_ble_eq_true rfl) key
theorem wcX3_62 : tCB RX3 62 yX5_canFire cX5_canFire 4 (some .boolean) 1 ∧ Cond.methodLink RX3 62 yX5_canFire ∈ tgd ∧ Cond.instanceMethod yX5_canFire ∈ tgd ∧ Cond.selects RX5 yX5_canFire yX5_canFire ∈ tgd := ⟨⟨(tgd_t 785 (by decide +kernel) (by decide +kernel)), (tgd_t 3 (by decide +kernel) (by decide +kernel)), by decide, by decide +kernel⟩, (tgd_t 866 (by decide +kernel) (by decide +kernel)), (tgd_t 783 (by decide +kernel) (by decide +kernel)), (tgd_t 784 (by decide +kernel) (by decide +kernel))⟩
theorem wcX3_66 : tCB RX3 66 yX3_tryOne cX3_tryOne 4 (none) 2 ∧ Cond.methodLink RX3 66 yX3_tryOne ∈ tgd ∧ Cond.instanceMethod yX3_tryOne ∈ tgd ∧ Cond.selects RX3 yX3_tryOne yX3_tryOne ∈ tgd := ⟨⟨(tgd_t 870 (by decide +kernel) (by decide +kernel)), (tgd_t 6 (by decide +kernel) (by decide +kernel)), by decide, by decide +kernel⟩, (tgd_t 867 (by decide +kernel) (by decide +kernel)), (tgd_t 869 (by decide +kernel) (by decide +kernel)), (tgd_p 21 (by decide +kernel) (by decide +kernel))⟩
theorem wfX3_53 : Cond.fieldLink RX3 53 "EvenFlow$Graph" "partCount" "I" ∈ tgd := (tgd_t 52 (by decide +kernel) (by decide +kernel))
theorem wfX3_58 : Cond.fieldLink RX3 58 "EvenFlow$Graph" "parts" "[LEvenFlow$Part;" ∈ tgd := (tgd_t 37 (by decide +kernel) (by decide +kernel))
abbrev iX3_tryAll : tY := (RX3, cX3_tryAll, 4, none, "tryAll")
abbrev rbX3_tryAll (nn : Nat) : Room := { frames := 2 * (nn + 1) + 4, cells := 0, slots := 0, locals := 60 * (nn + 1) + 100 }
def fX3_tryAll_l9 (rc : Int32 → tM → Option (tM)) (z1 : Int32) : Nat → Int32 → tM → Option (tM)
  | 0, _, _ => none
  | n + 1, y2, M =>
    if (mI M 1 0 2) ≤ y2 then (
    some M
    ) else (
    if (mI M 3 0 8) = 0 then (
    chk (inb y2 (mN M 200 0)) <|
    bnd (mR M 200 0 (y2.toNatClampNeg)) fun r5 =>
    (fX5_canFire r5 M).bind fun x6 =>
    Option.bind (α := tM) (
    if x6 = 0 then (
    some M
    ) else (
    (fX3_tryOne_b rc r5 z1 M).bind fun M10 =>
    some M10
    )
    ) fun M9 =>
    bnd (y2 + 1) fun x12 =>
    fX3_tryAll_l9 rc z1 n x12 M9
    ) else (
    some M
    )
    )
def fX3_tryAll_b (rc : Int32 → tM → Option (tM)) (a1 : Int32) (M : tM) : Option (tM) :=
  if a1 < 40 then (
  Option.bind (fX3_tryAll_l9 rc a1 FU 0 M) fun M15 =>
  some M15
  ) else (
  some M
  )
set_option maxHeartbeats 4000000 in
set_option maxRecDepth 100000 in
theorem okX3_tryAll_l9 {g : tG} {nn : Nat} {rc : Int32 → tM → Option (tM)} (hrc : ∀ {a1' : Int32} {Ma Mb : tM}, rc a1' Ma = some Mb → TMet g yX3_tryAll (Cond.code yX3_tryAll cX3_tryAll 4 (none) :: tgd) (rtX3_tryAll nn) [tr 3 0, ti a1'] Ma none Mb 0 0) (z1 : Int32) {r : Option tV} {Mz : tM} : ∀ (n : Nat) (y2 : Int32) (M : tM) (w : tM), fX3_tryAll_l9 rc z1 n y2 M = some w → (∀ (Mw : tM), Mw = w → TW g iX3_tryAll (rbX3_tryAll nn) 0 0 r Mz 0 0 60 [] [] Mw) → TW g iX3_tryAll (rbX3_tryAll nn) 0 0 r Mz 0 0 9 [(0, tr 3 0), (1, ti z1), (2, ti y2)] [] M := by
  intro n
  induction n with
  | zero => intro y2 M w h; cases h
  | succ n ih =>
    intro y2 M w h J
    rw [fX3_tryAll_l9] at h
    refine tm_iload_n dX3_tryAll_9 rfl rfl ?_
    refine tm_aload_n dX3_tryAll_10 rfl rfl ?_
    refine tm_get kX3 rfl (j := 0) (by decide) wfX3_21 dX3_tryAll_11 (v := tr 1 0) rfl ?_
    refine tm_get kX1 rfl (j := 2) (by decide) wfX3_53 dX3_tryAll_14 (v := ti (mI M 1 0 2)) rfl ?_
    refine tm_icmp_ge (tgt := 60) dX3_tryAll_17 (by decide) (fun c2 => ?_) (fun c2 => ?_)
    · rw [if_pos c2] at h
      obtain rfl := Option.some.inj h
      refine tm_lcp [] rfl ?_
      exact J _ rfl
    · rw [if_neg c2] at h
      refine tm_aload_n dX3_tryAll_20 rfl rfl ?_
      refine tm_get kX3 rfl (j := 8) (by decide) wfX3_36 dX3_tryAll_21 (v := ti (mI M 3 0 8)) rfl ?_
      refine tm_if_ne (tgt := 60) dX3_tryAll_24 (by decide) (fun c3 => ?_) (fun c3 => ?_)
      · rw [if_neg c3] at h
        obtain rfl := Option.some.inj h
        refine tm_lcp [] rfl ?_
        exact J _ rfl
      · rw [if_pos c3] at h
        refine tm_aload_n dX3_tryAll_27 rfl rfl ?_
        refine tm_get kX3 rfl (j := 0) (by decide) wfX3_21 dX3_tryAll_28 (v := tr 1 0) rfl ?_
        refine tm_get kX1 rfl (j := 0) (by decide) wfX3_58 dX3_tryAll_31 (v := tr 200 0) rfl ?_
        refine tm_iload_n dX3_tryAll_34 rfl rfl ?_
        replace h := chk_some h
        obtain ⟨b4, h⟩ := h
        refine tm_aald (k2 := 7) ⟨rfl, rfl, rfl, fun _ => rfl⟩ dX3_tryAll_35 (inb_vp b4) ?_
        replace h := bnd_some h
        obtain ⟨r5, er5, h⟩ := h
        refine tm_nmQ er5 ?_
        refine tm_astore_n (lc' := [(3, tq 7 r5), (0, tr 3 0), (1, ti z1), (2, ti y2)]) dX3_tryAll_36 rfl (by decide) rfl ?_
        refine tm_aload_n dX3_tryAll_37 rfl rfl ?_
        refine tm_get kX3 rfl (j := 1) (by decide) wfX3_25 dX3_tryAll_38 (v := tr 5 0) rfl ?_
        refine tm_aload_n dX3_tryAll_41 rfl rfl ?_
        replace h := obind_some h
        obtain ⟨x6, hc7, h⟩ := h
        refine tm_callV kX5 rfl (avs := [tq 7 r5]) (st := []) (okX5_canFire hc7) wcX3_62.1 wcX3_62.2.1 wcX3_62.2.2.1 wcX3_62.2.2.2 ⟨rfl, rfl, (by show 1 + 1 ≤ 2 * (nn + 1) + 4; omega), (by show 8 + (4 + 11) + (21) ≤ 60 * (nn + 1) + 100; omega)⟩ rfl (Nat.le_of_ble_eq_true rfl) ⟨Nat.zero_le _, Nat.zero_le _⟩ dX3_tryAll_42 ?_
        replace h := obind_some h
        obtain ⟨M9, hE10, h⟩ := h
        have J11 : TW g iX3_tryAll (rbX3_tryAll nn) 0 0 r Mz 0 0 54 [(0, tr 3 0), (1, ti z1), (2, ti y2)] [] M9 := by
          replace h := bnd_some h
          obtain ⟨x12, ex12, h⟩ := h
          refine tm_iinc (v := x12) (lc' := [(2, ti x12), (0, tr 3 0), (1, ti z1)]) dX3_tryAll_54 rfl (by rw [ex12]; rfl) (by decide) rfl ?_
          refine tm_goto (tgt := 9) dX3_tryAll_57 (by decide) ?_
          refine tm_lcp [0, 1, 2] rfl ?_
          exact ih x12 M9 _ h J
        refine tm_if_eq (tgt := 54) dX3_tryAll_45 (by decide) (fun c8 => ?_) (fun c8 => ?_)
        · rw [if_pos c8] at hE10
          obtain rfl := Option.some.inj hE10
          refine tm_lcp [0, 1, 2] rfl ?_
          exact J11
        · rw [if_neg c8] at hE10
          refine tm_aload_n dX3_tryAll_48 rfl rfl ?_
          refine tm_aload_n dX3_tryAll_49 rfl rfl ?_
          refine tm_iload_n dX3_tryAll_50 rfl rfl ?_
          replace hE10 := obind_some hE10
          obtain ⟨M10, hc9, hE10⟩ := hE10
          refine tm_callV kX3 rfl (avs := [tq 7 r5, ti z1]) (st := []) (okX3_tryOne_b hrc hc9) wcX3_66.1 wcX3_66.2.1 wcX3_66.2.2.1 wcX3_66.2.2.2 ⟨rfl, rfl, (by show 2 * nn + 5 + 1 ≤ 2 * (nn + 1) + 4; omega), (by show 8 + (4 + 11) + (60 * nn + 130) ≤ 60 * (nn + 1) + 100; omega)⟩ rfl (Nat.le_of_ble_eq_true rfl) ⟨Nat.zero_le _, Nat.zero_le _⟩ dX3_tryAll_51 ?_
          obtain rfl := Option.some.inj hE10
          refine tm_lcp [0, 1, 2] rfl ?_
          exact J11
set_option maxHeartbeats 4000000 in
set_option maxRecDepth 100000 in
theorem okX3_tryAll_b {g : tG} {nn : Nat} {rc : Int32 → tM → Option (tM)} (hrc : ∀ {a1' : Int32} {Ma Mb : tM}, rc a1' Ma = some Mb → TMet g yX3_tryAll (Cond.code yX3_tryAll cX3_tryAll 4 (none) :: tgd) (rtX3_tryAll nn) [tr 3 0, ti a1'] Ma none Mb 0 0) {a1 : Int32} {M : tM} {Mz : tM} (h : fX3_tryAll_b rc a1 M = some Mz) : TMet g yX3_tryAll (Cond.code yX3_tryAll cX3_tryAll 4 (none) :: tgd) (rbX3_tryAll nn) [tr 3 0, ti a1] M none Mz 0 0 := by
  have key : TW g iX3_tryAll (rbX3_tryAll nn) 0 0 none Mz 0 0 0 [(0, tr 3 0), (1, ti a1)] [] M := by
    rw [fX3_tryAll_b] at h
    refine tm_iload_n dX3_tryAll_0 rfl rfl ?_
    refine tm_bipush (v := 40) dX3_tryAll_1 (by decide) ?_
    refine tm_icmp_lt (tgt := 7) dX3_tryAll_3 (by decide) (fun c1 => ?_) (fun c1 => ?_)
    · rw [if_pos c1] at h
      refine tm_iconst (v := 0) dX3_tryAll_7 (by decide) ?_
      refine tm_istore_n (lc' := [(2, ti 0), (0, tr 3 0), (1, ti a1)]) dX3_tryAll_8 rfl (by decide) rfl ?_
      replace h := obind_some h
      obtain ⟨w13, hE14, h⟩ := h
      refine tm_lcp [0, 1, 2] rfl ?_
      refine okX3_tryAll_l9 hrc a1 FU 0 M _ hE14 (fun M15 e => ?_)
      subst e
      obtain rfl := Option.some.inj h
      exact tm_vret rfl dX3_tryAll_60
    · rw [if_neg c1] at h
      obtain rfl := Option.some.inj h
      exact tm_vret rfl dX3_tryAll_6
  exact TMet.of (by decide) (Nat.le_of_ble_eq_true rfl) key
def fX3_tryAll : Nat → Int32 → tM → Option (tM)
  | 0, _, _ => none
  | n + 1, a1, M => fX3_tryAll_b (fX3_tryAll n) a1 M
theorem okX3_tryAll {g : tG} : ∀ (nn : Nat) {a1 : Int32} {M Mz : tM}, fX3_tryAll nn a1 M = some Mz → TMet g yX3_tryAll (Cond.code yX3_tryAll cX3_tryAll 4 (none) :: tgd) (rtX3_tryAll nn) [tr 3 0, ti a1] M none Mz 0 0
  | 0, _, _, _, h => by cases h
  | nn + 1, _, _, _, h => okX3_tryAll_b (fun h => okX3_tryAll nn h) h
theorem wcX3_44 : tCB RX3 44 yX5_begin cX5_begin 2 (none) 0 ∧ Cond.methodLink RX3 44 yX5_begin ∈ tgd ∧ Cond.instanceMethod yX5_begin ∈ tgd ∧ Cond.selects RX5 yX5_begin yX5_begin ∈ tgd := ⟨⟨(tgd_t 777 (by decide +kernel) (by decide +kernel)), (tgd_t 3 (by decide +kernel) (by decide +kernel)), by decide, by decide +kernel⟩, (tgd_t 861 (by decide +kernel) (by decide +kernel)), (tgd_t 775 (by decide +kernel) (by decide +kernel)), (tgd_t 776 (by decide +kernel) (by decide +kernel))⟩
theorem wconstX3_40 : Cond.constant RX3 40 1000000000 ∈ tgd := (tgd_t 860 (by decide +kernel) (by decide +kernel))
abbrev iX3_finds : tY := (RX3, cX3_finds, 2, some .boolean, "finds")
abbrev rmX3_finds : Room := { frames := 89, cells := 0, slots := 0, locals := 2643 }
def fX3_finds (a1 : Int32) (M : tM) : Option (Int32 × tM) :=
  bnd (sI M 3 0 7 a1) fun M1 =>
  bnd (sI M1 3 0 3 0) fun M2 =>
  bnd (sI M2 3 0 8 0) fun M3 =>
  bnd (sI M3 3 0 6 1000000000) fun M4 =>
  (fX5_begin M4).bind fun M6 =>
  (fX3_tryAll 42 0 M6).bind fun M8 =>
  if (mI M8 3 0 8) = 0 then (
  some ((1, M8))
  ) else (
  some ((0, M8))
  )
set_option maxHeartbeats 4000000 in
set_option maxRecDepth 100000 in
theorem okX3_finds {g : tG} {a1 : Int32} {M : tM} {v : Int32} {Mz : tM} (h : fX3_finds a1 M = some ((v, Mz))) : TMet g yX3_finds (Cond.code yX3_finds cX3_finds 2 (some .boolean) :: tgd) rmX3_finds [tr 3 0, ti a1] M (some (ti v)) Mz 0 0 := by
  have key : TW g iX3_finds rmX3_finds 0 0 (some (ti v)) Mz 0 0 0 [(0, tr 3 0), (1, ti a1)] [] M := by
    rw [fX3_finds] at h
    refine tm_aload_n dX3_finds_0 rfl rfl ?_
    refine tm_iload_n dX3_finds_1 rfl rfl ?_
    replace h := bnd_some h
    obtain ⟨M1, eM1, h⟩ := h
    refine tm_put kX3 rfl (j := 7) (by decide) wfX3_29 rfl dX3_finds_2 (fun _ => ⟨rfl, rfl⟩) (tPut_I a1 rfl) ?_
    refine tm_nmM eM1 ?_
    refine tm_aload_n dX3_finds_5 rfl rfl ?_
    refine tm_iconst (v := 0) dX3_finds_6 (by decide) ?_
    replace h := bnd_some h
    obtain ⟨M2, eM2, h⟩ := h
    refine tm_put kX3 rfl (j := 3) (by decide) wfX3_33 rfl dX3_finds_7 (fun _ => ⟨rfl, rfl⟩) (tPut_I 0 rfl) ?_
    refine tm_nmM eM2 ?_
    refine tm_aload_n dX3_finds_10 rfl rfl ?_
    refine tm_iconst (v := 0) dX3_finds_11 (by decide) ?_
    replace h := bnd_some h
    obtain ⟨M3, eM3, h⟩ := h
    refine tm_put kX3 rfl (j := 8) (by decide) wfX3_36 rfl dX3_finds_12 (tb_f (x := 0) (by decide)) (tPut_I 0 rfl) ?_
    refine tm_nmM eM3 ?_
    refine tm_aload_n dX3_finds_15 rfl rfl ?_
    refine tm_ldc (v := 1000000000) dX3_finds_16 wconstX3_40 ?_
    replace h := bnd_some h
    obtain ⟨M4, eM4, h⟩ := h
    refine tm_put kX3 rfl (j := 6) (by decide) wfX3_41 rfl dX3_finds_18 (fun _ => ⟨rfl, rfl⟩) (tPut_I 1000000000 rfl) ?_
    refine tm_nmM eM4 ?_
    refine tm_aload_n dX3_finds_21 rfl rfl ?_
    refine tm_get kX3 rfl (j := 1) (by decide) wfX3_25 dX3_finds_22 (v := tr 5 0) rfl ?_
    replace h := obind_some h
    obtain ⟨M6, hc5, h⟩ := h
    refine tm_callV kX5 rfl (avs := []) (st := []) (okX5_begin hc5) wcX3_44.1 wcX3_44.2.1 wcX3_44.2.2.1 wcX3_44.2.2.2 ⟨rfl, rfl, Nat.le_of_ble_eq_true rfl, Nat.le_of_ble_eq_true rfl⟩ rfl (Nat.le_of_ble_eq_true rfl) ⟨Nat.zero_le _, Nat.zero_le _⟩ dX3_finds_25 ?_
    refine tm_aload_n dX3_finds_28 rfl rfl ?_
    refine tm_iconst (v := 0) dX3_finds_29 (by decide) ?_
    replace h := obind_some h
    obtain ⟨M8, hc7, h⟩ := h
    refine tm_callV kX3 rfl (avs := [ti 0]) (st := []) (okX3_tryAll 42 hc7) wcX3_49.1 wcX3_49.2.1 wcX3_49.2.2.1 wcX3_49.2.2.2 ⟨rfl, rfl, Nat.le_of_ble_eq_true rfl, Nat.le_of_ble_eq_true rfl⟩ rfl (Nat.le_of_ble_eq_true rfl) ⟨Nat.zero_le _, Nat.zero_le _⟩ dX3_finds_30 ?_
    refine tm_aload_n dX3_finds_33 rfl rfl ?_
    refine tm_get kX3 rfl (j := 8) (by decide) wfX3_36 dX3_finds_34 (v := ti (mI M8 3 0 8)) rfl ?_
    refine tm_if_ne (tgt := 44) dX3_finds_37 (by decide) (fun c9 => ?_) (fun c9 => ?_)
    · rw [if_neg c9] at h
      refine tm_iconst (v := 0) dX3_finds_44 (by decide) ?_
      obtain ⟨rfl, rfl⟩ := pj2 h
      exact tm_zret (by decide) rfl dX3_finds_45
    · rw [if_pos c9] at h
      refine tm_iconst (v := 1) dX3_finds_40 (by decide) ?_
      refine tm_goto (tgt := 45) dX3_finds_41 (by decide) ?_
      obtain ⟨rfl, rfl⟩ := pj2 h
      exact tm_zret (by decide) rfl dX3_finds_45
  exact TMet.of (by decide) (Nat.le_of_ble_eq_true rfl) key
theorem wcX10_190 : tCB RX10 190 yX3_finds cX3_finds 2 (some .boolean) 1 ∧ Cond.methodLink RX10 190 yX3_finds ∈ tgd ∧ Cond.instanceMethod yX3_finds ∈ tgd ∧ Cond.selects RX3 yX3_finds yX3_finds ∈ tgd := ⟨⟨(tgd_t 859 (by decide +kernel) (by decide +kernel)), (tgd_t 6 (by decide +kernel) (by decide +kernel)), by decide, by decide +kernel⟩, (tgd_t 856 (by decide +kernel) (by decide +kernel)), (tgd_t 857 (by decide +kernel) (by decide +kernel)), (tgd_t 858 (by decide +kernel) (by decide +kernel))⟩
theorem wfX10_194 : Cond.fieldLink RX10 194 "EvenFlow$Least" "best" "[I" ∈ tgd := (tgd_t 203 (by decide +kernel) (by decide +kernel))
abbrev iX10_least : tY := (RX10, cX10_least, 3, some .int, "least")
abbrev rmX10_least : Room := { frames := 90, cells := 0, slots := 0, locals := 2664 }
def fX10_least (a1 : Int32) (M : tM) : Option (Int32 × tM) :=
  if a1 < 1 then (
  some (((-1), M))
  ) else (
  if a1 ≤ 20000 then (
  if (mI M 1 0 2) ≤ 8 then (
  (fX10_noSchedule M).bind fun (x4, M6) =>
  if x4 = 0 then (
  if (mI M6 1 0 4) ≤ 40 then (
  (fX3_finds a1 M6).bind fun (x9, M11) =>
  if x9 = 0 then (
  some (((-6), M11))
  ) else (
  (fX8_adopt 402 0 (mI M11 1 0 4) M11).bind fun (x13, M15) =>
  some ((x13, M15))
  )
  ) else (
  some (((-4), M6))
  )
  ) else (
  some ((x4, M6))
  )
  ) else (
  some (((-4), M))
  )
  ) else (
  some (((-1), M))
  )
  )
set_option maxHeartbeats 4000000 in
set_option maxRecDepth 100000 in
theorem okX10_least {g : tG} {a1 : Int32} {M : tM} {v : Int32} {Mz : tM} (h : fX10_least a1 M = some ((v, Mz))) : TMet g yX10_least (Cond.code yX10_least cX10_least 3 (some .int) :: tgd) rmX10_least [tr 10 0, ti a1] M (some (ti v)) Mz 0 0 := by
  have key : TW g iX10_least rmX10_least 0 0 (some (ti v)) Mz 0 0 0 [(0, tr 10 0), (1, ti a1)] [] M := by
    rw [fX10_least] at h
    refine tm_iload_n dX10_least_0 rfl rfl ?_
    refine tm_iconst (v := 1) dX10_least_1 (by decide) ?_
    refine tm_icmp_lt (tgt := 12) dX10_least_2 (by decide) (fun c1 => ?_) (fun c1 => ?_)
    · rw [if_pos c1] at h
      refine tm_iconst (v := (-1)) dX10_least_12 (by decide) ?_
      obtain ⟨rfl, rfl⟩ := pj2 h
      exact tm_iret rfl dX10_least_13
    · rw [if_neg c1] at h
      refine tm_iload_n dX10_least_5 rfl rfl ?_
      refine tm_sipush (v := 20000) dX10_least_6 (by decide) ?_
      refine tm_icmp_le (tgt := 14) dX10_least_9 (by decide) (fun c2 => ?_) (fun c2 => ?_)
      · rw [if_pos c2] at h
        refine tm_aload_n dX10_least_14 rfl rfl ?_
        refine tm_get kX10 rfl (j := 0) (by decide) wfX10_10 dX10_least_15 (v := tr 1 0) rfl ?_
        refine tm_get kX1 rfl (j := 2) (by decide) wfX10_72 dX10_least_18 (v := ti (mI M 1 0 2)) rfl ?_
        refine tm_bipush (v := 8) dX10_least_21 (by decide) ?_
        refine tm_icmp_le (tgt := 29) dX10_least_23 (by decide) (fun c3 => ?_) (fun c3 => ?_)
        · rw [if_pos c3] at h
          refine tm_aload_n dX10_least_29 rfl rfl ?_
          replace h := obind_some h
          obtain ⟨⟨x4, M6⟩, hc5, h⟩ := h
          dsimp only at h
          refine tm_callV kX10 rfl (avs := []) (st := []) (okX10_noSchedule hc5) wcX10_184.1 wcX10_184.2.1 wcX10_184.2.2.1 wcX10_184.2.2.2 ⟨rfl, rfl, Nat.le_of_ble_eq_true rfl, Nat.le_of_ble_eq_true rfl⟩ rfl (Nat.le_of_ble_eq_true rfl) ⟨Nat.zero_le _, Nat.zero_le _⟩ dX10_least_30 ?_
          refine tm_istore_n (lc' := [(2, ti x4), (0, tr 10 0), (1, ti a1)]) dX10_least_33 rfl (by decide) rfl ?_
          refine tm_iload_n dX10_least_34 rfl rfl ?_
          refine tm_if_eq (tgt := 40) dX10_least_35 (by decide) (fun c7 => ?_) (fun c7 => ?_)
          · rw [if_pos c7] at h
            refine tm_aload_n dX10_least_40 rfl rfl ?_
            refine tm_get kX10 rfl (j := 0) (by decide) wfX10_10 dX10_least_41 (v := tr 1 0) rfl ?_
            refine tm_get kX1 rfl (j := 4) (by decide) wfX10_167 dX10_least_44 (v := ti (mI M6 1 0 4)) rfl ?_
            refine tm_bipush (v := 40) dX10_least_47 (by decide) ?_
            refine tm_icmp_le (tgt := 55) dX10_least_49 (by decide) (fun c8 => ?_) (fun c8 => ?_)
            · rw [if_pos c8] at h
              refine tm_aload_n dX10_least_55 rfl rfl ?_
              refine tm_get kX10 rfl (j := 3) (by decide) wfX10_40 dX10_least_56 (v := tr 3 0) rfl ?_
              refine tm_iload_n dX10_least_59 rfl rfl ?_
              replace h := obind_some h
              obtain ⟨⟨x9, M11⟩, hc10, h⟩ := h
              dsimp only at h
              refine tm_callV kX3 rfl (avs := [ti a1]) (st := []) (okX3_finds hc10) wcX10_190.1 wcX10_190.2.1 wcX10_190.2.2.1 wcX10_190.2.2.2 ⟨rfl, rfl, Nat.le_of_ble_eq_true rfl, Nat.le_of_ble_eq_true rfl⟩ rfl (Nat.le_of_ble_eq_true rfl) ⟨Nat.zero_le _, Nat.zero_le _⟩ dX10_least_60 ?_
              refine tm_if_eq (tgt := 90) dX10_least_63 (by decide) (fun c12 => ?_) (fun c12 => ?_)
              · rw [if_pos c12] at h
                refine tm_bipush (v := (-6)) dX10_least_90 (by decide) ?_
                obtain ⟨rfl, rfl⟩ := pj2 h
                exact tm_iret rfl dX10_least_92
              · rw [if_neg c12] at h
                refine tm_aload_n dX10_least_66 rfl rfl ?_
                refine tm_get kX10 rfl (j := 1) (by decide) wfX10_26 dX10_least_67 (v := tr 8 0) rfl ?_
                refine tm_aload_n dX10_least_70 rfl rfl ?_
                refine tm_get kX10 rfl (j := 3) (by decide) wfX10_40 dX10_least_71 (v := tr 3 0) rfl ?_
                refine tm_get kX3 rfl (j := 2) (by decide) wfX10_194 dX10_least_74 (v := tr 402 0) rfl ?_
                refine tm_aload_n dX10_least_77 rfl rfl ?_
                refine tm_get kX10 rfl (j := 0) (by decide) wfX10_10 dX10_least_78 (v := tr 1 0) rfl ?_
                refine tm_get kX1 rfl (j := 4) (by decide) wfX10_167 dX10_least_81 (v := ti (mI M11 1 0 4)) rfl ?_
                replace h := obind_some h
                obtain ⟨⟨x13, M15⟩, hc14, h⟩ := h
                dsimp only at h
                refine tm_callV kX8 rfl (avs := [tr 402 0, ti (mI M11 1 0 4)]) (st := []) (okX8_adopt hc14) wcX10_197.1 wcX10_197.2.1 wcX10_197.2.2.1 wcX10_197.2.2.2 ⟨rfl, rfl, Nat.le_of_ble_eq_true rfl, Nat.le_of_ble_eq_true rfl⟩ rfl (Nat.le_of_ble_eq_true rfl) ⟨Nat.zero_le _, Nat.zero_le _⟩ dX10_least_84 ?_
                refine tm_goto (tgt := 92) dX10_least_87 (by decide) ?_
                obtain ⟨rfl, rfl⟩ := pj2 h
                exact tm_iret rfl dX10_least_92
            · rw [if_neg c8] at h
              refine tm_bipush (v := (-4)) dX10_least_52 (by decide) ?_
              obtain ⟨rfl, rfl⟩ := pj2 h
              exact tm_iret rfl dX10_least_54
          · rw [if_neg c7] at h
            refine tm_iload_n dX10_least_38 rfl rfl ?_
            obtain ⟨rfl, rfl⟩ := pj2 h
            exact tm_iret rfl dX10_least_39
        · rw [if_neg c3] at h
          refine tm_bipush (v := (-4)) dX10_least_26 (by decide) ?_
          obtain ⟨rfl, rfl⟩ := pj2 h
          exact tm_iret rfl dX10_least_28
      · rw [if_neg c2] at h
        refine tm_iconst (v := (-1)) dX10_least_12 (by decide) ?_
        obtain ⟨rfl, rfl⟩ := pj2 h
        exact tm_iret rfl dX10_least_13
  exact TMet.of (by decide) (Nat.le_of_ble_eq_true rfl) key
theorem wcX6_54 : tCB RX6 54 yX6_writeRow cX6_writeRow 7 (none) 4 ∧ Cond.methodLink RX6 54 yX6_writeRow ∈ tgd ∧ Cond.instanceMethod yX6_writeRow ∈ tgd ∧ Cond.selects RX6 yX6_writeRow yX6_writeRow ∈ tgd := ⟨⟨(tgd_t 942 (by decide +kernel) (by decide +kernel)), (tgd_t 7 (by decide +kernel) (by decide +kernel)), by decide, by decide +kernel⟩, (tgd_t 939 (by decide +kernel) (by decide +kernel)), (tgd_t 941 (by decide +kernel) (by decide +kernel)), (tgd_p 30 (by decide +kernel) (by decide +kernel))⟩
theorem wcX6_136 : tCB RX6 136 yX6_timesWithin cX6_timesWithin 4 (some .int) 3 ∧ Cond.methodLink RX6 136 yX6_timesWithin ∈ tgd ∧ Cond.instanceMethod yX6_timesWithin ∈ tgd ∧ Cond.selects RX6 yX6_timesWithin yX6_timesWithin ∈ tgd := ⟨⟨(tgd_t 946 (by decide +kernel) (by decide +kernel)), (tgd_t 7 (by decide +kernel) (by decide +kernel)), by decide, by decide +kernel⟩, (tgd_t 943 (by decide +kernel) (by decide +kernel)), (tgd_t 945 (by decide +kernel) (by decide +kernel)), (tgd_p 31 (by decide +kernel) (by decide +kernel))⟩
theorem wcX6_139 : tCB RX6 139 yX6_writeItem cX6_writeItem 2 (none) 1 ∧ Cond.methodLink RX6 139 yX6_writeItem ∈ tgd ∧ Cond.instanceMethod yX6_writeItem ∈ tgd ∧ Cond.selects RX6 yX6_writeItem yX6_writeItem ∈ tgd := ⟨⟨(tgd_t 950 (by decide +kernel) (by decide +kernel)), (tgd_t 7 (by decide +kernel) (by decide +kernel)), by decide, by decide +kernel⟩, (tgd_t 947 (by decide +kernel) (by decide +kernel)), (tgd_t 949 (by decide +kernel) (by decide +kernel)), (tgd_p 32 (by decide +kernel) (by decide +kernel))⟩
abbrev iX6_writeRow : tY := (RX6, cX6_writeRow, 7, none, "writeRow")
abbrev rbX6_writeRow (nn : Nat) : Room := { frames := nn + 1 + 3, cells := 0, slots := 0, locals := 60 * (nn + 1) + 60 }
def fX6_writeRow_b (rc : Int32 → Int32 → Int32 → Int32 → tM → Option (tM)) (a1 : Int32) (a2 : Int32) (a3 : Int32) (a4 : Int32) (M : tM) : Option (tM) :=
  if a4 ≤ 12 then (
  (fX6_timesWithin a1 a2 a3 M).bind fun x2 =>
  Option.bind (α := tM) (
  if x2 ≤ 1 then (
  some M
  ) else (
  (fX6_writeItem (x2 + 1) M).bind fun M6 =>
  some M6
  )
  ) fun M5 =>
  Option.bind (α := tM) (
  if a1 = a2 then (
  chk (inb a1 (mN M5 701 0)) <|
  (fX6_writeItem ((-1) - (mI M5 701 0 (a1.toNatClampNeg))) M5).bind fun M17 =>
  some M17
  ) else (
  chk (inb ((a1 * 12) + a2) (mN M5 705 0)) <|
  bnd (mI M5 705 0 (((a1 * 12) + a2).toNatClampNeg)) fun x10 =>
  (rc a1 x10 (a3 * x2) (a4 + 1) M5).bind fun M12 =>
  (rc (x10 + 1) a2 (a3 * x2) (a4 + 1) M12).bind fun M14 =>
  some M14
  )
  ) fun M9 =>
  if x2 ≤ 1 then (
  some M9
  ) else (
  (fX6_writeItem 0 M9).bind fun M20 =>
  some M20
  )
  ) else (
  some M
  )
set_option maxHeartbeats 4000000 in
set_option maxRecDepth 100000 in
theorem okX6_writeRow_b {g : tG} {nn : Nat} {rc : Int32 → Int32 → Int32 → Int32 → tM → Option (tM)} (hrc : ∀ {a1' : Int32} {a2' : Int32} {a3' : Int32} {a4' : Int32} {Ma Mb : tM}, rc a1' a2' a3' a4' Ma = some Mb → TMet g yX6_writeRow (Cond.code yX6_writeRow cX6_writeRow 7 (none) :: tgd) (rtX6_writeRow nn) [tr 6 0, ti a1', ti a2', ti a3', ti a4'] Ma none Mb 0 0) {a1 : Int32} {a2 : Int32} {a3 : Int32} {a4 : Int32} {M : tM} {Mz : tM} (h : fX6_writeRow_b rc a1 a2 a3 a4 M = some Mz) : TMet g yX6_writeRow (Cond.code yX6_writeRow cX6_writeRow 7 (none) :: tgd) (rbX6_writeRow nn) [tr 6 0, ti a1, ti a2, ti a3, ti a4] M none Mz 0 0 := by
  have key : TW g iX6_writeRow (rbX6_writeRow nn) 0 0 none Mz 0 0 0 [(0, tr 6 0), (1, ti a1), (2, ti a2), (3, ti a3), (4, ti a4)] [] M := by
    rw [fX6_writeRow_b] at h
    refine tm_iload dX6_writeRow_0 rfl ?_
    refine tm_bipush (v := 12) dX6_writeRow_2 (by decide) ?_
    refine tm_icmp_le (tgt := 8) dX6_writeRow_4 (by decide) (fun c1 => ?_) (fun c1 => ?_)
    · rw [if_pos c1] at h
      refine tm_aload_n dX6_writeRow_8 rfl rfl ?_
      refine tm_iload_n dX6_writeRow_9 rfl rfl ?_
      refine tm_iload_n dX6_writeRow_10 rfl rfl ?_
      refine tm_iload_n dX6_writeRow_11 rfl rfl ?_
      replace h := obind_some h
      obtain ⟨x2, hc3, h⟩ := h
      refine tm_callV kX6 rfl (avs := [ti a1, ti a2, ti a3]) (st := []) (okX6_timesWithin hc3) wcX6_136.1 wcX6_136.2.1 wcX6_136.2.2.1 wcX6_136.2.2.2 ⟨rfl, rfl, (by show 1 + 1 ≤ nn + 1 + 3; omega), (by show 8 + (4 + 11) + (21) ≤ 60 * (nn + 1) + 60; omega)⟩ rfl (Nat.le_of_ble_eq_true rfl) ⟨Nat.zero_le _, Nat.zero_le _⟩ dX6_writeRow_12 ?_
      refine tm_istore (lc' := [(5, ti x2), (0, tr 6 0), (1, ti a1), (2, ti a2), (3, ti a3), (4, ti a4)]) dX6_writeRow_15 (by decide) rfl ?_
      refine tm_iload dX6_writeRow_17 rfl ?_
      refine tm_iconst (v := 1) dX6_writeRow_19 (by decide) ?_
      replace h := obind_some h
      obtain ⟨M5, hE6, h⟩ := h
      have J7 : TW g iX6_writeRow (rbX6_writeRow nn) 0 0 none Mz 0 0 31 [(0, tr 6 0), (1, ti a1), (2, ti a2), (3, ti a3), (4, ti a4), (5, ti x2)] [] M5 := by
        refine tm_iload_n dX6_writeRow_31 rfl rfl ?_
        refine tm_iload_n dX6_writeRow_32 rfl rfl ?_
        replace h := obind_some h
        obtain ⟨M9, hE10, h⟩ := h
        have J11 : TW g iX6_writeRow (rbX6_writeRow nn) 0 0 none Mz 0 0 96 [(0, tr 6 0), (5, ti x2)] [] M9 := by
          refine tm_iload dX6_writeRow_96 rfl ?_
          refine tm_iconst (v := 1) dX6_writeRow_98 (by decide) ?_
          refine tm_icmp_le (tgt := 107) dX6_writeRow_99 (by decide) (fun c18 => ?_) (fun c18 => ?_)
          · rw [if_pos c18] at h
            obtain rfl := Option.some.inj h
            exact tm_vret rfl dX6_writeRow_107
          · rw [if_neg c18] at h
            refine tm_aload_n dX6_writeRow_102 rfl rfl ?_
            refine tm_iconst (v := 0) dX6_writeRow_103 (by decide) ?_
            replace h := obind_some h
            obtain ⟨M20, hc19, h⟩ := h
            refine tm_callV kX6 rfl (avs := [ti 0]) (st := []) (okX6_writeItem hc19) wcX6_139.1 wcX6_139.2.1 wcX6_139.2.2.1 wcX6_139.2.2.2 ⟨rfl, rfl, (by show 0 + 1 ≤ nn + 1 + 3; omega), (by show 8 + (2 + 11) + (0) ≤ 60 * (nn + 1) + 60; omega)⟩ rfl (Nat.le_of_ble_eq_true rfl) ⟨Nat.zero_le _, Nat.zero_le _⟩ dX6_writeRow_104 ?_
            obtain rfl := Option.some.inj h
            exact tm_vret rfl dX6_writeRow_107
        refine tm_icmp_ne (tgt := 51) dX6_writeRow_33 (by decide) (fun c8 => ?_) (fun c8 => ?_)
        · rw [if_neg c8] at hE10
          refine tm_aload_n dX6_writeRow_51 rfl rfl ?_
          refine tm_get kX6 rfl (j := 5) (by decide) wfX6_24 dX6_writeRow_52 (v := tr 705 0) rfl ?_
          refine tm_iload_n dX6_writeRow_55 rfl rfl ?_
          refine tm_bipush (v := 12) dX6_writeRow_56 (by decide) ?_
          refine tm_imul dX6_writeRow_58 ?_
          refine tm_iload_n dX6_writeRow_59 rfl rfl ?_
          refine tm_iadd dX6_writeRow_60 ?_
          replace hE10 := chk_some hE10
          obtain ⟨b9, hE10⟩ := hE10
          refine tm_iald rfl dX6_writeRow_61 (inb_vp b9) ?_
          replace hE10 := bnd_some hE10
          obtain ⟨x10, ex10, hE10⟩ := hE10
          refine tm_nmI ex10 ?_
          refine tm_istore (lc' := [(6, ti x10), (0, tr 6 0), (1, ti a1), (2, ti a2), (3, ti a3), (4, ti a4), (5, ti x2)]) dX6_writeRow_62 (by decide) rfl ?_
          refine tm_aload_n dX6_writeRow_64 rfl rfl ?_
          refine tm_iload_n dX6_writeRow_65 rfl rfl ?_
          refine tm_iload dX6_writeRow_66 rfl ?_
          refine tm_iload_n dX6_writeRow_68 rfl rfl ?_
          refine tm_iload dX6_writeRow_69 rfl ?_
          refine tm_imul dX6_writeRow_71 ?_
          refine tm_iload dX6_writeRow_72 rfl ?_
          refine tm_iconst (v := 1) dX6_writeRow_74 (by decide) ?_
          refine tm_iadd dX6_writeRow_75 ?_
          replace hE10 := obind_some hE10
          obtain ⟨M12, hc11, hE10⟩ := hE10
          refine tm_callV kX6 rfl (avs := [ti a1, ti x10, ti (a3 * x2), ti (a4 + 1)]) (st := []) (hrc hc11) wcX6_54.1 wcX6_54.2.1 wcX6_54.2.2.1 wcX6_54.2.2.2 ⟨rfl, rfl, (by show nn + 3 + 1 ≤ nn + 1 + 3; omega), (by show 8 + (7 + 11) + (60 * nn + 60) ≤ 60 * (nn + 1) + 60; omega)⟩ rfl (Nat.le_of_ble_eq_true rfl) ⟨Nat.zero_le _, Nat.zero_le _⟩ dX6_writeRow_76 ?_
          refine tm_aload_n dX6_writeRow_79 rfl rfl ?_
          refine tm_iload dX6_writeRow_80 rfl ?_
          refine tm_iconst (v := 1) dX6_writeRow_82 (by decide) ?_
          refine tm_iadd dX6_writeRow_83 ?_
          refine tm_iload_n dX6_writeRow_84 rfl rfl ?_
          refine tm_iload_n dX6_writeRow_85 rfl rfl ?_
          refine tm_iload dX6_writeRow_86 rfl ?_
          refine tm_imul dX6_writeRow_88 ?_
          refine tm_iload dX6_writeRow_89 rfl ?_
          refine tm_iconst (v := 1) dX6_writeRow_91 (by decide) ?_
          refine tm_iadd dX6_writeRow_92 ?_
          replace hE10 := obind_some hE10
          obtain ⟨M14, hc13, hE10⟩ := hE10
          refine tm_callV kX6 rfl (avs := [ti (x10 + 1), ti a2, ti (a3 * x2), ti (a4 + 1)]) (st := []) (hrc hc13) wcX6_54.1 wcX6_54.2.1 wcX6_54.2.2.1 wcX6_54.2.2.2 ⟨rfl, rfl, (by show nn + 3 + 1 ≤ nn + 1 + 3; omega), (by show 8 + (7 + 11) + (60 * nn + 60) ≤ 60 * (nn + 1) + 60; omega)⟩ rfl (Nat.le_of_ble_eq_true rfl) ⟨Nat.zero_le _, Nat.zero_le _⟩ dX6_writeRow_93 ?_
          obtain rfl := Option.some.inj hE10
          refine tm_lcp [0, 5] rfl ?_
          exact J11
        · rw [if_pos c8] at hE10
          refine tm_aload_n dX6_writeRow_36 rfl rfl ?_
          refine tm_iconst (v := (-1)) dX6_writeRow_37 (by decide) ?_
          refine tm_aload_n dX6_writeRow_38 rfl rfl ?_
          refine tm_get kX6 rfl (j := 1) (by decide) wfX6_9 dX6_writeRow_39 (v := tr 701 0) rfl ?_
          refine tm_iload_n dX6_writeRow_42 rfl rfl ?_
          replace hE10 := chk_some hE10
          obtain ⟨b15, hE10⟩ := hE10
          refine tm_iald rfl dX6_writeRow_43 (inb_vp b15) ?_
          refine tm_isub dX6_writeRow_44 ?_
          replace hE10 := obind_some hE10
          obtain ⟨M17, hc16, hE10⟩ := hE10
          refine tm_callV kX6 rfl (avs := [ti ((-1) - (mI M5 701 0 (a1.toNatClampNeg)))]) (st := []) (okX6_writeItem hc16) wcX6_139.1 wcX6_139.2.1 wcX6_139.2.2.1 wcX6_139.2.2.2 ⟨rfl, rfl, (by show 0 + 1 ≤ nn + 1 + 3; omega), (by show 8 + (2 + 11) + (0) ≤ 60 * (nn + 1) + 60; omega)⟩ rfl (Nat.le_of_ble_eq_true rfl) ⟨Nat.zero_le _, Nat.zero_le _⟩ dX6_writeRow_45 ?_
          refine tm_goto (tgt := 96) dX6_writeRow_48 (by decide) ?_
          obtain rfl := Option.some.inj hE10
          refine tm_lcp [0, 5] rfl ?_
          exact J11
      refine tm_icmp_le (tgt := 31) dX6_writeRow_20 (by decide) (fun c4 => ?_) (fun c4 => ?_)
      · rw [if_pos c4] at hE6
        obtain rfl := Option.some.inj hE6
        refine tm_lcp [0, 1, 2, 3, 4, 5] rfl ?_
        exact J7
      · rw [if_neg c4] at hE6
        refine tm_aload_n dX6_writeRow_23 rfl rfl ?_
        refine tm_iload dX6_writeRow_24 rfl ?_
        refine tm_iconst (v := 1) dX6_writeRow_26 (by decide) ?_
        refine tm_iadd dX6_writeRow_27 ?_
        replace hE6 := obind_some hE6
        obtain ⟨M6, hc5, hE6⟩ := hE6
        refine tm_callV kX6 rfl (avs := [ti (x2 + 1)]) (st := []) (okX6_writeItem hc5) wcX6_139.1 wcX6_139.2.1 wcX6_139.2.2.1 wcX6_139.2.2.2 ⟨rfl, rfl, (by show 0 + 1 ≤ nn + 1 + 3; omega), (by show 8 + (2 + 11) + (0) ≤ 60 * (nn + 1) + 60; omega)⟩ rfl (Nat.le_of_ble_eq_true rfl) ⟨Nat.zero_le _, Nat.zero_le _⟩ dX6_writeRow_28 ?_
        obtain rfl := Option.some.inj hE6
        refine tm_lcp [0, 1, 2, 3, 4, 5] rfl ?_
        exact J7
    · rw [if_neg c1] at h
      obtain rfl := Option.some.inj h
      exact tm_vret rfl dX6_writeRow_7
  exact TMet.of (by decide) (Nat.le_of_ble_eq_true rfl) key
def fX6_writeRow : Nat → Int32 → Int32 → Int32 → Int32 → tM → Option (tM)
  | 0, _, _, _, _, _ => none
  | n + 1, a1, a2, a3, a4, M => fX6_writeRow_b (fX6_writeRow n) a1 a2 a3 a4 M
theorem okX6_writeRow {g : tG} : ∀ (nn : Nat) {a1 : Int32} {a2 : Int32} {a3 : Int32} {a4 : Int32} {M Mz : tM}, fX6_writeRow nn a1 a2 a3 a4 M = some Mz → TMet g yX6_writeRow (Cond.code yX6_writeRow cX6_writeRow 7 (none) :: tgd) (rtX6_writeRow nn) [tr 6 0, ti a1, ti a2, ti a3, ti a4] M none Mz 0 0
  | 0, _, _, _, _, _, _, h => by cases h
  | nn + 1, _, _, _, _, _, _, h => okX6_writeRow_b (fun h => okX6_writeRow nn h) h
theorem wcX6_38 : tCB RX6 38 yX6_putInOrder cX6_putInOrder 3 (some .boolean) 0 ∧ Cond.methodLink RX6 38 yX6_putInOrder ∈ tgd ∧ Cond.instanceMethod yX6_putInOrder ∈ tgd ∧ Cond.selects RX6 yX6_putInOrder yX6_putInOrder ∈ tgd := ⟨⟨(tgd_t 913 (by decide +kernel) (by decide +kernel)), (tgd_t 7 (by decide +kernel) (by decide +kernel)), by decide, by decide +kernel⟩, (tgd_t 910 (by decide +kernel) (by decide +kernel)), (tgd_t 912 (by decide +kernel) (by decide +kernel)), (tgd_p 24 (by decide +kernel) (by decide +kernel))⟩
theorem wcX6_47 : tCB RX6 47 yX6_findDivisors cX6_findDivisors 4 (none) 0 ∧ Cond.methodLink RX6 47 yX6_findDivisors ∈ tgd ∧ Cond.instanceMethod yX6_findDivisors ∈ tgd ∧ Cond.selects RX6 yX6_findDivisors yX6_findDivisors ∈ tgd := ⟨⟨(tgd_t 926 (by decide +kernel) (by decide +kernel)), (tgd_t 7 (by decide +kernel) (by decide +kernel)), by decide, by decide +kernel⟩, (tgd_t 923 (by decide +kernel) (by decide +kernel)), (tgd_t 925 (by decide +kernel) (by decide +kernel)), (tgd_p 27 (by decide +kernel) (by decide +kernel))⟩
theorem wcX6_50 : tCB RX6 50 yX6_partInTwo cX6_partInTwo 6 (none) 2 ∧ Cond.methodLink RX6 50 yX6_partInTwo ∈ tgd ∧ Cond.instanceMethod yX6_partInTwo ∈ tgd ∧ Cond.selects RX6 yX6_partInTwo yX6_partInTwo ∈ tgd := ⟨⟨(tgd_t 931 (by decide +kernel) (by decide +kernel)), (tgd_t 7 (by decide +kernel) (by decide +kernel)), by decide, by decide +kernel⟩, (tgd_t 928 (by decide +kernel) (by decide +kernel)), (tgd_t 930 (by decide +kernel) (by decide +kernel)), (tgd_p 28 (by decide +kernel) (by decide +kernel))⟩
abbrev iX6_arrange : tY := (RX6, cX6_arrange, 4, some .boolean, "arrange")
abbrev rmX6_arrange : Room := { frames := 19, cells := 0, slots := 0, locals := 986 }
def fX6_arrange_l32 (z1 : Int32) (z2 : Int32) : Nat → Int32 → tM → Option (tM)
  | 0, _, _ => none
  | n + 1, y3, M =>
    if z1 < (y3 + z2) then (
    some M
    ) else (
    (fX6_partInTwo y3 (y3 + z2) M).bind fun M11 =>
    bnd (y3 + 1) fun x12 =>
    fX6_arrange_l32 z1 z2 n x12 M11
    )
def fX6_arrange_l25 (z1 : Int32) : Nat → Int32 → tM → Option (tM)
  | 0, _, _ => none
  | n + 1, y2, M =>
    if z1 < y2 then (
    some M
    ) else (
    Option.bind (fX6_arrange_l32 z1 y2 FU 0 M) fun M15 =>
    bnd (y2 + 1) fun x16 =>
    fX6_arrange_l25 z1 n x16 M15
    )
def fX6_arrange  (M : tM) : Option (Int32 × tM) :=
  (fX6_putInOrder M).bind fun (x1, M3) =>
  if x1 = 0 then (
  some ((0, M3))
  ) else (
  bnd ((mI M3 1 0 2) - 1) fun x5 =>
  (fX6_findDivisors M3).bind fun M7 =>
  Option.bind (fX6_arrange_l25 x5 FU 1 M7) fun M19 =>
  bnd (sI M19 6 0 7 0) fun M20 =>
  (fX6_writeRow 15 0 x5 1 0 M20).bind fun M22 =>
  some ((1, M22))
  )
set_option maxHeartbeats 4000000 in
set_option maxRecDepth 100000 in
theorem okX6_arrange_l32 {g : tG} (z1 : Int32) (z2 : Int32) {r : Option tV} {Mz : tM} : ∀ (n : Nat) (y3 : Int32) (M : tM) (w : tM), fX6_arrange_l32 z1 z2 n y3 M = some w → (∀ (Mw : tM), Mw = w → TW g iX6_arrange rmX6_arrange 0 0 r Mz 0 0 53 [(0, tr 6 0), (1, ti z1), (2, ti z2)] [] Mw) → TW g iX6_arrange rmX6_arrange 0 0 r Mz 0 0 32 [(0, tr 6 0), (1, ti z1), (2, ti z2), (3, ti y3)] [] M := by
  intro n
  induction n with
  | zero => intro y3 M w h; cases h
  | succ n ih =>
    intro y3 M w h J
    rw [fX6_arrange_l32] at h
    refine tm_iload_n dX6_arrange_32 rfl rfl ?_
    refine tm_iload_n dX6_arrange_33 rfl rfl ?_
    refine tm_iadd dX6_arrange_34 ?_
    refine tm_iload_n dX6_arrange_35 rfl rfl ?_
    refine tm_icmp_gt (tgt := 53) dX6_arrange_36 (by decide) (fun c9 => ?_) (fun c9 => ?_)
    · rw [if_pos c9] at h
      obtain rfl := Option.some.inj h
      refine tm_lcp [0, 1, 2] rfl ?_
      exact J _ rfl
    · rw [if_neg c9] at h
      refine tm_aload_n dX6_arrange_39 rfl rfl ?_
      refine tm_iload_n dX6_arrange_40 rfl rfl ?_
      refine tm_iload_n dX6_arrange_41 rfl rfl ?_
      refine tm_iload_n dX6_arrange_42 rfl rfl ?_
      refine tm_iadd dX6_arrange_43 ?_
      replace h := obind_some h
      obtain ⟨M11, hc10, h⟩ := h
      refine tm_callV kX6 rfl (avs := [ti y3, ti (y3 + z2)]) (st := []) (okX6_partInTwo hc10) wcX6_50.1 wcX6_50.2.1 wcX6_50.2.2.1 wcX6_50.2.2.2 ⟨rfl, rfl, Nat.le_of_ble_eq_true rfl, Nat.le_of_ble_eq_true rfl⟩ rfl (Nat.le_of_ble_eq_true rfl) ⟨Nat.zero_le _, Nat.zero_le _⟩ dX6_arrange_44 ?_
      replace h := bnd_some h
      obtain ⟨x12, ex12, h⟩ := h
      refine tm_iinc (v := x12) (lc' := [(3, ti x12), (0, tr 6 0), (1, ti z1), (2, ti z2)]) dX6_arrange_47 rfl (by rw [ex12]; rfl) (by decide) rfl ?_
      refine tm_goto (tgt := 32) dX6_arrange_50 (by decide) ?_
      refine tm_lcp [0, 1, 2, 3] rfl ?_
      exact ih x12 M11 _ h J
set_option maxHeartbeats 4000000 in
set_option maxRecDepth 100000 in
theorem okX6_arrange_l25 {g : tG} (z1 : Int32) {r : Option tV} {Mz : tM} : ∀ (n : Nat) (y2 : Int32) (M : tM) (w : tM), fX6_arrange_l25 z1 n y2 M = some w → (∀ (Mw : tM), Mw = w → TW g iX6_arrange rmX6_arrange 0 0 r Mz 0 0 59 [(0, tr 6 0), (1, ti z1)] [] Mw) → TW g iX6_arrange rmX6_arrange 0 0 r Mz 0 0 25 [(0, tr 6 0), (1, ti z1), (2, ti y2)] [] M := by
  intro n
  induction n with
  | zero => intro y2 M w h; cases h
  | succ n ih =>
    intro y2 M w h J
    rw [fX6_arrange_l25] at h
    refine tm_iload_n dX6_arrange_25 rfl rfl ?_
    refine tm_iload_n dX6_arrange_26 rfl rfl ?_
    refine tm_icmp_gt (tgt := 59) dX6_arrange_27 (by decide) (fun c8 => ?_) (fun c8 => ?_)
    · rw [if_pos c8] at h
      obtain rfl := Option.some.inj h
      refine tm_lcp [0, 1] rfl ?_
      exact J _ rfl
    · rw [if_neg c8] at h
      refine tm_iconst (v := 0) dX6_arrange_30 (by decide) ?_
      refine tm_istore_n (lc' := [(3, ti 0), (0, tr 6 0), (1, ti z1), (2, ti y2)]) dX6_arrange_31 rfl (by decide) rfl ?_
      replace h := obind_some h
      obtain ⟨w13, hE14, h⟩ := h
      refine tm_lcp [0, 1, 2, 3] rfl ?_
      refine okX6_arrange_l32 z1 y2 FU 0 M _ hE14 (fun M15 e => ?_)
      subst e
      replace h := bnd_some h
      obtain ⟨x16, ex16, h⟩ := h
      refine tm_iinc (v := x16) (lc' := [(2, ti x16), (0, tr 6 0), (1, ti z1)]) dX6_arrange_53 rfl (by rw [ex16]; rfl) (by decide) rfl ?_
      refine tm_goto (tgt := 25) dX6_arrange_56 (by decide) ?_
      refine tm_lcp [0, 1, 2] rfl ?_
      exact ih x16 M15 _ h J
set_option maxHeartbeats 4000000 in
set_option maxRecDepth 100000 in
theorem okX6_arrange {g : tG}  {M : tM} {v : Int32} {Mz : tM} (h : fX6_arrange  M = some ((v, Mz))) : TMet g yX6_arrange (Cond.code yX6_arrange cX6_arrange 4 (some .boolean) :: tgd) rmX6_arrange [tr 6 0] M (some (ti v)) Mz 0 0 := by
  have key : TW g iX6_arrange rmX6_arrange 0 0 (some (ti v)) Mz 0 0 0 [(0, tr 6 0)] [] M := by
    rw [fX6_arrange] at h
    refine tm_aload_n dX6_arrange_0 rfl rfl ?_
    replace h := obind_some h
    obtain ⟨⟨x1, M3⟩, hc2, h⟩ := h
    dsimp only at h
    refine tm_callV kX6 rfl (avs := []) (st := []) (okX6_putInOrder hc2) wcX6_38.1 wcX6_38.2.1 wcX6_38.2.2.1 wcX6_38.2.2.2 ⟨rfl, rfl, Nat.le_of_ble_eq_true rfl, Nat.le_of_ble_eq_true rfl⟩ rfl (Nat.le_of_ble_eq_true rfl) ⟨Nat.zero_le _, Nat.zero_le _⟩ dX6_arrange_1 ?_
    refine tm_if_ne (tgt := 9) dX6_arrange_4 (by decide) (fun c4 => ?_) (fun c4 => ?_)
    · rw [if_neg c4] at h
      refine tm_aload_n dX6_arrange_9 rfl rfl ?_
      refine tm_get kX6 rfl (j := 0) (by decide) wfX6_30 dX6_arrange_10 (v := tr 1 0) rfl ?_
      refine tm_get kX1 rfl (j := 2) (by decide) wfX6_42 dX6_arrange_13 (v := ti (mI M3 1 0 2)) rfl ?_
      refine tm_iconst (v := 1) dX6_arrange_16 (by decide) ?_
      refine tm_isub dX6_arrange_17 ?_
      replace h := bnd_some h
      obtain ⟨x5, ex5, h⟩ := h
      refine tm_nmI ex5 ?_
      refine tm_istore_n (lc' := [(1, ti x5), (0, tr 6 0)]) dX6_arrange_18 rfl (by decide) rfl ?_
      refine tm_aload_n dX6_arrange_19 rfl rfl ?_
      replace h := obind_some h
      obtain ⟨M7, hc6, h⟩ := h
      refine tm_callV kX6 rfl (avs := []) (st := []) (okX6_findDivisors hc6) wcX6_47.1 wcX6_47.2.1 wcX6_47.2.2.1 wcX6_47.2.2.2 ⟨rfl, rfl, Nat.le_of_ble_eq_true rfl, Nat.le_of_ble_eq_true rfl⟩ rfl (Nat.le_of_ble_eq_true rfl) ⟨Nat.zero_le _, Nat.zero_le _⟩ dX6_arrange_20 ?_
      refine tm_iconst (v := 1) dX6_arrange_23 (by decide) ?_
      refine tm_istore_n (lc' := [(2, ti 1), (1, ti x5), (0, tr 6 0)]) dX6_arrange_24 rfl (by decide) rfl ?_
      replace h := obind_some h
      obtain ⟨w17, hE18, h⟩ := h
      refine tm_lcp [0, 1, 2] rfl ?_
      refine okX6_arrange_l25 x5 FU 1 M7 _ hE18 (fun M19 e => ?_)
      subst e
      refine tm_aload_n dX6_arrange_59 rfl rfl ?_
      refine tm_iconst (v := 0) dX6_arrange_60 (by decide) ?_
      replace h := bnd_some h
      obtain ⟨M20, eM20, h⟩ := h
      refine tm_put kX6 rfl (j := 7) (by decide) wfX6_34 rfl dX6_arrange_61 (fun _ => ⟨rfl, rfl⟩) (tPut_I 0 rfl) ?_
      refine tm_nmM eM20 ?_
      refine tm_aload_n dX6_arrange_64 rfl rfl ?_
      refine tm_iconst (v := 0) dX6_arrange_65 (by decide) ?_
      refine tm_iload_n dX6_arrange_66 rfl rfl ?_
      refine tm_iconst (v := 1) dX6_arrange_67 (by decide) ?_
      refine tm_iconst (v := 0) dX6_arrange_68 (by decide) ?_
      replace h := obind_some h
      obtain ⟨M22, hc21, h⟩ := h
      refine tm_callV kX6 rfl (avs := [ti 0, ti x5, ti 1, ti 0]) (st := []) (okX6_writeRow 15 hc21) wcX6_54.1 wcX6_54.2.1 wcX6_54.2.2.1 wcX6_54.2.2.2 ⟨rfl, rfl, Nat.le_of_ble_eq_true rfl, Nat.le_of_ble_eq_true rfl⟩ rfl (Nat.le_of_ble_eq_true rfl) ⟨Nat.zero_le _, Nat.zero_le _⟩ dX6_arrange_69 ?_
      refine tm_iconst (v := 1) dX6_arrange_72 (by decide) ?_
      obtain ⟨rfl, rfl⟩ := pj2 h
      exact tm_zret (by decide) rfl dX6_arrange_73
    · rw [if_pos c4] at h
      refine tm_iconst (v := 0) dX6_arrange_7 (by decide) ?_
      obtain ⟨rfl, rfl⟩ := pj2 h
      exact tm_zret (by decide) rfl dX6_arrange_8
  exact TMet.of (by decide) (Nat.le_of_ble_eq_true rfl) key
theorem wcX6_61 : tCB RX6 61 yX6_unrollRow cX6_unrollRow 9 (none) 5 ∧ Cond.methodLink RX6 61 yX6_unrollRow ∈ tgd ∧ Cond.instanceMethod yX6_unrollRow ∈ tgd ∧ Cond.selects RX6 yX6_unrollRow yX6_unrollRow ∈ tgd := ⟨⟨(tgd_t 958 (by decide +kernel) (by decide +kernel)), (tgd_t 7 (by decide +kernel) (by decide +kernel)), by decide, by decide +kernel⟩, (tgd_t 955 (by decide +kernel) (by decide +kernel)), (tgd_t 957 (by decide +kernel) (by decide +kernel)), (tgd_p 33 (by decide +kernel) (by decide +kernel))⟩
theorem wfX6_58 : Cond.fieldLink RX6 58 "EvenFlow$Once" "unrolledCount" "I" ∈ tgd := (tgd_t 244 (by decide +kernel) (by decide +kernel))
abbrev iX6_unrollRow : tY := (RX6, cX6_unrollRow, 9, none, "unrollRow")
abbrev rbX6_unrollRow (nn : Nat) : Room := { frames := nn + 1 + 3, cells := 0, slots := 0, locals := 60 * (nn + 1) + 60 }
def fX6_unrollRow_l34 (rc : Nat → Nat → Int32 → Int32 → Int32 → Int32 → tM → Option (tM)) (kz1 : Nat) (z1 : Nat) (z2 : Int32) (z3 : Int32) (z4 : Int32) (z5 : Int32) (z6 : Int32) (z7 : Int32) : Nat → Int32 → tM → Option (tM)
  | 0, _, _ => none
  | n + 1, y8, M =>
    if z6 ≤ y8 then (
    some M
    ) else (
    Option.bind (α := tM) (
    if z3 ≤ z2 then (
    chk (decide (tO kz1 = none)) <|
    chk (!tRO kz1) <|
    if (nI (mN M kz1 z1)) ≤ (mI M 6 0 8) then (
    some M
    ) else (
    chk (inb z2 (mN M 701 0)) <|
    chk (tIsI kz1) <|
    chk (inb (mI M 6 0 8) (mN M kz1 z1)) <|
    bnd (sI M kz1 z1 ((mI M 6 0 8).toNatClampNeg) (mI M 701 0 (z2.toNatClampNeg))) fun M14 =>
    bnd (sI M14 6 0 8 ((mI M14 6 0 8) + 1)) fun M15 =>
    some M15
    )
    ) else (
    (rc kz1 z1 z2 z7 (z4 * z6) (z5 + 1) M).bind fun M17 =>
    (rc kz1 z1 (z7 + 1) z3 (z4 * z6) (z5 + 1) M17).bind fun M19 =>
    some M19
    )
    ) fun M8 =>
    bnd (y8 + 1) fun x20 =>
    fX6_unrollRow_l34 rc kz1 z1 z2 z3 z4 z5 z6 z7 n x20 M8
    )
def fX6_unrollRow_b (rc : Nat → Nat → Int32 → Int32 → Int32 → Int32 → tM → Option (tM)) (k1 : Nat) (a1 : Nat) (a2 : Int32) (a3 : Int32) (a4 : Int32) (a5 : Int32) (M : tM) : Option (tM) :=
  if a5 ≤ 12 then (
  (fX6_timesWithin a2 a3 a4 M).bind fun x2 =>
  chk (inb ((a2 * 12) + a3) (mN M 705 0)) <|
  bnd (mI M 705 0 (((a2 * 12) + a3).toNatClampNeg)) fun x5 =>
  Option.bind (fX6_unrollRow_l34 rc k1 a1 a2 a3 a4 a5 x2 x5 FU 0 M) fun M23 =>
  some M23
  ) else (
  some M
  )
set_option maxHeartbeats 4000000 in
set_option maxRecDepth 100000 in
theorem okX6_unrollRow_l34 {g : tG} {nn : Nat} {rc : Nat → Nat → Int32 → Int32 → Int32 → Int32 → tM → Option (tM)} (hrc : ∀ {k1' : Nat} {a1' : Nat} {a2' : Int32} {a3' : Int32} {a4' : Int32} {a5' : Int32} {Ma Mb : tM}, rc k1' a1' a2' a3' a4' a5' Ma = some Mb → TMet g yX6_unrollRow (Cond.code yX6_unrollRow cX6_unrollRow 9 (none) :: tgd) (rtX6_unrollRow nn) [tr 6 0, tr k1' a1', ti a2', ti a3', ti a4', ti a5'] Ma none Mb 0 0) (kz1 : Nat) (z1 : Nat) (z2 : Int32) (z3 : Int32) (z4 : Int32) (z5 : Int32) (z6 : Int32) (z7 : Int32) {r : Option tV} {Mz : tM} : ∀ (n : Nat) (y8 : Int32) (M : tM) (w : tM), fX6_unrollRow_l34 rc kz1 z1 z2 z3 z4 z5 z6 z7 n y8 M = some w → (∀ (Mw : tM), Mw = w → TW g iX6_unrollRow (rbX6_unrollRow nn) 0 0 r Mz 0 0 122 [] [] Mw) → TW g iX6_unrollRow (rbX6_unrollRow nn) 0 0 r Mz 0 0 34 [(0, tr 6 0), (1, tr kz1 z1), (2, ti z2), (3, ti z3), (4, ti z4), (5, ti z5), (6, ti z6), (7, ti z7), (8, ti y8)] [] M := by
  intro n
  induction n with
  | zero => intro y8 M w h; cases h
  | succ n ih =>
    intro y8 M w h J
    rw [fX6_unrollRow_l34] at h
    refine tm_iload dX6_unrollRow_34 rfl ?_
    refine tm_iload dX6_unrollRow_36 rfl ?_
    refine tm_icmp_ge (tgt := 122) dX6_unrollRow_38 (by decide) (fun c6 => ?_) (fun c6 => ?_)
    · rw [if_pos c6] at h
      obtain rfl := Option.some.inj h
      refine tm_lcp [] rfl ?_
      exact J _ rfl
    · rw [if_neg c6] at h
      refine tm_iload_n dX6_unrollRow_41 rfl rfl ?_
      refine tm_iload_n dX6_unrollRow_42 rfl rfl ?_
      replace h := obind_some h
      obtain ⟨M8, hE9, h⟩ := h
      have J10 : TW g iX6_unrollRow (rbX6_unrollRow nn) 0 0 r Mz 0 0 116 [(0, tr 6 0), (1, tr kz1 z1), (2, ti z2), (3, ti z3), (4, ti z4), (5, ti z5), (6, ti z6), (7, ti z7), (8, ti y8)] [] M8 := by
        replace h := bnd_some h
        obtain ⟨x20, ex20, h⟩ := h
        refine tm_iinc (v := x20) (lc' := [(8, ti x20), (0, tr 6 0), (1, tr kz1 z1), (2, ti z2), (3, ti z3), (4, ti z4), (5, ti z5), (6, ti z6), (7, ti z7)]) dX6_unrollRow_116 rfl (by rw [ex20]; rfl) (by decide) rfl ?_
        refine tm_goto (tgt := 34) dX6_unrollRow_119 (by decide) ?_
        refine tm_lcp [0, 1, 2, 3, 4, 5, 6, 7, 8] rfl ?_
        exact ih x20 M8 _ h J
      refine tm_icmp_ge (tgt := 85) dX6_unrollRow_43 (by decide) (fun c7 => ?_) (fun c7 => ?_)
      · rw [if_pos c7] at hE9
        refine tm_aload_n dX6_unrollRow_85 rfl rfl ?_
        refine tm_get kX6 rfl (j := 8) (by decide) wfX6_58 dX6_unrollRow_86 (v := ti (mI M 6 0 8)) rfl ?_
        refine tm_aload_n dX6_unrollRow_89 rfl rfl ?_
        replace hE9 := chk_some hE9
        obtain ⟨b8, hE9⟩ := hE9
        replace hE9 := chk_some hE9
        obtain ⟨b9, hE9⟩ := hE9
        refine tm_alen ⟨(of_decide_eq_true b8), (by simpa using b9)⟩ dX6_unrollRow_90 ?_
        refine tm_icmp_ge (tgt := 116) dX6_unrollRow_91 (by decide) (fun c10 => ?_) (fun c10 => ?_)
        · rw [if_pos c10] at hE9
          obtain rfl := Option.some.inj hE9
          refine tm_lcp [0, 1, 2, 3, 4, 5, 6, 7, 8] rfl ?_
          exact J10
        · rw [if_neg c10] at hE9
          refine tm_aload_n dX6_unrollRow_94 rfl rfl ?_
          refine tm_aload_n dX6_unrollRow_95 rfl rfl ?_
          refine tm_get kX6 rfl (j := 8) (by decide) wfX6_58 dX6_unrollRow_96 (v := ti (mI M 6 0 8)) rfl ?_
          refine tm_aload_n dX6_unrollRow_99 rfl rfl ?_
          refine tm_get kX6 rfl (j := 1) (by decide) wfX6_9 dX6_unrollRow_100 (v := tr 701 0) rfl ?_
          refine tm_iload_n dX6_unrollRow_103 rfl rfl ?_
          replace hE9 := chk_some hE9
          obtain ⟨b11, hE9⟩ := hE9
          refine tm_iald rfl dX6_unrollRow_104 (inb_vp b11) ?_
          replace hE9 := chk_some hE9
          obtain ⟨b12, hE9⟩ := hE9
          replace hE9 := chk_some hE9
          obtain ⟨b13, hE9⟩ := hE9
          replace hE9 := bnd_some hE9
          obtain ⟨M14, eM14, hE9⟩ := hE9
          refine tm_iast b12 dX6_unrollRow_105 (inb_vp b13) ?_
          refine tm_nmM eM14 ?_
          refine tm_aload_n dX6_unrollRow_106 rfl rfl ?_
          refine tm_dup dX6_unrollRow_107 rfl ?_
          refine tm_get kX6 rfl (j := 8) (by decide) wfX6_58 dX6_unrollRow_108 (v := ti (mI M14 6 0 8)) rfl ?_
          refine tm_iconst (v := 1) dX6_unrollRow_111 (by decide) ?_
          refine tm_iadd dX6_unrollRow_112 ?_
          replace hE9 := bnd_some hE9
          obtain ⟨M15, eM15, hE9⟩ := hE9
          refine tm_put kX6 rfl (j := 8) (by decide) wfX6_58 rfl dX6_unrollRow_113 (fun _ => ⟨rfl, rfl⟩) (tPut_I ((mI M14 6 0 8) + 1) rfl) ?_
          refine tm_nmM eM15 ?_
          obtain rfl := Option.some.inj hE9
          refine tm_lcp [0, 1, 2, 3, 4, 5, 6, 7, 8] rfl ?_
          exact J10
      · rw [if_neg c7] at hE9
        refine tm_aload_n dX6_unrollRow_46 rfl rfl ?_
        refine tm_aload_n dX6_unrollRow_47 rfl rfl ?_
        refine tm_iload_n dX6_unrollRow_48 rfl rfl ?_
        refine tm_iload dX6_unrollRow_49 rfl ?_
        refine tm_iload dX6_unrollRow_51 rfl ?_
        refine tm_iload dX6_unrollRow_53 rfl ?_
        refine tm_imul dX6_unrollRow_55 ?_
        refine tm_iload dX6_unrollRow_56 rfl ?_
        refine tm_iconst (v := 1) dX6_unrollRow_58 (by decide) ?_
        refine tm_iadd dX6_unrollRow_59 ?_
        replace hE9 := obind_some hE9
        obtain ⟨M17, hc16, hE9⟩ := hE9
        refine tm_callV kX6 rfl (avs := [tr kz1 z1, ti z2, ti z7, ti (z4 * z6), ti (z5 + 1)]) (st := []) (hrc hc16) wcX6_61.1 wcX6_61.2.1 wcX6_61.2.2.1 wcX6_61.2.2.2 ⟨rfl, rfl, (by show nn + 3 + 1 ≤ nn + 1 + 3; omega), (by show 8 + (9 + 11) + (60 * nn + 60) ≤ 60 * (nn + 1) + 60; omega)⟩ rfl (Nat.le_of_ble_eq_true rfl) ⟨Nat.zero_le _, Nat.zero_le _⟩ dX6_unrollRow_60 ?_
        refine tm_aload_n dX6_unrollRow_63 rfl rfl ?_
        refine tm_aload_n dX6_unrollRow_64 rfl rfl ?_
        refine tm_iload dX6_unrollRow_65 rfl ?_
        refine tm_iconst (v := 1) dX6_unrollRow_67 (by decide) ?_
        refine tm_iadd dX6_unrollRow_68 ?_
        refine tm_iload_n dX6_unrollRow_69 rfl rfl ?_
        refine tm_iload dX6_unrollRow_70 rfl ?_
        refine tm_iload dX6_unrollRow_72 rfl ?_
        refine tm_imul dX6_unrollRow_74 ?_
        refine tm_iload dX6_unrollRow_75 rfl ?_
        refine tm_iconst (v := 1) dX6_unrollRow_77 (by decide) ?_
        refine tm_iadd dX6_unrollRow_78 ?_
        replace hE9 := obind_some hE9
        obtain ⟨M19, hc18, hE9⟩ := hE9
        refine tm_callV kX6 rfl (avs := [tr kz1 z1, ti (z7 + 1), ti z3, ti (z4 * z6), ti (z5 + 1)]) (st := []) (hrc hc18) wcX6_61.1 wcX6_61.2.1 wcX6_61.2.2.1 wcX6_61.2.2.2 ⟨rfl, rfl, (by show nn + 3 + 1 ≤ nn + 1 + 3; omega), (by show 8 + (9 + 11) + (60 * nn + 60) ≤ 60 * (nn + 1) + 60; omega)⟩ rfl (Nat.le_of_ble_eq_true rfl) ⟨Nat.zero_le _, Nat.zero_le _⟩ dX6_unrollRow_79 ?_
        refine tm_goto (tgt := 116) dX6_unrollRow_82 (by decide) ?_
        obtain rfl := Option.some.inj hE9
        refine tm_lcp [0, 1, 2, 3, 4, 5, 6, 7, 8] rfl ?_
        exact J10
set_option maxHeartbeats 4000000 in
set_option maxRecDepth 100000 in
theorem okX6_unrollRow_b {g : tG} {nn : Nat} {rc : Nat → Nat → Int32 → Int32 → Int32 → Int32 → tM → Option (tM)} (hrc : ∀ {k1' : Nat} {a1' : Nat} {a2' : Int32} {a3' : Int32} {a4' : Int32} {a5' : Int32} {Ma Mb : tM}, rc k1' a1' a2' a3' a4' a5' Ma = some Mb → TMet g yX6_unrollRow (Cond.code yX6_unrollRow cX6_unrollRow 9 (none) :: tgd) (rtX6_unrollRow nn) [tr 6 0, tr k1' a1', ti a2', ti a3', ti a4', ti a5'] Ma none Mb 0 0) {k1 : Nat} {a1 : Nat} {a2 : Int32} {a3 : Int32} {a4 : Int32} {a5 : Int32} {M : tM} {Mz : tM} (h : fX6_unrollRow_b rc k1 a1 a2 a3 a4 a5 M = some Mz) : TMet g yX6_unrollRow (Cond.code yX6_unrollRow cX6_unrollRow 9 (none) :: tgd) (rbX6_unrollRow nn) [tr 6 0, tr k1 a1, ti a2, ti a3, ti a4, ti a5] M none Mz 0 0 := by
  have key : TW g iX6_unrollRow (rbX6_unrollRow nn) 0 0 none Mz 0 0 0 [(0, tr 6 0), (1, tr k1 a1), (2, ti a2), (3, ti a3), (4, ti a4), (5, ti a5)] [] M := by
    rw [fX6_unrollRow_b] at h
    refine tm_iload dX6_unrollRow_0 rfl ?_
    refine tm_bipush (v := 12) dX6_unrollRow_2 (by decide) ?_
    refine tm_icmp_le (tgt := 8) dX6_unrollRow_4 (by decide) (fun c1 => ?_) (fun c1 => ?_)
    · rw [if_pos c1] at h
      refine tm_aload_n dX6_unrollRow_8 rfl rfl ?_
      refine tm_iload_n dX6_unrollRow_9 rfl rfl ?_
      refine tm_iload_n dX6_unrollRow_10 rfl rfl ?_
      refine tm_iload dX6_unrollRow_11 rfl ?_
      replace h := obind_some h
      obtain ⟨x2, hc3, h⟩ := h
      refine tm_callV kX6 rfl (avs := [ti a2, ti a3, ti a4]) (st := []) (okX6_timesWithin hc3) wcX6_136.1 wcX6_136.2.1 wcX6_136.2.2.1 wcX6_136.2.2.2 ⟨rfl, rfl, (by show 1 + 1 ≤ nn + 1 + 3; omega), (by show 8 + (4 + 11) + (21) ≤ 60 * (nn + 1) + 60; omega)⟩ rfl (Nat.le_of_ble_eq_true rfl) ⟨Nat.zero_le _, Nat.zero_le _⟩ dX6_unrollRow_13 ?_
      refine tm_istore (lc' := [(6, ti x2), (0, tr 6 0), (1, tr k1 a1), (2, ti a2), (3, ti a3), (4, ti a4), (5, ti a5)]) dX6_unrollRow_16 (by decide) rfl ?_
      refine tm_aload_n dX6_unrollRow_18 rfl rfl ?_
      refine tm_get kX6 rfl (j := 5) (by decide) wfX6_24 dX6_unrollRow_19 (v := tr 705 0) rfl ?_
      refine tm_iload_n dX6_unrollRow_22 rfl rfl ?_
      refine tm_bipush (v := 12) dX6_unrollRow_23 (by decide) ?_
      refine tm_imul dX6_unrollRow_25 ?_
      refine tm_iload_n dX6_unrollRow_26 rfl rfl ?_
      refine tm_iadd dX6_unrollRow_27 ?_
      replace h := chk_some h
      obtain ⟨b4, h⟩ := h
      refine tm_iald rfl dX6_unrollRow_28 (inb_vp b4) ?_
      replace h := bnd_some h
      obtain ⟨x5, ex5, h⟩ := h
      refine tm_nmI ex5 ?_
      refine tm_istore (lc' := [(7, ti x5), (6, ti x2), (0, tr 6 0), (1, tr k1 a1), (2, ti a2), (3, ti a3), (4, ti a4), (5, ti a5)]) dX6_unrollRow_29 (by decide) rfl ?_
      refine tm_iconst (v := 0) dX6_unrollRow_31 (by decide) ?_
      refine tm_istore (lc' := [(8, ti 0), (7, ti x5), (6, ti x2), (0, tr 6 0), (1, tr k1 a1), (2, ti a2), (3, ti a3), (4, ti a4), (5, ti a5)]) dX6_unrollRow_32 (by decide) rfl ?_
      replace h := obind_some h
      obtain ⟨w21, hE22, h⟩ := h
      refine tm_lcp [0, 1, 2, 3, 4, 5, 6, 7, 8] rfl ?_
      refine okX6_unrollRow_l34 hrc k1 a1 a2 a3 a4 a5 x2 x5 FU 0 M _ hE22 (fun M23 e => ?_)
      subst e
      obtain rfl := Option.some.inj h
      exact tm_vret rfl dX6_unrollRow_122
    · rw [if_neg c1] at h
      obtain rfl := Option.some.inj h
      exact tm_vret rfl dX6_unrollRow_7
  exact TMet.of (by decide) (Nat.le_of_ble_eq_true rfl) key
def fX6_unrollRow : Nat → Nat → Nat → Int32 → Int32 → Int32 → Int32 → tM → Option (tM)
  | 0, _, _, _, _, _, _, _ => none
  | n + 1, k1, a1, a2, a3, a4, a5, M => fX6_unrollRow_b (fX6_unrollRow n) k1 a1 a2 a3 a4 a5 M
theorem okX6_unrollRow {g : tG} : ∀ (nn : Nat) {k1 : Nat} {a1 : Nat} {a2 : Int32} {a3 : Int32} {a4 : Int32} {a5 : Int32} {M Mz : tM}, fX6_unrollRow nn k1 a1 a2 a3 a4 a5 M = some Mz → TMet g yX6_unrollRow (Cond.code yX6_unrollRow cX6_unrollRow 9 (none) :: tgd) (rtX6_unrollRow nn) [tr 6 0, tr k1 a1, ti a2, ti a3, ti a4, ti a5] M none Mz 0 0
  | 0, _, _, _, _, _, _, _, _, h => by cases h
  | nn + 1, _, _, _, _, _, _, _, _, h => okX6_unrollRow_b (fun h => okX6_unrollRow nn h) h
