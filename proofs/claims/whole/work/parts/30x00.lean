theorem wfX0_38 : Cond.fieldLink RX0 38 "EvenFlow$Beat" "known" "Z" ∈ tgd := (tgd_t 275 (by decide +kernel) (by decide +kernel))
abbrev iX0_forget : tY := (RX0, cX0_forget, 1, none, "forget")
abbrev rmX0_forget : Room := { frames := 0, cells := 0, slots := 0, locals := 0 }
def fX0_forget  (M : tM) : Option (tM) :=
  bnd (sI M 0 0 3 0) fun M1 =>
  some M1
set_option maxHeartbeats 4000000 in
set_option maxRecDepth 100000 in
theorem okX0_forget {g : tG}  {M : tM} {Mz : tM} (h : fX0_forget  M = some Mz) : TMet g yX0_forget (Cond.code yX0_forget cX0_forget 1 (none) :: tgd) rmX0_forget [tr 0 0] M none Mz 0 0 := by
  have key : TW g iX0_forget rmX0_forget 0 0 none Mz 0 0 0 [(0, tr 0 0)] [] M := by
    rw [fX0_forget] at h
    refine tm_aload_n dX0_forget_0 rfl rfl ?_
    refine tm_iconst (v := 0) dX0_forget_1 (by decide) ?_
    replace h := bnd_some h
    obtain ⟨M1, eM1, h⟩ := h
    refine tm_put kX0 rfl (j := 3) (by decide) wfX0_38 rfl dX0_forget_2 (tb_f (x := 0) (by decide)) (tPut_I 0 rfl) ?_
    refine tm_nmM eM1 ?_
    obtain rfl := Option.some.inj h
    exact tm_vret rfl dX0_forget_5
  exact TMet.of (by decide) (Nat.le_of_ble_eq_true rfl) key
theorem wfX0_18 : Cond.fieldLink RX0 18 "EvenFlow$Beat" "waiter" "[I" ∈ tgd := (tgd_t 279 (by decide +kernel) (by decide +kernel))
theorem wfX0_21 : Cond.fieldLink RX0 21 "EvenFlow$Beat" "awaited" "[I" ∈ tgd := (tgd_t 280 (by decide +kernel) (by decide +kernel))
theorem wfX0_24 : Cond.fieldLink RX0 24 "EvenFlow$Beat" "roundsBack" "[I" ∈ tgd := (tgd_t 281 (by decide +kernel) (by decide +kernel))
theorem wfX0_70 : Cond.fieldLink RX0 70 "EvenFlow$Beat" "waits" "I" ∈ tgd := (tgd_t 282 (by decide +kernel) (by decide +kernel))
abbrev iX0_addWait : tY := (RX0, cX0_addWait, 4, none, "addWait")
abbrev rmX0_addWait : Room := { frames := 0, cells := 0, slots := 0, locals := 0 }
def fX0_addWait (a1 : Int32) (a2 : Int32) (a3 : Int32) (M : tM) : Option (tM) :=
  if 1260 ≤ (mI M 0 0 10) then (
  some M
  ) else (
  if 60 ≤ a1 then (
  some M
  ) else (
  if 60 ≤ a2 then (
  some M
  ) else (
  chk (inb (mI M 0 0 10) (mN M 107 0)) <|
  bnd (sI M 107 0 ((mI M 0 0 10).toNatClampNeg) a1) fun M5 =>
  chk (inb (mI M5 0 0 10) (mN M5 108 0)) <|
  bnd (sI M5 108 0 ((mI M5 0 0 10).toNatClampNeg) a2) fun M7 =>
  chk (inb (mI M7 0 0 10) (mN M7 109 0)) <|
  bnd (sI M7 109 0 ((mI M7 0 0 10).toNatClampNeg) a3) fun M9 =>
  bnd (sI M9 0 0 10 ((mI M9 0 0 10) + 1)) fun M10 =>
  some M10
  )
  )
  )
set_option maxHeartbeats 4000000 in
set_option maxRecDepth 100000 in
theorem okX0_addWait {g : tG} {a1 : Int32} {a2 : Int32} {a3 : Int32} {M : tM} {Mz : tM} (h : fX0_addWait a1 a2 a3 M = some Mz) : TMet g yX0_addWait (Cond.code yX0_addWait cX0_addWait 4 (none) :: tgd) rmX0_addWait [tr 0 0, ti a1, ti a2, ti a3] M none Mz 0 0 := by
  have key : TW g iX0_addWait rmX0_addWait 0 0 none Mz 0 0 0 [(0, tr 0 0), (1, ti a1), (2, ti a2), (3, ti a3)] [] M := by
    rw [fX0_addWait] at h
    refine tm_aload_n dX0_addWait_0 rfl rfl ?_
    refine tm_get kX0 rfl (j := 10) (by decide) wfX0_70 dX0_addWait_1 (v := ti (mI M 0 0 10)) rfl ?_
    refine tm_sipush (v := 1260) dX0_addWait_4 (by decide) ?_
    refine tm_icmp_ge (tgt := 62) dX0_addWait_7 (by decide) (fun c1 => ?_) (fun c1 => ?_)
    · rw [if_pos c1] at h
      obtain rfl := Option.some.inj h
      exact tm_vret rfl dX0_addWait_62
    · rw [if_neg c1] at h
      refine tm_iload_n dX0_addWait_10 rfl rfl ?_
      refine tm_bipush (v := 60) dX0_addWait_11 (by decide) ?_
      refine tm_icmp_ge (tgt := 62) dX0_addWait_13 (by decide) (fun c2 => ?_) (fun c2 => ?_)
      · rw [if_pos c2] at h
        obtain rfl := Option.some.inj h
        exact tm_vret rfl dX0_addWait_62
      · rw [if_neg c2] at h
        refine tm_iload_n dX0_addWait_16 rfl rfl ?_
        refine tm_bipush (v := 60) dX0_addWait_17 (by decide) ?_
        refine tm_icmp_ge (tgt := 62) dX0_addWait_19 (by decide) (fun c3 => ?_) (fun c3 => ?_)
        · rw [if_pos c3] at h
          obtain rfl := Option.some.inj h
          exact tm_vret rfl dX0_addWait_62
        · rw [if_neg c3] at h
          refine tm_aload_n dX0_addWait_22 rfl rfl ?_
          refine tm_get kX0 rfl (j := 7) (by decide) wfX0_18 dX0_addWait_23 (v := tr 107 0) rfl ?_
          refine tm_aload_n dX0_addWait_26 rfl rfl ?_
          refine tm_get kX0 rfl (j := 10) (by decide) wfX0_70 dX0_addWait_27 (v := ti (mI M 0 0 10)) rfl ?_
          refine tm_iload_n dX0_addWait_30 rfl rfl ?_
          replace h := chk_some h
          obtain ⟨b4, h⟩ := h
          replace h := bnd_some h
          obtain ⟨M5, eM5, h⟩ := h
          refine tm_iast rfl dX0_addWait_31 (inb_vp b4) ?_
          refine tm_nmM eM5 ?_
          refine tm_aload_n dX0_addWait_32 rfl rfl ?_
          refine tm_get kX0 rfl (j := 8) (by decide) wfX0_21 dX0_addWait_33 (v := tr 108 0) rfl ?_
          refine tm_aload_n dX0_addWait_36 rfl rfl ?_
          refine tm_get kX0 rfl (j := 10) (by decide) wfX0_70 dX0_addWait_37 (v := ti (mI M5 0 0 10)) rfl ?_
          refine tm_iload_n dX0_addWait_40 rfl rfl ?_
          replace h := chk_some h
          obtain ⟨b6, h⟩ := h
          replace h := bnd_some h
          obtain ⟨M7, eM7, h⟩ := h
          refine tm_iast rfl dX0_addWait_41 (inb_vp b6) ?_
          refine tm_nmM eM7 ?_
          refine tm_aload_n dX0_addWait_42 rfl rfl ?_
          refine tm_get kX0 rfl (j := 9) (by decide) wfX0_24 dX0_addWait_43 (v := tr 109 0) rfl ?_
          refine tm_aload_n dX0_addWait_46 rfl rfl ?_
          refine tm_get kX0 rfl (j := 10) (by decide) wfX0_70 dX0_addWait_47 (v := ti (mI M7 0 0 10)) rfl ?_
          refine tm_iload_n dX0_addWait_50 rfl rfl ?_
          replace h := chk_some h
          obtain ⟨b8, h⟩ := h
          replace h := bnd_some h
          obtain ⟨M9, eM9, h⟩ := h
          refine tm_iast rfl dX0_addWait_51 (inb_vp b8) ?_
          refine tm_nmM eM9 ?_
          refine tm_aload_n dX0_addWait_52 rfl rfl ?_
          refine tm_dup dX0_addWait_53 rfl ?_
          refine tm_get kX0 rfl (j := 10) (by decide) wfX0_70 dX0_addWait_54 (v := ti (mI M9 0 0 10)) rfl ?_
          refine tm_iconst (v := 1) dX0_addWait_57 (by decide) ?_
          refine tm_iadd dX0_addWait_58 ?_
          replace h := bnd_some h
          obtain ⟨M10, eM10, h⟩ := h
          refine tm_put kX0 rfl (j := 10) (by decide) wfX0_70 rfl dX0_addWait_59 (fun _ => ⟨rfl, rfl⟩) (tPut_I ((mI M9 0 0 10) + 1) rfl) ?_
          refine tm_nmM eM10 ?_
          obtain rfl := Option.some.inj h
          exact tm_vret rfl dX0_addWait_62
  exact TMet.of (by decide) (Nat.le_of_ble_eq_true rfl) key
theorem wcX0_88 : tCB RX0 88 yX0_addWait cX0_addWait 4 (none) 3 ∧ Cond.methodLink RX0 88 yX0_addWait ∈ tgd ∧ Cond.instanceMethod yX0_addWait ∈ tgd ∧ Cond.selects RX0 yX0_addWait yX0_addWait ∈ tgd := ⟨⟨(tgd_t 1022 (by decide +kernel) (by decide +kernel)), (tgd_t 8 (by decide +kernel) (by decide +kernel)), by decide, by decide +kernel⟩, (tgd_t 1019 (by decide +kernel) (by decide +kernel)), (tgd_t 1021 (by decide +kernel) (by decide +kernel)), (tgd_p 35 (by decide +kernel) (by decide +kernel))⟩
theorem wfX0_9 : Cond.fieldLink RX0 9 "EvenFlow$Beat" "base" "[I" ∈ tgd := (tgd_t 276 (by decide +kernel) (by decide +kernel))
theorem wfX0_15 : Cond.fieldLink RX0 15 "EvenFlow$Beat" "timeOf" "[I" ∈ tgd := (tgd_t 277 (by decide +kernel) (by decide +kernel))
theorem wfX0_34 : Cond.fieldLink RX0 34 "EvenFlow$Beat" "graph" "LEvenFlow$Graph;" ∈ tgd := (tgd_t 270 (by decide +kernel) (by decide +kernel))
theorem wfX0_67 : Cond.fieldLink RX0 67 "EvenFlow$Beat" "nodes" "I" ∈ tgd := (tgd_t 278 (by decide +kernel) (by decide +kernel))
theorem wfX0_73 : Cond.fieldLink RX0 73 "EvenFlow$Graph" "partCount" "I" ∈ tgd := (tgd_t 54 (by decide +kernel) (by decide +kernel))
theorem wfX0_76 : Cond.fieldLink RX0 76 "EvenFlow$Graph" "parts" "[LEvenFlow$Part;" ∈ tgd := (tgd_t 38 (by decide +kernel) (by decide +kernel))
theorem wfX0_80 : Cond.fieldLink RX0 80 "EvenFlow$Part" "inRound" "I" ∈ tgd := (tgd_t 427 (by decide +kernel) (by decide +kernel))
theorem wfX0_85 : Cond.fieldLink RX0 85 "EvenFlow$Part" "time" "I" ∈ tgd := (tgd_t 421 (by decide +kernel) (by decide +kernel))
abbrev iX0_numberFirings : tY := (RX0, cX0_numberFirings, 4, none, "numberFirings")
abbrev rmX0_numberFirings : Room := { frames := 1, cells := 0, slots := 0, locals := 23 }
def fX0_numberFirings_l45 (z1 : Int32) (z2 : Option Nat) : Nat → Int32 → tM → Option (tM)
  | 0, _, _ => none
  | n + 1, y3, M =>
    Option.bind z2 fun i8 =>
    if (mI M 7 i8 6) ≤ y3 then (
    some M
    ) else (
    if 60 ≤ (mI M 0 0 6) then (
    some M
    ) else (
    chk (inb (mI M 0 0 6) (mN M 105 0)) <|
    bnd (sI M 105 0 ((mI M 0 0 6).toNatClampNeg) (mI M 7 i8 4)) fun M12 =>
    bnd (sI M12 0 0 6 ((mI M12 0 0 6) + 1)) fun M13 =>
    Option.bind (α := tM) (
    if y3 = 0 then (
    chk (inb z1 (mN M13 104 0)) <|
    chk (inb z1 (mN M13 104 0)) <|
    (fX0_addWait (mI M13 104 0 (z1.toNatClampNeg)) (((mI M13 104 0 (z1.toNatClampNeg)) + (mI M13 7 i8 6)) - 1) 1 M13).bind fun M22 =>
    some M22
    ) else (
    chk (inb z1 (mN M13 104 0)) <|
    chk (inb z1 (mN M13 104 0)) <|
    (fX0_addWait ((mI M13 104 0 (z1.toNatClampNeg)) + y3) (((mI M13 104 0 (z1.toNatClampNeg)) + y3) - 1) 0 M13).bind fun M18 =>
    some M18
    )
    ) fun M15 =>
    bnd (y3 + 1) fun x23 =>
    fX0_numberFirings_l45 z1 z2 n x23 M15
    )
    )
def fX0_numberFirings_l12  : Nat → Int32 → tM → Option (tM)
  | 0, _, _ => none
  | n + 1, y1, M =>
    if (mI M 1 0 2) ≤ y1 then (
    some M
    ) else (
    chk (inb y1 (mN M 200 0)) <|
    bnd (mR M 200 0 (y1.toNatClampNeg)) fun r5 =>
    chk (inb y1 (mN M 104 0)) <|
    bnd (sI M 104 0 (y1.toNatClampNeg) (mI M 0 0 6)) fun M7 =>
    Option.bind (fX0_numberFirings_l45 y1 r5 FU 0 M7) fun M26 =>
    bnd (y1 + 1) fun x27 =>
    fX0_numberFirings_l12 n x27 M26
    )
def fX0_numberFirings  (M : tM) : Option (tM) :=
  bnd (sI M 0 0 6 0) fun M1 =>
  bnd (sI M1 0 0 10 0) fun M2 =>
  Option.bind (fX0_numberFirings_l12 FU 0 M2) fun M30 =>
  some M30
set_option maxHeartbeats 4000000 in
set_option maxRecDepth 100000 in
theorem okX0_numberFirings_l45 {g : tG} (z1 : Int32) (z2 : Option Nat) {r : Option tV} {Mz : tM} : ∀ (n : Nat) (y3 : Int32) (M : tM) (w : tM), fX0_numberFirings_l45 z1 z2 n y3 M = some w → (∀ (Mw : tM), Mw = w → TW g iX0_numberFirings rmX0_numberFirings 0 0 r Mz 0 0 145 [(0, tr 0 0), (1, ti z1)] [] Mw) → TW g iX0_numberFirings rmX0_numberFirings 0 0 r Mz 0 0 45 [(0, tr 0 0), (1, ti z1), (2, tq 7 z2), (3, ti y3)] [] M := by
  intro n
  induction n with
  | zero => intro y3 M w h; cases h
  | succ n ih =>
    intro y3 M w h J
    rw [fX0_numberFirings_l45] at h
    refine tm_iload_n dX0_numberFirings_45 rfl rfl ?_
    refine tm_aload_n dX0_numberFirings_46 rfl rfl ?_
    replace h := obind_some h
    obtain ⟨i8, ei8, h⟩ := h
    subst ei8
    refine tm_get kX7 rfl (j := 6) (by decide) wfX0_80 dX0_numberFirings_47 (v := ti (mI M 7 i8 6)) rfl ?_
    refine tm_icmp_ge (tgt := 145) dX0_numberFirings_50 (by decide) (fun c9 => ?_) (fun c9 => ?_)
    · rw [if_pos c9] at h
      obtain rfl := Option.some.inj h
      refine tm_lcp [0, 1] rfl ?_
      exact J _ rfl
    · rw [if_neg c9] at h
      refine tm_aload_n dX0_numberFirings_53 rfl rfl ?_
      refine tm_get kX0 rfl (j := 6) (by decide) wfX0_67 dX0_numberFirings_54 (v := ti (mI M 0 0 6)) rfl ?_
      refine tm_bipush (v := 60) dX0_numberFirings_57 (by decide) ?_
      refine tm_icmp_ge (tgt := 145) dX0_numberFirings_59 (by decide) (fun c10 => ?_) (fun c10 => ?_)
      · rw [if_pos c10] at h
        obtain rfl := Option.some.inj h
        refine tm_lcp [0, 1] rfl ?_
        exact J _ rfl
      · rw [if_neg c10] at h
        refine tm_aload_n dX0_numberFirings_62 rfl rfl ?_
        refine tm_get kX0 rfl (j := 5) (by decide) wfX0_15 dX0_numberFirings_63 (v := tr 105 0) rfl ?_
        refine tm_aload_n dX0_numberFirings_66 rfl rfl ?_
        refine tm_get kX0 rfl (j := 6) (by decide) wfX0_67 dX0_numberFirings_67 (v := ti (mI M 0 0 6)) rfl ?_
        refine tm_aload_n dX0_numberFirings_70 rfl rfl ?_
        refine tm_get kX7 rfl (j := 4) (by decide) wfX0_85 dX0_numberFirings_71 (v := ti (mI M 7 i8 4)) rfl ?_
        replace h := chk_some h
        obtain ⟨b11, h⟩ := h
        replace h := bnd_some h
        obtain ⟨M12, eM12, h⟩ := h
        refine tm_iast rfl dX0_numberFirings_74 (inb_vp b11) ?_
        refine tm_nmM eM12 ?_
        refine tm_aload_n dX0_numberFirings_75 rfl rfl ?_
        refine tm_dup dX0_numberFirings_76 rfl ?_
        refine tm_get kX0 rfl (j := 6) (by decide) wfX0_67 dX0_numberFirings_77 (v := ti (mI M12 0 0 6)) rfl ?_
        refine tm_iconst (v := 1) dX0_numberFirings_80 (by decide) ?_
        refine tm_iadd dX0_numberFirings_81 ?_
        replace h := bnd_some h
        obtain ⟨M13, eM13, h⟩ := h
        refine tm_put kX0 rfl (j := 6) (by decide) wfX0_67 rfl dX0_numberFirings_82 (fun _ => ⟨rfl, rfl⟩) (tPut_I ((mI M12 0 0 6) + 1) rfl) ?_
        refine tm_nmM eM13 ?_
        refine tm_iload_n dX0_numberFirings_85 rfl rfl ?_
        replace h := obind_some h
        obtain ⟨M15, hE16, h⟩ := h
        have J17 : TW g iX0_numberFirings rmX0_numberFirings 0 0 r Mz 0 0 139 [(0, tr 0 0), (1, ti z1), (2, tr 7 i8), (3, ti y3)] [] M15 := by
          replace h := bnd_some h
          obtain ⟨x23, ex23, h⟩ := h
          refine tm_iinc (v := x23) (lc' := [(3, ti x23), (0, tr 0 0), (1, ti z1), (2, tr 7 i8)]) dX0_numberFirings_139 rfl (by rw [ex23]; rfl) (by decide) rfl ?_
          refine tm_goto (tgt := 45) dX0_numberFirings_142 (by decide) ?_
          refine tm_lcp [0, 1, 2, 3] rfl ?_
          exact ih x23 M15 _ h J
        refine tm_if_ne (tgt := 116) dX0_numberFirings_86 (by decide) (fun c14 => ?_) (fun c14 => ?_)
        · rw [if_neg c14] at hE16
          refine tm_aload_n dX0_numberFirings_116 rfl rfl ?_
          refine tm_aload_n dX0_numberFirings_117 rfl rfl ?_
          refine tm_get kX0 rfl (j := 4) (by decide) wfX0_9 dX0_numberFirings_118 (v := tr 104 0) rfl ?_
          refine tm_iload_n dX0_numberFirings_121 rfl rfl ?_
          replace hE16 := chk_some hE16
          obtain ⟨b15, hE16⟩ := hE16
          refine tm_iald rfl dX0_numberFirings_122 (inb_vp b15) ?_
          refine tm_iload_n dX0_numberFirings_123 rfl rfl ?_
          refine tm_iadd dX0_numberFirings_124 ?_
          refine tm_aload_n dX0_numberFirings_125 rfl rfl ?_
          refine tm_get kX0 rfl (j := 4) (by decide) wfX0_9 dX0_numberFirings_126 (v := tr 104 0) rfl ?_
          refine tm_iload_n dX0_numberFirings_129 rfl rfl ?_
          replace hE16 := chk_some hE16
          obtain ⟨b16, hE16⟩ := hE16
          refine tm_iald rfl dX0_numberFirings_130 (inb_vp b16) ?_
          refine tm_iload_n dX0_numberFirings_131 rfl rfl ?_
          refine tm_iadd dX0_numberFirings_132 ?_
          refine tm_iconst (v := 1) dX0_numberFirings_133 (by decide) ?_
          refine tm_isub dX0_numberFirings_134 ?_
          refine tm_iconst (v := 0) dX0_numberFirings_135 (by decide) ?_
          replace hE16 := obind_some hE16
          obtain ⟨M18, hc17, hE16⟩ := hE16
          refine tm_callV kX0 rfl (avs := [ti ((mI M13 104 0 (z1.toNatClampNeg)) + y3), ti (((mI M13 104 0 (z1.toNatClampNeg)) + y3) - 1), ti 0]) (st := []) (okX0_addWait hc17) wcX0_88.1 wcX0_88.2.1 wcX0_88.2.2.1 wcX0_88.2.2.2 ⟨rfl, rfl, Nat.le_of_ble_eq_true rfl, Nat.le_of_ble_eq_true rfl⟩ rfl (Nat.le_of_ble_eq_true rfl) ⟨Nat.zero_le _, Nat.zero_le _⟩ dX0_numberFirings_136 ?_
          obtain rfl := Option.some.inj hE16
          refine tm_lcp [0, 1, 2, 3] rfl ?_
          exact J17
        · rw [if_pos c14] at hE16
          refine tm_aload_n dX0_numberFirings_89 rfl rfl ?_
          refine tm_aload_n dX0_numberFirings_90 rfl rfl ?_
          refine tm_get kX0 rfl (j := 4) (by decide) wfX0_9 dX0_numberFirings_91 (v := tr 104 0) rfl ?_
          refine tm_iload_n dX0_numberFirings_94 rfl rfl ?_
          replace hE16 := chk_some hE16
          obtain ⟨b19, hE16⟩ := hE16
          refine tm_iald rfl dX0_numberFirings_95 (inb_vp b19) ?_
          refine tm_aload_n dX0_numberFirings_96 rfl rfl ?_
          refine tm_get kX0 rfl (j := 4) (by decide) wfX0_9 dX0_numberFirings_97 (v := tr 104 0) rfl ?_
          refine tm_iload_n dX0_numberFirings_100 rfl rfl ?_
          replace hE16 := chk_some hE16
          obtain ⟨b20, hE16⟩ := hE16
          refine tm_iald rfl dX0_numberFirings_101 (inb_vp b20) ?_
          refine tm_aload_n dX0_numberFirings_102 rfl rfl ?_
          refine tm_get kX7 rfl (j := 6) (by decide) wfX0_80 dX0_numberFirings_103 (v := ti (mI M13 7 i8 6)) rfl ?_
          refine tm_iadd dX0_numberFirings_106 ?_
          refine tm_iconst (v := 1) dX0_numberFirings_107 (by decide) ?_
          refine tm_isub dX0_numberFirings_108 ?_
          refine tm_iconst (v := 1) dX0_numberFirings_109 (by decide) ?_
          replace hE16 := obind_some hE16
          obtain ⟨M22, hc21, hE16⟩ := hE16
          refine tm_callV kX0 rfl (avs := [ti (mI M13 104 0 (z1.toNatClampNeg)), ti (((mI M13 104 0 (z1.toNatClampNeg)) + (mI M13 7 i8 6)) - 1), ti 1]) (st := []) (okX0_addWait hc21) wcX0_88.1 wcX0_88.2.1 wcX0_88.2.2.1 wcX0_88.2.2.2 ⟨rfl, rfl, Nat.le_of_ble_eq_true rfl, Nat.le_of_ble_eq_true rfl⟩ rfl (Nat.le_of_ble_eq_true rfl) ⟨Nat.zero_le _, Nat.zero_le _⟩ dX0_numberFirings_110 ?_
          refine tm_goto (tgt := 139) dX0_numberFirings_113 (by decide) ?_
          obtain rfl := Option.some.inj hE16
          refine tm_lcp [0, 1, 2, 3] rfl ?_
          exact J17
set_option maxHeartbeats 4000000 in
set_option maxRecDepth 100000 in
theorem okX0_numberFirings_l12 {g : tG}  {r : Option tV} {Mz : tM} : ∀ (n : Nat) (y1 : Int32) (M : tM) (w : tM), fX0_numberFirings_l12 n y1 M = some w → (∀ (Mw : tM), Mw = w → TW g iX0_numberFirings rmX0_numberFirings 0 0 r Mz 0 0 151 [] [] Mw) → TW g iX0_numberFirings rmX0_numberFirings 0 0 r Mz 0 0 12 [(0, tr 0 0), (1, ti y1)] [] M := by
  intro n
  induction n with
  | zero => intro y1 M w h; cases h
  | succ n ih =>
    intro y1 M w h J
    rw [fX0_numberFirings_l12] at h
    refine tm_iload_n dX0_numberFirings_12 rfl rfl ?_
    refine tm_aload_n dX0_numberFirings_13 rfl rfl ?_
    refine tm_get kX0 rfl (j := 0) (by decide) wfX0_34 dX0_numberFirings_14 (v := tr 1 0) rfl ?_
    refine tm_get kX1 rfl (j := 2) (by decide) wfX0_73 dX0_numberFirings_17 (v := ti (mI M 1 0 2)) rfl ?_
    refine tm_icmp_ge (tgt := 151) dX0_numberFirings_20 (by decide) (fun c3 => ?_) (fun c3 => ?_)
    · rw [if_pos c3] at h
      obtain rfl := Option.some.inj h
      refine tm_lcp [] rfl ?_
      exact J _ rfl
    · rw [if_neg c3] at h
      refine tm_aload_n dX0_numberFirings_23 rfl rfl ?_
      refine tm_get kX0 rfl (j := 0) (by decide) wfX0_34 dX0_numberFirings_24 (v := tr 1 0) rfl ?_
      refine tm_get kX1 rfl (j := 0) (by decide) wfX0_76 dX0_numberFirings_27 (v := tr 200 0) rfl ?_
      refine tm_iload_n dX0_numberFirings_30 rfl rfl ?_
      replace h := chk_some h
      obtain ⟨b4, h⟩ := h
      refine tm_aald (k2 := 7) ⟨rfl, rfl, rfl, fun _ => rfl⟩ dX0_numberFirings_31 (inb_vp b4) ?_
      replace h := bnd_some h
      obtain ⟨r5, er5, h⟩ := h
      refine tm_nmQ er5 ?_
      refine tm_astore_n (lc' := [(2, tq 7 r5), (0, tr 0 0), (1, ti y1)]) dX0_numberFirings_32 rfl (by decide) rfl ?_
      refine tm_aload_n dX0_numberFirings_33 rfl rfl ?_
      refine tm_get kX0 rfl (j := 4) (by decide) wfX0_9 dX0_numberFirings_34 (v := tr 104 0) rfl ?_
      refine tm_iload_n dX0_numberFirings_37 rfl rfl ?_
      refine tm_aload_n dX0_numberFirings_38 rfl rfl ?_
      refine tm_get kX0 rfl (j := 6) (by decide) wfX0_67 dX0_numberFirings_39 (v := ti (mI M 0 0 6)) rfl ?_
      replace h := chk_some h
      obtain ⟨b6, h⟩ := h
      replace h := bnd_some h
      obtain ⟨M7, eM7, h⟩ := h
      refine tm_iast rfl dX0_numberFirings_42 (inb_vp b6) ?_
      refine tm_nmM eM7 ?_
      refine tm_iconst (v := 0) dX0_numberFirings_43 (by decide) ?_
      refine tm_istore_n (lc' := [(3, ti 0), (2, tq 7 r5), (0, tr 0 0), (1, ti y1)]) dX0_numberFirings_44 rfl (by decide) rfl ?_
      replace h := obind_some h
      obtain ⟨w24, hE25, h⟩ := h
      refine tm_lcp [0, 1, 2, 3] rfl ?_
      refine okX0_numberFirings_l45 y1 r5 FU 0 M7 _ hE25 (fun M26 e => ?_)
      subst e
      replace h := bnd_some h
      obtain ⟨x27, ex27, h⟩ := h
      refine tm_iinc (v := x27) (lc' := [(1, ti x27), (0, tr 0 0)]) dX0_numberFirings_145 rfl (by rw [ex27]; rfl) (by decide) rfl ?_
      refine tm_goto (tgt := 12) dX0_numberFirings_148 (by decide) ?_
      refine tm_lcp [0, 1] rfl ?_
      exact ih x27 M26 _ h J
set_option maxHeartbeats 4000000 in
set_option maxRecDepth 100000 in
theorem okX0_numberFirings {g : tG}  {M : tM} {Mz : tM} (h : fX0_numberFirings  M = some Mz) : TMet g yX0_numberFirings (Cond.code yX0_numberFirings cX0_numberFirings 4 (none) :: tgd) rmX0_numberFirings [tr 0 0] M none Mz 0 0 := by
  have key : TW g iX0_numberFirings rmX0_numberFirings 0 0 none Mz 0 0 0 [(0, tr 0 0)] [] M := by
    rw [fX0_numberFirings] at h
    refine tm_aload_n dX0_numberFirings_0 rfl rfl ?_
    refine tm_iconst (v := 0) dX0_numberFirings_1 (by decide) ?_
    replace h := bnd_some h
    obtain ⟨M1, eM1, h⟩ := h
    refine tm_put kX0 rfl (j := 6) (by decide) wfX0_67 rfl dX0_numberFirings_2 (fun _ => ⟨rfl, rfl⟩) (tPut_I 0 rfl) ?_
    refine tm_nmM eM1 ?_
    refine tm_aload_n dX0_numberFirings_5 rfl rfl ?_
    refine tm_iconst (v := 0) dX0_numberFirings_6 (by decide) ?_
    replace h := bnd_some h
    obtain ⟨M2, eM2, h⟩ := h
    refine tm_put kX0 rfl (j := 10) (by decide) wfX0_70 rfl dX0_numberFirings_7 (fun _ => ⟨rfl, rfl⟩) (tPut_I 0 rfl) ?_
    refine tm_nmM eM2 ?_
    refine tm_iconst (v := 0) dX0_numberFirings_10 (by decide) ?_
    refine tm_istore_n (lc' := [(1, ti 0), (0, tr 0 0)]) dX0_numberFirings_11 rfl (by decide) rfl ?_
    replace h := obind_some h
    obtain ⟨w28, hE29, h⟩ := h
    refine tm_lcp [0, 1] rfl ?_
    refine okX0_numberFirings_l12  FU 0 M2 _ hE29 (fun M30 e => ?_)
    subst e
    obtain rfl := Option.some.inj h
    exact tm_vret rfl dX0_numberFirings_151
  exact TMet.of (by decide) (Nat.le_of_ble_eq_true rfl) key
abbrev iX4_sumOf : tY := (RX4, cX4_sumOf, 6, some .int, "sumOf")
abbrev rmX4_sumOf : Room := { frames := 0, cells := 0, slots := 0, locals := 0 }
def fX4_sumOf_l10 (kz2 : Nat) (z2 : Nat) (z3 : Int32) (M : tM) : Nat → Int32 → Int32 → Option (Int32)
  | 0, _, _ => none
  | n + 1, y1, y4 =>
    if z3 ≤ y4 then (
    some y1
    ) else (
    chk (tIsI kz2) <|
    chk (inb y4 (mN M kz2 z2)) <|
    bnd (mI M kz2 z2 (y4.toNatClampNeg)) fun x7 =>
    bnd (y1 + x7) fun x8 =>
    bnd (y4 + 1) fun x9 =>
    fX4_sumOf_l10 kz2 z2 z3 M n x8 x9
    )
def fX4_sumOf (k1 : Nat) (a1 : Nat) (M : tM) : Option (Int32) :=
  chk (decide (tO k1 = none)) <|
  chk (!tRO k1) <|
  bnd (nI (mN M k1 a1)) fun x3 =>
  Option.bind (fX4_sumOf_l10 k1 a1 x3 M FU 0 0) fun x12 =>
  some x12
set_option maxHeartbeats 4000000 in
set_option maxRecDepth 100000 in
theorem okX4_sumOf_l10 {g : tG} (kz2 : Nat) (z2 : Nat) (z3 : Int32) (M : tM) {r : Option tV} {Mz : tM} : ∀ (n : Nat) (y1 : Int32) (y4 : Int32) (w : Int32), fX4_sumOf_l10 kz2 z2 z3 M n y1 y4 = some w → (∀ (w1 : Int32), w1 = w → TW g iX4_sumOf rmX4_sumOf 0 0 r Mz 0 0 33 [(1, ti w1)] [] M) → TW g iX4_sumOf rmX4_sumOf 0 0 r Mz 0 0 10 [(1, ti y1), (2, tr kz2 z2), (3, ti z3), (4, ti y4)] [] M := by
  intro n
  induction n with
  | zero => intro y1 y4 w h; cases h
  | succ n ih =>
    intro y1 y4 w h J
    rw [fX4_sumOf_l10] at h
    refine tm_iload dX4_sumOf_10 rfl ?_
    refine tm_iload_n dX4_sumOf_12 rfl rfl ?_
    refine tm_icmp_ge (tgt := 33) dX4_sumOf_13 (by decide) (fun c4 => ?_) (fun c4 => ?_)
    · rw [if_pos c4] at h
      obtain rfl := Option.some.inj h
      refine tm_lcp [1] rfl ?_
      exact J _ rfl
    · rw [if_neg c4] at h
      refine tm_aload_n dX4_sumOf_16 rfl rfl ?_
      refine tm_iload dX4_sumOf_17 rfl ?_
      replace h := chk_some h
      obtain ⟨b5, h⟩ := h
      replace h := chk_some h
      obtain ⟨b6, h⟩ := h
      refine tm_iald b5 dX4_sumOf_19 (inb_vp b6) ?_
      replace h := bnd_some h
      obtain ⟨x7, ex7, h⟩ := h
      refine tm_nmI ex7 ?_
      refine tm_istore (lc' := [(5, ti x7), (1, ti y1), (2, tr kz2 z2), (3, ti z3), (4, ti y4)]) dX4_sumOf_20 (by decide) rfl ?_
      refine tm_iload_n dX4_sumOf_22 rfl rfl ?_
      refine tm_iload dX4_sumOf_23 rfl ?_
      refine tm_iadd dX4_sumOf_25 ?_
      replace h := bnd_some h
      obtain ⟨x8, ex8, h⟩ := h
      refine tm_nmI ex8 ?_
      refine tm_istore_n (lc' := [(1, ti x8), (5, ti x7), (2, tr kz2 z2), (3, ti z3), (4, ti y4)]) dX4_sumOf_26 rfl (by decide) rfl ?_
      replace h := bnd_some h
      obtain ⟨x9, ex9, h⟩ := h
      refine tm_iinc (v := x9) (lc' := [(4, ti x9), (1, ti x8), (5, ti x7), (2, tr kz2 z2), (3, ti z3)]) dX4_sumOf_27 rfl (by rw [ex9]; rfl) (by decide) rfl ?_
      refine tm_goto (tgt := 10) dX4_sumOf_30 (by decide) ?_
      refine tm_lcp [1, 2, 3, 4] rfl ?_
      exact ih x8 x9 _ h J
set_option maxHeartbeats 4000000 in
set_option maxRecDepth 100000 in
theorem okX4_sumOf {g : tG} {k1 : Nat} {a1 : Nat} {M : tM} {v : Int32} (h : fX4_sumOf k1 a1 M = some v) : TMet g yX4_sumOf (Cond.code yX4_sumOf cX4_sumOf 6 (some .int) :: tgd) rmX4_sumOf [tr k1 a1] M (some (ti v)) M 0 0 := by
  have key : TW g iX4_sumOf rmX4_sumOf 0 0 (some (ti v)) M 0 0 0 [(0, tr k1 a1)] [] M := by
    rw [fX4_sumOf] at h
    refine tm_iconst (v := 0) dX4_sumOf_0 (by decide) ?_
    refine tm_istore_n (lc' := [(1, ti 0), (0, tr k1 a1)]) dX4_sumOf_1 rfl (by decide) rfl ?_
    refine tm_aload_n dX4_sumOf_2 rfl rfl ?_
    refine tm_astore_n (lc' := [(2, tr k1 a1), (1, ti 0), (0, tr k1 a1)]) dX4_sumOf_3 rfl (by decide) rfl ?_
    refine tm_aload_n dX4_sumOf_4 rfl rfl ?_
    replace h := chk_some h
    obtain ⟨b1, h⟩ := h
    replace h := chk_some h
    obtain ⟨b2, h⟩ := h
    refine tm_alen ⟨(of_decide_eq_true b1), (by simpa using b2)⟩ dX4_sumOf_5 ?_
    replace h := bnd_some h
    obtain ⟨x3, ex3, h⟩ := h
    refine tm_nmI ex3 ?_
    refine tm_istore_n (lc' := [(3, ti x3), (2, tr k1 a1), (1, ti 0), (0, tr k1 a1)]) dX4_sumOf_6 rfl (by decide) rfl ?_
    refine tm_iconst (v := 0) dX4_sumOf_7 (by decide) ?_
    refine tm_istore (lc' := [(4, ti 0), (3, ti x3), (2, tr k1 a1), (1, ti 0), (0, tr k1 a1)]) dX4_sumOf_8 (by decide) rfl ?_
    replace h := obind_some h
    obtain ⟨w10, hE11, h⟩ := h
    refine tm_lcp [1, 2, 3, 4] rfl ?_
    refine okX4_sumOf_l10 k1 a1 x3 M FU 0 0 _ hE11 (fun x12 e => ?_)
    subst e
    refine tm_iload_n dX4_sumOf_33 rfl rfl ?_
    obtain rfl := Option.some.inj h
    exact tm_iret rfl dX4_sumOf_34
  exact TMet.of (by decide) (Nat.le_of_ble_eq_true rfl) key
theorem wfX4_41 : Cond.fieldLink RX4 41 "EvenFlow$Line" "takes" "[I" ∈ tgd := (tgd_t 575 (by decide +kernel) (by decide +kernel))
abbrev iX4_takesIn : tY := (RX4, cX4_takesIn, 2, some .int, "takesIn")
abbrev rmX4_takesIn : Room := { frames := 0, cells := 0, slots := 0, locals := 0 }
def fX4_takesIn (i : Nat) (a1 : Int32) (M : tM) : Option (Int32) :=
  if a1 < 0 then (
  some 0
  ) else (
  if (nI (mN M 504 i)) ≤ a1 then (
  some 0
  ) else (
  chk (inb a1 (mN M 504 i)) <|
  some (mI M 504 i (a1.toNatClampNeg))
  )
  )
set_option maxHeartbeats 4000000 in
set_option maxRecDepth 100000 in
theorem okX4_takesIn {g : tG} {i : Nat} {a1 : Int32} {M : tM} {v : Int32} (h : fX4_takesIn i a1 M = some v) : TMet g yX4_takesIn (Cond.code yX4_takesIn cX4_takesIn 2 (some .int) :: tgd) rmX4_takesIn [tr 4 i, ti a1] M (some (ti v)) M 0 0 := by
  have key : TW g iX4_takesIn rmX4_takesIn 0 0 (some (ti v)) M 0 0 0 [(0, tr 4 i), (1, ti a1)] [] M := by
    rw [fX4_takesIn] at h
    refine tm_iload_n dX4_takesIn_0 rfl rfl ?_
    refine tm_if_lt (tgt := 22) dX4_takesIn_1 (by decide) (fun c1 => ?_) (fun c1 => ?_)
    · rw [if_pos c1] at h
      refine tm_iconst (v := 0) dX4_takesIn_22 (by decide) ?_
      obtain rfl := Option.some.inj h
      exact tm_iret rfl dX4_takesIn_23
    · rw [if_neg c1] at h
      refine tm_iload_n dX4_takesIn_4 rfl rfl ?_
      refine tm_aload_n dX4_takesIn_5 rfl rfl ?_
      refine tm_get kX4 rfl (j := 4) (by decide) wfX4_41 dX4_takesIn_6 (v := tr 504 i) rfl ?_
      refine tm_alen ⟨rfl, rfl⟩ dX4_takesIn_9 ?_
      refine tm_icmp_ge (tgt := 22) dX4_takesIn_10 (by decide) (fun c2 => ?_) (fun c2 => ?_)
      · rw [if_pos c2] at h
        refine tm_iconst (v := 0) dX4_takesIn_22 (by decide) ?_
        obtain rfl := Option.some.inj h
        exact tm_iret rfl dX4_takesIn_23
      · rw [if_neg c2] at h
        refine tm_aload_n dX4_takesIn_13 rfl rfl ?_
        refine tm_get kX4 rfl (j := 4) (by decide) wfX4_41 dX4_takesIn_14 (v := tr 504 i) rfl ?_
        refine tm_iload_n dX4_takesIn_17 rfl rfl ?_
        replace h := chk_some h
        obtain ⟨b3, h⟩ := h
        refine tm_iald rfl dX4_takesIn_18 (inb_vp b3) ?_
        refine tm_goto (tgt := 23) dX4_takesIn_19 (by decide) ?_
        obtain rfl := Option.some.inj h
        exact tm_iret rfl dX4_takesIn_23
  exact TMet.of (by decide) (Nat.le_of_ble_eq_true rfl) key
theorem wfX7_31 : Cond.fieldLink RX7 31 "EvenFlow$Part" "phases" "I" ∈ tgd := (tgd_t 416 (by decide +kernel) (by decide +kernel))
abbrev iX7_phaseBehind : tY := (RX7, cX7_phaseBehind, 2, some .int, "phaseBehind")
abbrev rmX7_phaseBehind : Room := { frames := 0, cells := 0, slots := 0, locals := 0 }
def fX7_phaseBehind (i : Nat) (a1 : Int32) (M : tM) : Option (Int32) :=
  if (mI M 7 i 3) ≤ (a1 + 1) then (
  some 0
  ) else (
  some (a1 + 1)
  )
set_option maxHeartbeats 4000000 in
set_option maxRecDepth 100000 in
theorem okX7_phaseBehind {g : tG} {i : Nat} {a1 : Int32} {M : tM} {v : Int32} (h : fX7_phaseBehind i a1 M = some v) : TMet g yX7_phaseBehind (Cond.code yX7_phaseBehind cX7_phaseBehind 2 (some .int) :: tgd) rmX7_phaseBehind [tr 7 i, ti a1] M (some (ti v)) M 0 0 := by
  have key : TW g iX7_phaseBehind rmX7_phaseBehind 0 0 (some (ti v)) M 0 0 0 [(0, tr 7 i), (1, ti a1)] [] M := by
    rw [fX7_phaseBehind] at h
    refine tm_iload_n dX7_phaseBehind_0 rfl rfl ?_
    refine tm_iconst (v := 1) dX7_phaseBehind_1 (by decide) ?_
    refine tm_iadd dX7_phaseBehind_2 ?_
    refine tm_aload_n dX7_phaseBehind_3 rfl rfl ?_
    refine tm_get kX7 rfl (j := 3) (by decide) wfX7_31 dX7_phaseBehind_4 (v := ti (mI M 7 i 3)) rfl ?_
    refine tm_icmp_ge (tgt := 16) dX7_phaseBehind_7 (by decide) (fun c1 => ?_) (fun c1 => ?_)
    · rw [if_pos c1] at h
      refine tm_iconst (v := 0) dX7_phaseBehind_16 (by decide) ?_
      obtain rfl := Option.some.inj h
      exact tm_iret rfl dX7_phaseBehind_17
    · rw [if_neg c1] at h
      refine tm_iload_n dX7_phaseBehind_10 rfl rfl ?_
      refine tm_iconst (v := 1) dX7_phaseBehind_11 (by decide) ?_
      refine tm_iadd dX7_phaseBehind_12 ?_
      refine tm_goto (tgt := 17) dX7_phaseBehind_13 (by decide) ?_
      obtain rfl := Option.some.inj h
      exact tm_iret rfl dX7_phaseBehind_17
  exact TMet.of (by decide) (Nat.le_of_ble_eq_true rfl) key
theorem wfX4_37 : Cond.fieldLink RX4 37 "EvenFlow$Line" "gives" "[I" ∈ tgd := (tgd_t 571 (by decide +kernel) (by decide +kernel))
abbrev iX4_givesIn : tY := (RX4, cX4_givesIn, 2, some .int, "givesIn")
abbrev rmX4_givesIn : Room := { frames := 0, cells := 0, slots := 0, locals := 0 }
def fX4_givesIn (i : Nat) (a1 : Int32) (M : tM) : Option (Int32) :=
  if a1 < 0 then (
  some 0
  ) else (
  if (nI (mN M 503 i)) ≤ a1 then (
  some 0
  ) else (
  chk (inb a1 (mN M 503 i)) <|
  some (mI M 503 i (a1.toNatClampNeg))
  )
  )
set_option maxHeartbeats 4000000 in
set_option maxRecDepth 100000 in
theorem okX4_givesIn {g : tG} {i : Nat} {a1 : Int32} {M : tM} {v : Int32} (h : fX4_givesIn i a1 M = some v) : TMet g yX4_givesIn (Cond.code yX4_givesIn cX4_givesIn 2 (some .int) :: tgd) rmX4_givesIn [tr 4 i, ti a1] M (some (ti v)) M 0 0 := by
  have key : TW g iX4_givesIn rmX4_givesIn 0 0 (some (ti v)) M 0 0 0 [(0, tr 4 i), (1, ti a1)] [] M := by
    rw [fX4_givesIn] at h
    refine tm_iload_n dX4_givesIn_0 rfl rfl ?_
    refine tm_if_lt (tgt := 22) dX4_givesIn_1 (by decide) (fun c1 => ?_) (fun c1 => ?_)
    · rw [if_pos c1] at h
      refine tm_iconst (v := 0) dX4_givesIn_22 (by decide) ?_
      obtain rfl := Option.some.inj h
      exact tm_iret rfl dX4_givesIn_23
    · rw [if_neg c1] at h
      refine tm_iload_n dX4_givesIn_4 rfl rfl ?_
      refine tm_aload_n dX4_givesIn_5 rfl rfl ?_
      refine tm_get kX4 rfl (j := 3) (by decide) wfX4_37 dX4_givesIn_6 (v := tr 503 i) rfl ?_
      refine tm_alen ⟨rfl, rfl⟩ dX4_givesIn_9 ?_
      refine tm_icmp_ge (tgt := 22) dX4_givesIn_10 (by decide) (fun c2 => ?_) (fun c2 => ?_)
      · rw [if_pos c2] at h
        refine tm_iconst (v := 0) dX4_givesIn_22 (by decide) ?_
        obtain rfl := Option.some.inj h
        exact tm_iret rfl dX4_givesIn_23
      · rw [if_neg c2] at h
        refine tm_aload_n dX4_givesIn_13 rfl rfl ?_
        refine tm_get kX4 rfl (j := 3) (by decide) wfX4_37 dX4_givesIn_14 (v := tr 503 i) rfl ?_
        refine tm_iload_n dX4_givesIn_17 rfl rfl ?_
        replace h := chk_some h
        obtain ⟨b3, h⟩ := h
        refine tm_iald rfl dX4_givesIn_18 (inb_vp b3) ?_
        refine tm_goto (tgt := 23) dX4_givesIn_19 (by decide) ?_
        obtain rfl := Option.some.inj h
        exact tm_iret rfl dX4_givesIn_23
  exact TMet.of (by decide) (Nat.le_of_ble_eq_true rfl) key
theorem wcX0_108 : tCB RX0 108 yJ9_max_7cf53 cJ9_max_7cf53 2 (some .int) 2 ∧ Cond.methodLink RX0 108 yJ9_max_7cf53 ∈ tgd ∧ Cond.static yJ9_max_7cf53 ∈ tgd := ⟨⟨(tgd_t 399 (by decide +kernel) (by decide +kernel)), (tgd_t 12 (by decide +kernel) (by decide +kernel)), by decide, by decide +kernel⟩, (tgd_t 1028 (by decide +kernel) (by decide +kernel)), (tgd_t 398 (by decide +kernel) (by decide +kernel))⟩
theorem wcX0_121 : tCB RX0 121 yX7_phaseBehind cX7_phaseBehind 2 (some .int) 1 ∧ Cond.methodLink RX0 121 yX7_phaseBehind ∈ tgd ∧ Cond.instanceMethod yX7_phaseBehind ∈ tgd ∧ Cond.selects RX7 yX7_phaseBehind yX7_phaseBehind ∈ tgd := ⟨⟨(tgd_t 795 (by decide +kernel) (by decide +kernel)), (tgd_t 11 (by decide +kernel) (by decide +kernel)), by decide, by decide +kernel⟩, (tgd_t 1030 (by decide +kernel) (by decide +kernel)), (tgd_t 793 (by decide +kernel) (by decide +kernel)), (tgd_t 794 (by decide +kernel) (by decide +kernel))⟩
theorem wcX0_137 : tCB RX0 137 yX4_givesIn cX4_givesIn 2 (some .int) 1 ∧ Cond.methodLink RX0 137 yX4_givesIn ∈ tgd ∧ Cond.instanceMethod yX4_givesIn ∈ tgd ∧ Cond.selects RX4 yX4_givesIn yX4_givesIn ∈ tgd := ⟨⟨(tgd_t 693 (by decide +kernel) (by decide +kernel)), (tgd_t 15 (by decide +kernel) (by decide +kernel)), by decide, by decide +kernel⟩, (tgd_t 1038 (by decide +kernel) (by decide +kernel)), (tgd_t 691 (by decide +kernel) (by decide +kernel)), (tgd_t 692 (by decide +kernel) (by decide +kernel))⟩
theorem wfX0_101 : Cond.fieldLink RX0 101 "EvenFlow$Line" "from" "LEvenFlow$Part;" ∈ tgd := (tgd_t 560 (by decide +kernel) (by decide +kernel))
abbrev iX0_firingThatReaches : tY := (RX0, cX0_firingThatReaches, 6, some .int, "firingThatReaches")
abbrev rmX0_firingThatReaches : Room := { frames := 1, cells := 0, slots := 0, locals := 21 }
def fX0_firingThatReaches_l8 (z1 : Option Nat) (z2 : Int32) (M : tM) : Nat → Int32 → Int32 → Int32 → Option ((Int32) ⊕ (Unit))
  | 0, _, _, _ => none
  | n + 1, y3, y4, y5 =>
    Option.bind z1 fun i1 =>
    bnd (mR M 4 i1 1) fun r2 =>
    Option.bind r2 fun i3 =>
    if (mI M 7 i3 6) ≤ y5 then (
    some (Sum.inr (()))
    ) else (
    (fX4_givesIn i1 y4 M).bind fun x5 =>
    bnd (y3 + x5) fun x7 =>
    bnd (mR M 4 i1 1) fun r8 =>
    Option.bind r8 fun i9 =>
    (fX7_phaseBehind i9 y4 M).bind fun x10 =>
    if x7 < z2 then (
    bnd (y5 + 1) fun x13 =>
    fX0_firingThatReaches_l8 z1 z2 M n x7 x10 x13
    ) else (
    some (Sum.inl y5)
    )
    )
def fX0_firingThatReaches (a1 : Option Nat) (a2 : Int32) (M : tM) : Option (Int32) :=
  Option.bind (fX0_firingThatReaches_l8 a1 a2 M FU 0 0 0) fun w14 => match w14 with
  | Sum.inl q22 => some q22
  | Sum.inr u16 =>
    Option.bind a1 fun i17 =>
    bnd (mR M 4 i17 1) fun r18 =>
    Option.bind r18 fun i19 =>
    (fJ9_max_7cf53 ((mI M 7 i19 6) - 1) 0 M).bind fun x20 =>
    some x20
set_option maxHeartbeats 4000000 in
set_option maxRecDepth 100000 in
theorem okX0_firingThatReaches_l8 {g : tG} (z1 : Option Nat) (z2 : Int32) (M : tM) {r : Option tV} {Mz : tM} : ∀ (n : Nat) (y3 : Int32) (y4 : Int32) (y5 : Int32) (w : (Int32) ⊕ (Unit)), fX0_firingThatReaches_l8 z1 z2 M n y3 y4 y5 = some w → (∀ (uw : Unit), Sum.inr uw = w → TW g iX0_firingThatReaches rmX0_firingThatReaches 0 0 r Mz 0 0 54 [(1, tq 4 z1)] [] M) → (∀ (v : Int32), Sum.inl v = w → r = (some (ti v)) ∧ Mz = M) → TW g iX0_firingThatReaches rmX0_firingThatReaches 0 0 r Mz 0 0 8 [(1, tq 4 z1), (2, ti z2), (3, ti y3), (4, ti y4), (5, ti y5)] [] M := by
  intro n
  induction n with
  | zero => intro y3 y4 y5 w h; cases h
  | succ n ih =>
    intro y3 y4 y5 w h J JR
    rw [fX0_firingThatReaches_l8] at h
    refine tm_iload dX0_firingThatReaches_8 rfl ?_
    refine tm_aload_n dX0_firingThatReaches_10 rfl rfl ?_
    replace h := obind_some h
    obtain ⟨i1, ei1, h⟩ := h
    subst ei1
    refine tm_get kX4 rfl (j := 1) (by decide) wfX0_101 dX0_firingThatReaches_11 (v := tq 7 (mR M 4 i1 1)) rfl ?_
    replace h := bnd_some h
    obtain ⟨r2, er2, h⟩ := h
    refine tm_nmQ er2 ?_
    replace h := obind_some h
    obtain ⟨i3, ei3, h⟩ := h
    subst ei3
    refine tm_get kX7 rfl (j := 6) (by decide) wfX0_80 dX0_firingThatReaches_14 (v := ti (mI M 7 i3 6)) rfl ?_
    refine tm_icmp_ge (tgt := 54) dX0_firingThatReaches_17 (by decide) (fun c4 => ?_) (fun c4 => ?_)
    · rw [if_pos c4] at h
      obtain rfl := Option.some.inj h
      refine tm_lcp [1] rfl ?_
      exact J _ rfl
    · rw [if_neg c4] at h
      refine tm_iload_n dX0_firingThatReaches_20 rfl rfl ?_
      refine tm_aload_n dX0_firingThatReaches_21 rfl rfl ?_
      refine tm_iload dX0_firingThatReaches_22 rfl ?_
      replace h := obind_some h
      obtain ⟨x5, hc6, h⟩ := h
      refine tm_callV kX4 rfl (avs := [ti y4]) (st := [ti y3]) (okX4_givesIn hc6) wcX0_137.1 wcX0_137.2.1 wcX0_137.2.2.1 wcX0_137.2.2.2 ⟨rfl, rfl, Nat.le_of_ble_eq_true rfl, Nat.le_of_ble_eq_true rfl⟩ rfl (Nat.le_of_ble_eq_true rfl) ⟨Nat.zero_le _, Nat.zero_le _⟩ dX0_firingThatReaches_24 ?_
      refine tm_iadd dX0_firingThatReaches_27 ?_
      replace h := bnd_some h
      obtain ⟨x7, ex7, h⟩ := h
      refine tm_nmI ex7 ?_
      refine tm_istore_n (lc' := [(3, ti x7), (1, tr 4 i1), (2, ti z2), (4, ti y4), (5, ti y5)]) dX0_firingThatReaches_28 rfl (by decide) rfl ?_
      refine tm_aload_n dX0_firingThatReaches_29 rfl rfl ?_
      refine tm_get kX4 rfl (j := 1) (by decide) wfX0_101 dX0_firingThatReaches_30 (v := tq 7 (mR M 4 i1 1)) rfl ?_
      replace h := bnd_some h
      obtain ⟨r8, er8, h⟩ := h
      refine tm_nmQ er8 ?_
      refine tm_iload dX0_firingThatReaches_33 rfl ?_
      replace h := obind_some h
      obtain ⟨i9, ei9, h⟩ := h
      subst ei9
      replace h := obind_some h
      obtain ⟨x10, hc11, h⟩ := h
      refine tm_callV kX7 rfl (avs := [ti y4]) (st := []) (okX7_phaseBehind hc11) wcX0_121.1 wcX0_121.2.1 wcX0_121.2.2.1 wcX0_121.2.2.2 ⟨rfl, rfl, Nat.le_of_ble_eq_true rfl, Nat.le_of_ble_eq_true rfl⟩ rfl (Nat.le_of_ble_eq_true rfl) ⟨Nat.zero_le _, Nat.zero_le _⟩ dX0_firingThatReaches_35 ?_
      refine tm_istore (lc' := [(4, ti x10), (3, ti x7), (1, tr 4 i1), (2, ti z2), (5, ti y5)]) dX0_firingThatReaches_38 (by decide) rfl ?_
      refine tm_iload_n dX0_firingThatReaches_40 rfl rfl ?_
      refine tm_iload_n dX0_firingThatReaches_41 rfl rfl ?_
      refine tm_icmp_lt (tgt := 48) dX0_firingThatReaches_42 (by decide) (fun c12 => ?_) (fun c12 => ?_)
      · rw [if_pos c12] at h
        replace h := bnd_some h
        obtain ⟨x13, ex13, h⟩ := h
        refine tm_iinc (v := x13) (lc' := [(5, ti x13), (4, ti x10), (3, ti x7), (1, tr 4 i1), (2, ti z2)]) dX0_firingThatReaches_48 rfl (by rw [ex13]; rfl) (by decide) rfl ?_
        refine tm_goto (tgt := 8) dX0_firingThatReaches_51 (by decide) ?_
        refine tm_lcp [1, 2, 3, 4, 5] rfl ?_
        exact ih x7 x10 x13 _ h J JR
      · rw [if_neg c12] at h
        refine tm_iload dX0_firingThatReaches_45 rfl ?_
        obtain rfl := Option.some.inj h
        obtain ⟨rfl, rfl⟩ := JR _ rfl
        exact tm_iret rfl dX0_firingThatReaches_47
set_option maxHeartbeats 4000000 in
set_option maxRecDepth 100000 in
theorem okX0_firingThatReaches {g : tG} {a1 : Option Nat} {a2 : Int32} {M : tM} {v : Int32} (h : fX0_firingThatReaches a1 a2 M = some v) : TMet g yX0_firingThatReaches (Cond.code yX0_firingThatReaches cX0_firingThatReaches 6 (some .int) :: tgd) rmX0_firingThatReaches [tr 0 0, tq 4 a1, ti a2] M (some (ti v)) M 0 0 := by
  have key : TW g iX0_firingThatReaches rmX0_firingThatReaches 0 0 (some (ti v)) M 0 0 0 [(0, tr 0 0), (1, tq 4 a1), (2, ti a2)] [] M := by
    rw [fX0_firingThatReaches] at h
    refine tm_iconst (v := 0) dX0_firingThatReaches_0 (by decide) ?_
    refine tm_istore_n (lc' := [(3, ti 0), (0, tr 0 0), (1, tq 4 a1), (2, ti a2)]) dX0_firingThatReaches_1 rfl (by decide) rfl ?_
    refine tm_iconst (v := 0) dX0_firingThatReaches_2 (by decide) ?_
    refine tm_istore (lc' := [(4, ti 0), (3, ti 0), (0, tr 0 0), (1, tq 4 a1), (2, ti a2)]) dX0_firingThatReaches_3 (by decide) rfl ?_
    refine tm_iconst (v := 0) dX0_firingThatReaches_5 (by decide) ?_
    refine tm_istore (lc' := [(5, ti 0), (4, ti 0), (3, ti 0), (0, tr 0 0), (1, tq 4 a1), (2, ti a2)]) dX0_firingThatReaches_6 (by decide) rfl ?_
    replace h := obind_some h
    obtain ⟨w14, hE15, h⟩ := h
    refine tm_lcp [1, 2, 3, 4, 5] rfl ?_
    refine okX0_firingThatReaches_l8 a1 a2 M FU 0 0 0 _ hE15 (fun u16 e => ?_) (fun v23 e => ?_)
    · subst e
      dsimp only at h
      refine tm_aload_n dX0_firingThatReaches_54 rfl rfl ?_
      replace h := obind_some h
      obtain ⟨i17, ei17, h⟩ := h
      subst ei17
      refine tm_get kX4 rfl (j := 1) (by decide) wfX0_101 dX0_firingThatReaches_55 (v := tq 7 (mR M 4 i17 1)) rfl ?_
      replace h := bnd_some h
      obtain ⟨r18, er18, h⟩ := h
      refine tm_nmQ er18 ?_
      replace h := obind_some h
      obtain ⟨i19, ei19, h⟩ := h
      subst ei19
      refine tm_get kX7 rfl (j := 6) (by decide) wfX0_80 dX0_firingThatReaches_58 (v := ti (mI M 7 i19 6)) rfl ?_
      refine tm_iconst (v := 1) dX0_firingThatReaches_61 (by decide) ?_
      refine tm_isub dX0_firingThatReaches_62 ?_
      refine tm_iconst (v := 0) dX0_firingThatReaches_63 (by decide) ?_
      replace h := obind_some h
      obtain ⟨x20, hc21, h⟩ := h
      refine tm_callS (avs := [ti ((mI M 7 i19 6) - 1), ti 0]) (st := []) (okJ9_max_7cf53 hc21) wcX0_108.1 wcX0_108.2.1 wcX0_108.2.2 ⟨rfl, rfl, Nat.le_of_ble_eq_true rfl, Nat.le_of_ble_eq_true rfl⟩ rfl (Nat.le_of_ble_eq_true rfl) ⟨Nat.zero_le _, Nat.zero_le _⟩ dX0_firingThatReaches_64 ?_
      obtain rfl := Option.some.inj h
      exact tm_iret rfl dX0_firingThatReaches_67
    · subst e
      obtain rfl := Option.some.inj h
      exact ⟨rfl, rfl⟩
  exact TMet.of (by decide) (Nat.le_of_ble_eq_true rfl) key
theorem wcX0_97 : tCB RX0 97 yX4_sumOf cX4_sumOf 6 (some .int) 1 ∧ Cond.methodLink RX0 97 yX4_sumOf ∈ tgd ∧ Cond.static yX4_sumOf ∈ tgd := ⟨⟨(tgd_t 720 (by decide +kernel) (by decide +kernel)), (tgd_t 15 (by decide +kernel) (by decide +kernel)), by decide, by decide +kernel⟩, (tgd_t 1027 (by decide +kernel) (by decide +kernel)), (tgd_t 719 (by decide +kernel) (by decide +kernel))⟩
theorem wcX0_117 : tCB RX0 117 yX4_takesIn cX4_takesIn 2 (some .int) 1 ∧ Cond.methodLink RX0 117 yX4_takesIn ∈ tgd ∧ Cond.instanceMethod yX4_takesIn ∈ tgd ∧ Cond.selects RX4 yX4_takesIn yX4_takesIn ∈ tgd := ⟨⟨(tgd_t 697 (by decide +kernel) (by decide +kernel)), (tgd_t 15 (by decide +kernel) (by decide +kernel)), by decide, by decide +kernel⟩, (tgd_t 1029 (by decide +kernel) (by decide +kernel)), (tgd_t 695 (by decide +kernel) (by decide +kernel)), (tgd_t 696 (by decide +kernel) (by decide +kernel))⟩
theorem wcX0_127 : tCB RX0 127 yJ9_floorDiv_7cf53 cJ9_floorDiv_7cf53 3 (some .int) 2 ∧ Cond.methodLink RX0 127 yJ9_floorDiv_7cf53 ∈ tgd ∧ Cond.static yJ9_floorDiv_7cf53 ∈ tgd := ⟨⟨(tgd_t 1033 (by decide +kernel) (by decide +kernel)), (tgd_t 12 (by decide +kernel) (by decide +kernel)), by decide, by decide +kernel⟩, (tgd_t 1031 (by decide +kernel) (by decide +kernel)), (tgd_t 1032 (by decide +kernel) (by decide +kernel))⟩
theorem wcX0_130 : tCB RX0 130 yX0_firingThatReaches cX0_firingThatReaches 6 (some .int) 2 ∧ Cond.methodLink RX0 130 yX0_firingThatReaches ∈ tgd ∧ Cond.instanceMethod yX0_firingThatReaches ∈ tgd ∧ Cond.selects RX0 yX0_firingThatReaches yX0_firingThatReaches ∈ tgd := ⟨⟨(tgd_t 1037 (by decide +kernel) (by decide +kernel)), (tgd_t 8 (by decide +kernel) (by decide +kernel)), by decide, by decide +kernel⟩, (tgd_t 1034 (by decide +kernel) (by decide +kernel)), (tgd_t 1036 (by decide +kernel) (by decide +kernel)), (tgd_p 37 (by decide +kernel) (by decide +kernel))⟩
theorem wfX0_92 : Cond.fieldLink RX0 92 "EvenFlow$Line" "gives" "[I" ∈ tgd := (tgd_t 573 (by decide +kernel) (by decide +kernel))
theorem wfX0_105 : Cond.fieldLink RX0 105 "EvenFlow$Part" "phases" "I" ∈ tgd := (tgd_t 418 (by decide +kernel) (by decide +kernel))
theorem wfX0_114 : Cond.fieldLink RX0 114 "EvenFlow$Line" "to" "LEvenFlow$Part;" ∈ tgd := (tgd_t 567 (by decide +kernel) (by decide +kernel))
theorem wfX0_124 : Cond.fieldLink RX0 124 "EvenFlow$Line" "firstCount" "I" ∈ tgd := (tgd_t 583 (by decide +kernel) (by decide +kernel))
theorem wfX0_134 : Cond.fieldLink RX0 134 "EvenFlow$Part" "number" "I" ∈ tgd := (tgd_t 406 (by decide +kernel) (by decide +kernel))
abbrev iX0_addWaitsOn : tY := (RX0, cX0_addWaitsOn, 10, none, "addWaitsOn")
abbrev rmX0_addWaitsOn : Room := { frames := 2, cells := 0, slots := 0, locals := 46 }
def fX0_addWaitsOn_l41 (z1 : Nat) (z2 : Int32) : Nat → Int32 → Int32 → Int32 → tM → Option (tM)
  | 0, _, _, _, _ => none
  | n + 1, y3, y4, y5, M =>
    bnd (mR M 4 z1 2) fun r13 =>
    Option.bind r13 fun i14 =>
    if (mI M 7 i14 6) ≤ y5 then (
    some M
    ) else (
    (fX4_takesIn z1 y4 M).bind fun x16 =>
    bnd (mR M 4 z1 2) fun r18 =>
    Option.bind r18 fun i19 =>
    (fX7_phaseBehind i19 y4 M).bind fun x20 =>
    bnd (y3 + x16) fun x22 =>
    Option.bind (α := tM) (
    if x16 ≤ 0 then (
    some M
    ) else (
    bnd (x22 - (mI M 4 z1 6)) fun x24 =>
    (fJ9_floorDiv_7cf53 (x24 - 1) z2 M).bind fun x25 =>
    (fX0_firingThatReaches (some z1) (x24 - (x25 * z2)) M).bind fun x27 =>
    bnd (mR M 4 z1 2) fun r29 =>
    Option.bind r29 fun i30 =>
    chk (inb (mI M 7 i30 0) (mN M 104 0)) <|
    bnd (mR M 4 z1 1) fun r32 =>
    Option.bind r32 fun i33 =>
    chk (inb (mI M 7 i33 0) (mN M 104 0)) <|
    (fX0_addWait ((mI M 104 0 ((mI M 7 i30 0).toNatClampNeg)) + y5) ((mI M 104 0 ((mI M 7 i33 0).toNatClampNeg)) + x27) (-x25) M).bind fun M36 =>
    some M36
    )
    ) fun M24 =>
    bnd (y5 + 1) fun x37 =>
    fX0_addWaitsOn_l41 z1 z2 n x22 x20 x37 M24
    )
def fX0_addWaitsOn (a1 : Option Nat) (M : tM) : Option (tM) :=
  Option.bind a1 fun i1 =>
  (fX4_sumOf 503 i1 M).bind fun x2 =>
  bnd (mR M 4 i1 1) fun r4 =>
  Option.bind r4 fun i5 =>
  bnd (mR M 4 i1 1) fun r6 =>
  Option.bind r6 fun i7 =>
  (fJ9_max_7cf53 (mI M 7 i7 3) 1 M).bind fun x8 =>
  chk (nz4 x8) <|
  bnd (x2 * ((mI M 7 i5 6) / x8)) fun x11 =>
  if 0 < x11 then (
  Option.bind (fX0_addWaitsOn_l41 i1 x11 FU 0 0 0 M) fun M40 =>
  some M40
  ) else (
  some M
  )
set_option maxHeartbeats 4000000 in
set_option maxRecDepth 100000 in
theorem okX0_addWaitsOn_l41 {g : tG} (z1 : Nat) (z2 : Int32) {r : Option tV} {Mz : tM} : ∀ (n : Nat) (y3 : Int32) (y4 : Int32) (y5 : Int32) (M : tM) (w : tM), fX0_addWaitsOn_l41 z1 z2 n y3 y4 y5 M = some w → (∀ (Mw : tM), Mw = w → TW g iX0_addWaitsOn rmX0_addWaitsOn 0 0 r Mz 0 0 157 [] [] Mw) → TW g iX0_addWaitsOn rmX0_addWaitsOn 0 0 r Mz 0 0 41 [(0, tr 0 0), (1, tr 4 z1), (2, ti z2), (3, ti y3), (4, ti y4), (5, ti y5)] [] M := by
  intro n
  induction n with
  | zero => intro y3 y4 y5 M w h; cases h
  | succ n ih =>
    intro y3 y4 y5 M w h J
    rw [fX0_addWaitsOn_l41] at h
    refine tm_iload dX0_addWaitsOn_41 rfl ?_
    refine tm_aload_n dX0_addWaitsOn_43 rfl rfl ?_
    refine tm_get kX4 rfl (j := 2) (by decide) wfX0_114 dX0_addWaitsOn_44 (v := tq 7 (mR M 4 z1 2)) rfl ?_
    replace h := bnd_some h
    obtain ⟨r13, er13, h⟩ := h
    refine tm_nmQ er13 ?_
    replace h := obind_some h
    obtain ⟨i14, ei14, h⟩ := h
    subst ei14
    refine tm_get kX7 rfl (j := 6) (by decide) wfX0_80 dX0_addWaitsOn_47 (v := ti (mI M 7 i14 6)) rfl ?_
    refine tm_icmp_ge (tgt := 157) dX0_addWaitsOn_50 (by decide) (fun c15 => ?_) (fun c15 => ?_)
    · rw [if_pos c15] at h
      obtain rfl := Option.some.inj h
      refine tm_lcp [] rfl ?_
      exact J _ rfl
    · rw [if_neg c15] at h
      refine tm_aload_n dX0_addWaitsOn_53 rfl rfl ?_
      refine tm_iload dX0_addWaitsOn_54 rfl ?_
      replace h := obind_some h
      obtain ⟨x16, hc17, h⟩ := h
      refine tm_callV kX4 rfl (avs := [ti y4]) (st := []) (okX4_takesIn hc17) wcX0_117.1 wcX0_117.2.1 wcX0_117.2.2.1 wcX0_117.2.2.2 ⟨rfl, rfl, Nat.le_of_ble_eq_true rfl, Nat.le_of_ble_eq_true rfl⟩ rfl (Nat.le_of_ble_eq_true rfl) ⟨Nat.zero_le _, Nat.zero_le _⟩ dX0_addWaitsOn_56 ?_
      refine tm_istore (lc' := [(6, ti x16), (0, tr 0 0), (1, tr 4 z1), (2, ti z2), (3, ti y3), (4, ti y4), (5, ti y5)]) dX0_addWaitsOn_59 (by decide) rfl ?_
      refine tm_aload_n dX0_addWaitsOn_61 rfl rfl ?_
      refine tm_get kX4 rfl (j := 2) (by decide) wfX0_114 dX0_addWaitsOn_62 (v := tq 7 (mR M 4 z1 2)) rfl ?_
      replace h := bnd_some h
      obtain ⟨r18, er18, h⟩ := h
      refine tm_nmQ er18 ?_
      refine tm_iload dX0_addWaitsOn_65 rfl ?_
      replace h := obind_some h
      obtain ⟨i19, ei19, h⟩ := h
      subst ei19
      replace h := obind_some h
      obtain ⟨x20, hc21, h⟩ := h
      refine tm_callV kX7 rfl (avs := [ti y4]) (st := []) (okX7_phaseBehind hc21) wcX0_121.1 wcX0_121.2.1 wcX0_121.2.2.1 wcX0_121.2.2.2 ⟨rfl, rfl, Nat.le_of_ble_eq_true rfl, Nat.le_of_ble_eq_true rfl⟩ rfl (Nat.le_of_ble_eq_true rfl) ⟨Nat.zero_le _, Nat.zero_le _⟩ dX0_addWaitsOn_67 ?_
      refine tm_istore (lc' := [(4, ti x20), (6, ti x16), (0, tr 0 0), (1, tr 4 z1), (2, ti z2), (3, ti y3), (5, ti y5)]) dX0_addWaitsOn_70 (by decide) rfl ?_
      refine tm_iload_n dX0_addWaitsOn_72 rfl rfl ?_
      refine tm_iload dX0_addWaitsOn_73 rfl ?_
      refine tm_iadd dX0_addWaitsOn_75 ?_
      replace h := bnd_some h
      obtain ⟨x22, ex22, h⟩ := h
      refine tm_nmI ex22 ?_
      refine tm_istore_n (lc' := [(3, ti x22), (4, ti x20), (6, ti x16), (0, tr 0 0), (1, tr 4 z1), (2, ti z2), (5, ti y5)]) dX0_addWaitsOn_76 rfl (by decide) rfl ?_
      refine tm_iload dX0_addWaitsOn_77 rfl ?_
      replace h := obind_some h
      obtain ⟨M24, hE25, h⟩ := h
      have J26 : TW g iX0_addWaitsOn rmX0_addWaitsOn 0 0 r Mz 0 0 151 [(0, tr 0 0), (1, tr 4 z1), (2, ti z2), (3, ti x22), (4, ti x20), (5, ti y5)] [] M24 := by
        replace h := bnd_some h
        obtain ⟨x37, ex37, h⟩ := h
        refine tm_iinc (v := x37) (lc' := [(5, ti x37), (0, tr 0 0), (1, tr 4 z1), (2, ti z2), (3, ti x22), (4, ti x20)]) dX0_addWaitsOn_151 rfl (by rw [ex37]; rfl) (by decide) rfl ?_
        refine tm_goto (tgt := 41) dX0_addWaitsOn_154 (by decide) ?_
        refine tm_lcp [0, 1, 2, 3, 4, 5] rfl ?_
        exact ih x22 x20 x37 M24 _ h J
      refine tm_if_le (tgt := 151) dX0_addWaitsOn_79 (by decide) (fun c23 => ?_) (fun c23 => ?_)
      · rw [if_pos c23] at hE25
        obtain rfl := Option.some.inj hE25
        refine tm_lcp [0, 1, 2, 3, 4, 5] rfl ?_
        exact J26
      · rw [if_neg c23] at hE25
        refine tm_iload_n dX0_addWaitsOn_82 rfl rfl ?_
        refine tm_aload_n dX0_addWaitsOn_83 rfl rfl ?_
        refine tm_get kX4 rfl (j := 6) (by decide) wfX0_124 dX0_addWaitsOn_84 (v := ti (mI M 4 z1 6)) rfl ?_
        refine tm_isub dX0_addWaitsOn_87 ?_
        replace hE25 := bnd_some hE25
        obtain ⟨x24, ex24, hE25⟩ := hE25
        refine tm_nmI ex24 ?_
        refine tm_istore (lc' := [(7, ti x24), (3, ti x22), (4, ti x20), (6, ti x16), (0, tr 0 0), (1, tr 4 z1), (2, ti z2), (5, ti y5)]) dX0_addWaitsOn_88 (by decide) rfl ?_
        refine tm_iload dX0_addWaitsOn_90 rfl ?_
        refine tm_iconst (v := 1) dX0_addWaitsOn_92 (by decide) ?_
        refine tm_isub dX0_addWaitsOn_93 ?_
        refine tm_iload_n dX0_addWaitsOn_94 rfl rfl ?_
        replace hE25 := obind_some hE25
        obtain ⟨x25, hc26, hE25⟩ := hE25
        refine tm_callS (avs := [ti (x24 - 1), ti z2]) (st := []) (okJ9_floorDiv_7cf53 hc26) wcX0_127.1 wcX0_127.2.1 wcX0_127.2.2 ⟨rfl, rfl, Nat.le_of_ble_eq_true rfl, Nat.le_of_ble_eq_true rfl⟩ rfl (Nat.le_of_ble_eq_true rfl) ⟨Nat.zero_le _, Nat.zero_le _⟩ dX0_addWaitsOn_95 ?_
        refine tm_istore (lc' := [(8, ti x25), (7, ti x24), (3, ti x22), (4, ti x20), (6, ti x16), (0, tr 0 0), (1, tr 4 z1), (2, ti z2), (5, ti y5)]) dX0_addWaitsOn_98 (by decide) rfl ?_
        refine tm_aload_n dX0_addWaitsOn_100 rfl rfl ?_
        refine tm_aload_n dX0_addWaitsOn_101 rfl rfl ?_
        refine tm_iload dX0_addWaitsOn_102 rfl ?_
        refine tm_iload dX0_addWaitsOn_104 rfl ?_
        refine tm_iload_n dX0_addWaitsOn_106 rfl rfl ?_
        refine tm_imul dX0_addWaitsOn_107 ?_
        refine tm_isub dX0_addWaitsOn_108 ?_
        replace hE25 := obind_some hE25
        obtain ⟨x27, hc28, hE25⟩ := hE25
        refine tm_callV kX0 rfl (avs := [tr 4 z1, ti (x24 - (x25 * z2))]) (st := []) (okX0_firingThatReaches hc28) wcX0_130.1 wcX0_130.2.1 wcX0_130.2.2.1 wcX0_130.2.2.2 ⟨rfl, rfl, Nat.le_of_ble_eq_true rfl, Nat.le_of_ble_eq_true rfl⟩ rfl (Nat.le_of_ble_eq_true rfl) ⟨Nat.zero_le _, Nat.zero_le _⟩ dX0_addWaitsOn_109 ?_
        refine tm_istore (lc' := [(9, ti x27), (8, ti x25), (7, ti x24), (3, ti x22), (4, ti x20), (6, ti x16), (0, tr 0 0), (1, tr 4 z1), (2, ti z2), (5, ti y5)]) dX0_addWaitsOn_112 (by decide) rfl ?_
        refine tm_aload_n dX0_addWaitsOn_114 rfl rfl ?_
        refine tm_aload_n dX0_addWaitsOn_115 rfl rfl ?_
        refine tm_get kX0 rfl (j := 4) (by decide) wfX0_9 dX0_addWaitsOn_116 (v := tr 104 0) rfl ?_
        refine tm_aload_n dX0_addWaitsOn_119 rfl rfl ?_
        refine tm_get kX4 rfl (j := 2) (by decide) wfX0_114 dX0_addWaitsOn_120 (v := tq 7 (mR M 4 z1 2)) rfl ?_
        replace hE25 := bnd_some hE25
        obtain ⟨r29, er29, hE25⟩ := hE25
        refine tm_nmQ er29 ?_
        replace hE25 := obind_some hE25
        obtain ⟨i30, ei30, hE25⟩ := hE25
        subst ei30
        refine tm_get kX7 rfl (j := 0) (by decide) wfX0_134 dX0_addWaitsOn_123 (v := ti (mI M 7 i30 0)) rfl ?_
        replace hE25 := chk_some hE25
        obtain ⟨b31, hE25⟩ := hE25
        refine tm_iald rfl dX0_addWaitsOn_126 (inb_vp b31) ?_
        refine tm_iload dX0_addWaitsOn_127 rfl ?_
        refine tm_iadd dX0_addWaitsOn_129 ?_
        refine tm_aload_n dX0_addWaitsOn_130 rfl rfl ?_
        refine tm_get kX0 rfl (j := 4) (by decide) wfX0_9 dX0_addWaitsOn_131 (v := tr 104 0) rfl ?_
        refine tm_aload_n dX0_addWaitsOn_134 rfl rfl ?_
        refine tm_get kX4 rfl (j := 1) (by decide) wfX0_101 dX0_addWaitsOn_135 (v := tq 7 (mR M 4 z1 1)) rfl ?_
        replace hE25 := bnd_some hE25
        obtain ⟨r32, er32, hE25⟩ := hE25
        refine tm_nmQ er32 ?_
        replace hE25 := obind_some hE25
        obtain ⟨i33, ei33, hE25⟩ := hE25
        subst ei33
        refine tm_get kX7 rfl (j := 0) (by decide) wfX0_134 dX0_addWaitsOn_138 (v := ti (mI M 7 i33 0)) rfl ?_
        replace hE25 := chk_some hE25
        obtain ⟨b34, hE25⟩ := hE25
        refine tm_iald rfl dX0_addWaitsOn_141 (inb_vp b34) ?_
        refine tm_iload dX0_addWaitsOn_142 rfl ?_
        refine tm_iadd dX0_addWaitsOn_144 ?_
        refine tm_iload dX0_addWaitsOn_145 rfl ?_
        refine tm_ineg dX0_addWaitsOn_147 ?_
        replace hE25 := obind_some hE25
        obtain ⟨M36, hc35, hE25⟩ := hE25
        refine tm_callV kX0 rfl (avs := [ti ((mI M 104 0 ((mI M 7 i30 0).toNatClampNeg)) + y5), ti ((mI M 104 0 ((mI M 7 i33 0).toNatClampNeg)) + x27), ti (-x25)]) (st := []) (okX0_addWait hc35) wcX0_88.1 wcX0_88.2.1 wcX0_88.2.2.1 wcX0_88.2.2.2 ⟨rfl, rfl, Nat.le_of_ble_eq_true rfl, Nat.le_of_ble_eq_true rfl⟩ rfl (Nat.le_of_ble_eq_true rfl) ⟨Nat.zero_le _, Nat.zero_le _⟩ dX0_addWaitsOn_148 ?_
        obtain rfl := Option.some.inj hE25
        refine tm_lcp [0, 1, 2, 3, 4, 5] rfl ?_
        exact J26
set_option maxHeartbeats 4000000 in
set_option maxRecDepth 100000 in
theorem okX0_addWaitsOn {g : tG} {a1 : Option Nat} {M : tM} {Mz : tM} (h : fX0_addWaitsOn a1 M = some Mz) : TMet g yX0_addWaitsOn (Cond.code yX0_addWaitsOn cX0_addWaitsOn 10 (none) :: tgd) rmX0_addWaitsOn [tr 0 0, tq 4 a1] M none Mz 0 0 := by
  have key : TW g iX0_addWaitsOn rmX0_addWaitsOn 0 0 none Mz 0 0 0 [(0, tr 0 0), (1, tq 4 a1)] [] M := by
    rw [fX0_addWaitsOn] at h
    refine tm_aload_n dX0_addWaitsOn_0 rfl rfl ?_
    replace h := obind_some h
    obtain ⟨i1, ei1, h⟩ := h
    subst ei1
    refine tm_get kX4 rfl (j := 3) (by decide) wfX0_92 dX0_addWaitsOn_1 (v := tr 503 i1) rfl ?_
    replace h := obind_some h
    obtain ⟨x2, hc3, h⟩ := h
    refine tm_callS (avs := [tr 503 i1]) (st := []) (okX4_sumOf hc3) wcX0_97.1 wcX0_97.2.1 wcX0_97.2.2 ⟨rfl, rfl, Nat.le_of_ble_eq_true rfl, Nat.le_of_ble_eq_true rfl⟩ rfl (Nat.le_of_ble_eq_true rfl) ⟨Nat.zero_le _, Nat.zero_le _⟩ dX0_addWaitsOn_4 ?_
    refine tm_aload_n dX0_addWaitsOn_7 rfl rfl ?_
    refine tm_get kX4 rfl (j := 1) (by decide) wfX0_101 dX0_addWaitsOn_8 (v := tq 7 (mR M 4 i1 1)) rfl ?_
    replace h := bnd_some h
    obtain ⟨r4, er4, h⟩ := h
    refine tm_nmQ er4 ?_
    replace h := obind_some h
    obtain ⟨i5, ei5, h⟩ := h
    subst ei5
    refine tm_get kX7 rfl (j := 6) (by decide) wfX0_80 dX0_addWaitsOn_11 (v := ti (mI M 7 i5 6)) rfl ?_
    refine tm_aload_n dX0_addWaitsOn_14 rfl rfl ?_
    refine tm_get kX4 rfl (j := 1) (by decide) wfX0_101 dX0_addWaitsOn_15 (v := tq 7 (mR M 4 i1 1)) rfl ?_
    replace h := bnd_some h
    obtain ⟨r6, er6, h⟩ := h
    refine tm_nmQ er6 ?_
    replace h := obind_some h
    obtain ⟨i7, ei7, h⟩ := h
    subst ei7
    refine tm_get kX7 rfl (j := 3) (by decide) wfX0_105 dX0_addWaitsOn_18 (v := ti (mI M 7 i7 3)) rfl ?_
    refine tm_iconst (v := 1) dX0_addWaitsOn_21 (by decide) ?_
    replace h := obind_some h
    obtain ⟨x8, hc9, h⟩ := h
    refine tm_callS (avs := [ti (mI M 7 i7 3), ti 1]) (st := [ti (mI M 7 i5 6), ti x2]) (okJ9_max_7cf53 hc9) wcX0_108.1 wcX0_108.2.1 wcX0_108.2.2 ⟨rfl, rfl, Nat.le_of_ble_eq_true rfl, Nat.le_of_ble_eq_true rfl⟩ rfl (Nat.le_of_ble_eq_true rfl) ⟨Nat.zero_le _, Nat.zero_le _⟩ dX0_addWaitsOn_22 ?_
    replace h := chk_some h
    obtain ⟨b10, h⟩ := h
    refine tm_idiv dX0_addWaitsOn_25 (nz4_ne b10) ?_
    refine tm_imul dX0_addWaitsOn_26 ?_
    replace h := bnd_some h
    obtain ⟨x11, ex11, h⟩ := h
    refine tm_nmI ex11 ?_
    refine tm_istore_n (lc' := [(2, ti x11), (0, tr 0 0), (1, tr 4 i1)]) dX0_addWaitsOn_27 rfl (by decide) rfl ?_
    refine tm_iload_n dX0_addWaitsOn_28 rfl rfl ?_
    refine tm_if_gt (tgt := 33) dX0_addWaitsOn_29 (by decide) (fun c12 => ?_) (fun c12 => ?_)
    · rw [if_pos c12] at h
      refine tm_iconst (v := 0) dX0_addWaitsOn_33 (by decide) ?_
      refine tm_istore_n (lc' := [(3, ti 0), (2, ti x11), (0, tr 0 0), (1, tr 4 i1)]) dX0_addWaitsOn_34 rfl (by decide) rfl ?_
      refine tm_iconst (v := 0) dX0_addWaitsOn_35 (by decide) ?_
      refine tm_istore (lc' := [(4, ti 0), (3, ti 0), (2, ti x11), (0, tr 0 0), (1, tr 4 i1)]) dX0_addWaitsOn_36 (by decide) rfl ?_
      refine tm_iconst (v := 0) dX0_addWaitsOn_38 (by decide) ?_
      refine tm_istore (lc' := [(5, ti 0), (4, ti 0), (3, ti 0), (2, ti x11), (0, tr 0 0), (1, tr 4 i1)]) dX0_addWaitsOn_39 (by decide) rfl ?_
      replace h := obind_some h
      obtain ⟨w38, hE39, h⟩ := h
      refine tm_lcp [0, 1, 2, 3, 4, 5] rfl ?_
      refine okX0_addWaitsOn_l41 i1 x11 FU 0 0 0 M _ hE39 (fun M40 e => ?_)
      subst e
      obtain rfl := Option.some.inj h
      exact tm_vret rfl dX0_addWaitsOn_157
    · rw [if_neg c12] at h
      obtain rfl := Option.some.inj h
      exact tm_vret rfl dX0_addWaitsOn_32
  exact TMet.of (by decide) (Nat.le_of_ble_eq_true rfl) key
