theorem wcX11_228 : tCB RX11 228 yX11_isPart cX11_isPart 2 (some .boolean) 1 ∧ Cond.methodLink RX11 228 yX11_isPart ∈ tgd ∧ Cond.instanceMethod yX11_isPart ∈ tgd ∧ Cond.selects RX11 yX11_isPart yX11_isPart ∈ tgd := ⟨⟨(tgd_t 1488 (by decide +kernel) (by decide +kernel)), (tgd_t 10 (by decide +kernel) (by decide +kernel)), by decide, by decide +kernel⟩, (tgd_t 1485 (by decide +kernel) (by decide +kernel)), (tgd_t 1487 (by decide +kernel) (by decide +kernel)), (tgd_p 58 (by decide +kernel) (by decide +kernel))⟩
theorem wfX11_41 : Cond.fieldLink RX11 41 "EvenFlowModel" "froms" "[I" ∈ tgd := (tgd_t 1238 (by decide +kernel) (by decide +kernel))
theorem wfX11_44 : Cond.fieldLink RX11 44 "EvenFlowModel" "tos" "[I" ∈ tgd := (tgd_t 1239 (by decide +kernel) (by decide +kernel))
theorem wfX11_47 : Cond.fieldLink RX11 47 "EvenFlowModel" "gives" "[I" ∈ tgd := (tgd_t 1240 (by decide +kernel) (by decide +kernel))
theorem wfX11_50 : Cond.fieldLink RX11 50 "EvenFlowModel" "takes" "[I" ∈ tgd := (tgd_t 1241 (by decide +kernel) (by decide +kernel))
abbrev iX11_line : tY := (RX11, cX11_line, 6, some .int, "line")
abbrev rmX11_line : Room := { frames := 3, cells := 0, slots := 0, locals := 63 }
def fX11_line_l74 (z2 : Int32) (z4 : Int32) : Nat → Int32 → tM → Option (tM)
  | 0, _, _ => none
  | n + 1, y5, M =>
    if 4 ≤ y5 then (
    some M
    ) else (
    chk (inb ((4 * (mI M 11 0 12)) + y5) (mN M 1215 0)) <|
    bnd (sI M 1215 0 (((4 * (mI M 11 0 12)) + y5).toNatClampNeg) z2) fun M20 =>
    chk (inb ((4 * (mI M20 11 0 12)) + y5) (mN M20 1216 0)) <|
    bnd (sI M20 1216 0 (((4 * (mI M20 11 0 12)) + y5).toNatClampNeg) z4) fun M22 =>
    bnd (y5 + 1) fun x23 =>
    fX11_line_l74 z2 z4 n x23 M22
    )
def fX11_line (a1 : Int32) (a2 : Int32) (a3 : Int32) (a4 : Int32) (M : tM) : Option (Int32 × tM) :=
  (fX11_isPart a1 M).bind fun x1 =>
  if x1 = 0 then (
  some (((-1), M))
  ) else (
  (fX11_isPart a3 M).bind fun x4 =>
  if x4 = 0 then (
  some (((-1), M))
  ) else (
  (fX11_in a2 1 50 M).bind fun x7 =>
  if x7 = 0 then (
  some (((-1), M))
  ) else (
  (fX11_in a4 1 50 M).bind fun x10 =>
  if x10 = 0 then (
  some (((-1), M))
  ) else (
  if (mI M 11 0 12) = 20 then (
  some (((-2), M))
  ) else (
  chk (inb (mI M 11 0 12) (mN M 1213 0)) <|
  bnd (sI M 1213 0 ((mI M 11 0 12).toNatClampNeg) a1) fun M15 =>
  chk (inb (mI M15 11 0 12) (mN M15 1214 0)) <|
  bnd (sI M15 1214 0 ((mI M15 11 0 12).toNatClampNeg) a3) fun M17 =>
  Option.bind (fX11_line_l74 a2 a4 FU 0 M17) fun M26 =>
  chk (inb (mI M26 11 0 12) (mN M26 1217 0)) <|
  bnd (sI M26 1217 0 ((mI M26 11 0 12).toNatClampNeg) 0) fun M28 =>
  bnd (sI M28 11 0 12 ((mI M28 11 0 12) + 1)) fun M29 =>
  (fX11_changes M29).bind fun M31 =>
  some (((mI M31 11 0 12) - 1, M31))
  )
  )
  )
  )
  )
set_option maxHeartbeats 4000000 in
set_option maxRecDepth 100000 in
theorem okX11_line_l74 {g : tG} (z2 : Int32) (z4 : Int32) {r : Option tV} {Mz : tM} : ∀ (n : Nat) (y5 : Int32) (M : tM) (w : tM), fX11_line_l74 z2 z4 n y5 M = some w → (∀ (Mw : tM), Mw = w → TW g iX11_line rmX11_line 0 0 r Mz 0 0 117 [(0, tr 11 0)] [] Mw) → TW g iX11_line rmX11_line 0 0 r Mz 0 0 74 [(0, tr 11 0), (2, ti z2), (4, ti z4), (5, ti y5)] [] M := by
  intro n
  induction n with
  | zero => intro y5 M w h; cases h
  | succ n ih =>
    intro y5 M w h J
    rw [fX11_line_l74] at h
    refine tm_iload dX11_line_74 rfl ?_
    refine tm_iconst (v := 4) dX11_line_76 (by decide) ?_
    refine tm_icmp_ge (tgt := 117) dX11_line_77 (by decide) (fun c18 => ?_) (fun c18 => ?_)
    · rw [if_pos c18] at h
      obtain rfl := Option.some.inj h
      refine tm_lcp [0] rfl ?_
      exact J _ rfl
    · rw [if_neg c18] at h
      refine tm_aload_n dX11_line_80 rfl rfl ?_
      refine tm_get kX11 rfl (j := 15) (by decide) wfX11_47 dX11_line_81 (v := tr 1215 0) rfl ?_
      refine tm_iconst (v := 4) dX11_line_84 (by decide) ?_
      refine tm_aload_n dX11_line_85 rfl rfl ?_
      refine tm_get kX11 rfl (j := 12) (by decide) wfX11_209 dX11_line_86 (v := ti (mI M 11 0 12)) rfl ?_
      refine tm_imul dX11_line_89 ?_
      refine tm_iload dX11_line_90 rfl ?_
      refine tm_iadd dX11_line_92 ?_
      refine tm_iload_n dX11_line_93 rfl rfl ?_
      obtain ⟨b19, h⟩ := chk_some h
      obtain ⟨M20, eM20, h⟩ := bnd_some h
      refine tm_iast rfl dX11_line_94 (inb_vp b19) ?_
      refine tm_nmM eM20 ?_
      refine tm_aload_n dX11_line_95 rfl rfl ?_
      refine tm_get kX11 rfl (j := 16) (by decide) wfX11_50 dX11_line_96 (v := tr 1216 0) rfl ?_
      refine tm_iconst (v := 4) dX11_line_99 (by decide) ?_
      refine tm_aload_n dX11_line_100 rfl rfl ?_
      refine tm_get kX11 rfl (j := 12) (by decide) wfX11_209 dX11_line_101 (v := ti (mI M20 11 0 12)) rfl ?_
      refine tm_imul dX11_line_104 ?_
      refine tm_iload dX11_line_105 rfl ?_
      refine tm_iadd dX11_line_107 ?_
      refine tm_iload dX11_line_108 rfl ?_
      obtain ⟨b21, h⟩ := chk_some h
      obtain ⟨M22, eM22, h⟩ := bnd_some h
      refine tm_iast rfl dX11_line_110 (inb_vp b21) ?_
      refine tm_nmM eM22 ?_
      obtain ⟨x23, ex23, h⟩ := bnd_some h
      refine tm_iinc (v := x23) (lc' := [(5, ti x23), (0, tr 11 0), (2, ti z2), (4, ti z4)]) dX11_line_111 rfl (by rw [ex23]; rfl) (by decide) rfl ?_
      refine tm_goto (tgt := 74) dX11_line_114 (by decide) ?_
      refine tm_lcp [0, 2, 4, 5] rfl ?_
      exact ih x23 M22 _ h J
set_option maxHeartbeats 4000000 in
set_option maxRecDepth 100000 in
theorem okX11_line {g : tG} {a1 : Int32} {a2 : Int32} {a3 : Int32} {a4 : Int32} {M : tM} {v : Int32} {Mz : tM} (h : fX11_line a1 a2 a3 a4 M = some ((v, Mz))) : TMet g yX11_line (Cond.code yX11_line cX11_line 6 (some .int) :: tgd) rmX11_line [tr 11 0, ti a1, ti a2, ti a3, ti a4] M (some (ti v)) Mz 0 0 := by
  have key : TW g iX11_line rmX11_line 0 0 (some (ti v)) Mz 0 0 0 [(0, tr 11 0), (1, ti a1), (2, ti a2), (3, ti a3), (4, ti a4)] [] M := by
    rw [fX11_line] at h
    refine tm_aload_n dX11_line_0 rfl rfl ?_
    refine tm_iload_n dX11_line_1 rfl rfl ?_
    obtain ⟨x1, hc2, h⟩ := obind_some h
    refine tm_callV kX11 rfl (avs := [ti a1]) (st := []) (okX11_isPart hc2) wcX11_228.1 wcX11_228.2.1 wcX11_228.2.2.1 wcX11_228.2.2.2 ⟨rfl, rfl, Nat.le_of_ble_eq_true rfl, Nat.le_of_ble_eq_true rfl⟩ rfl (Nat.le_of_ble_eq_true rfl) ⟨Nat.zero_le _, Nat.zero_le _⟩ dX11_line_2 ?_
    refine tm_if_eq (tgt := 37) dX11_line_5 (by decide) (fun c3 => ?_) (fun c3 => ?_)
    · rw [if_pos c3] at h
      refine tm_iconst (v := (-1)) dX11_line_37 (by decide) ?_
      obtain ⟨rfl, rfl⟩ := pj2 h
      exact tm_iret rfl dX11_line_38
    · rw [if_neg c3] at h
      refine tm_aload_n dX11_line_8 rfl rfl ?_
      refine tm_iload_n dX11_line_9 rfl rfl ?_
      obtain ⟨x4, hc5, h⟩ := obind_some h
      refine tm_callV kX11 rfl (avs := [ti a3]) (st := []) (okX11_isPart hc5) wcX11_228.1 wcX11_228.2.1 wcX11_228.2.2.1 wcX11_228.2.2.2 ⟨rfl, rfl, Nat.le_of_ble_eq_true rfl, Nat.le_of_ble_eq_true rfl⟩ rfl (Nat.le_of_ble_eq_true rfl) ⟨Nat.zero_le _, Nat.zero_le _⟩ dX11_line_10 ?_
      refine tm_if_eq (tgt := 37) dX11_line_13 (by decide) (fun c6 => ?_) (fun c6 => ?_)
      · rw [if_pos c6] at h
        refine tm_iconst (v := (-1)) dX11_line_37 (by decide) ?_
        obtain ⟨rfl, rfl⟩ := pj2 h
        exact tm_iret rfl dX11_line_38
      · rw [if_neg c6] at h
        refine tm_iload_n dX11_line_16 rfl rfl ?_
        refine tm_iconst (v := 1) dX11_line_17 (by decide) ?_
        refine tm_bipush (v := 50) dX11_line_18 (by decide) ?_
        obtain ⟨x7, hc8, h⟩ := obind_some h
        refine tm_callS (avs := [ti a2, ti 1, ti 50]) (st := []) (okX11_in hc8) wcX11_205.1 wcX11_205.2.1 wcX11_205.2.2 ⟨rfl, rfl, Nat.le_of_ble_eq_true rfl, Nat.le_of_ble_eq_true rfl⟩ rfl (Nat.le_of_ble_eq_true rfl) ⟨Nat.zero_le _, Nat.zero_le _⟩ dX11_line_20 ?_
        refine tm_if_eq (tgt := 37) dX11_line_23 (by decide) (fun c9 => ?_) (fun c9 => ?_)
        · rw [if_pos c9] at h
          refine tm_iconst (v := (-1)) dX11_line_37 (by decide) ?_
          obtain ⟨rfl, rfl⟩ := pj2 h
          exact tm_iret rfl dX11_line_38
        · rw [if_neg c9] at h
          refine tm_iload dX11_line_26 rfl ?_
          refine tm_iconst (v := 1) dX11_line_28 (by decide) ?_
          refine tm_bipush (v := 50) dX11_line_29 (by decide) ?_
          obtain ⟨x10, hc11, h⟩ := obind_some h
          refine tm_callS (avs := [ti a4, ti 1, ti 50]) (st := []) (okX11_in hc11) wcX11_205.1 wcX11_205.2.1 wcX11_205.2.2 ⟨rfl, rfl, Nat.le_of_ble_eq_true rfl, Nat.le_of_ble_eq_true rfl⟩ rfl (Nat.le_of_ble_eq_true rfl) ⟨Nat.zero_le _, Nat.zero_le _⟩ dX11_line_31 ?_
          refine tm_if_ne (tgt := 39) dX11_line_34 (by decide) (fun c12 => ?_) (fun c12 => ?_)
          · rw [if_neg c12] at h
            refine tm_aload_n dX11_line_39 rfl rfl ?_
            refine tm_get kX11 rfl (j := 12) (by decide) wfX11_209 dX11_line_40 (v := ti (mI M 11 0 12)) rfl ?_
            refine tm_bipush (v := 20) dX11_line_43 (by decide) ?_
            refine tm_icmp_ne (tgt := 51) dX11_line_45 (by decide) (fun c13 => ?_) (fun c13 => ?_)
            · rw [if_neg c13] at h
              refine tm_aload_n dX11_line_51 rfl rfl ?_
              refine tm_get kX11 rfl (j := 13) (by decide) wfX11_41 dX11_line_52 (v := tr 1213 0) rfl ?_
              refine tm_aload_n dX11_line_55 rfl rfl ?_
              refine tm_get kX11 rfl (j := 12) (by decide) wfX11_209 dX11_line_56 (v := ti (mI M 11 0 12)) rfl ?_
              refine tm_iload_n dX11_line_59 rfl rfl ?_
              obtain ⟨b14, h⟩ := chk_some h
              obtain ⟨M15, eM15, h⟩ := bnd_some h
              refine tm_iast rfl dX11_line_60 (inb_vp b14) ?_
              refine tm_nmM eM15 ?_
              refine tm_aload_n dX11_line_61 rfl rfl ?_
              refine tm_get kX11 rfl (j := 14) (by decide) wfX11_44 dX11_line_62 (v := tr 1214 0) rfl ?_
              refine tm_aload_n dX11_line_65 rfl rfl ?_
              refine tm_get kX11 rfl (j := 12) (by decide) wfX11_209 dX11_line_66 (v := ti (mI M15 11 0 12)) rfl ?_
              refine tm_iload_n dX11_line_69 rfl rfl ?_
              obtain ⟨b16, h⟩ := chk_some h
              obtain ⟨M17, eM17, h⟩ := bnd_some h
              refine tm_iast rfl dX11_line_70 (inb_vp b16) ?_
              refine tm_nmM eM17 ?_
              refine tm_iconst (v := 0) dX11_line_71 (by decide) ?_
              refine tm_istore (lc' := [(5, ti 0), (0, tr 11 0), (1, ti a1), (2, ti a2), (3, ti a3), (4, ti a4)]) dX11_line_72 (by decide) rfl ?_
              obtain ⟨w24, hE25, h⟩ := obind_some h
              refine tm_lcp [0, 2, 4, 5] rfl ?_
              refine okX11_line_l74 a2 a4 FU 0 M17 _ hE25 (fun M26 e => ?_)
              subst e
              refine tm_aload_n dX11_line_117 rfl rfl ?_
              refine tm_get kX11 rfl (j := 17) (by decide) wfX11_53 dX11_line_118 (v := tr 1217 0) rfl ?_
              refine tm_aload_n dX11_line_121 rfl rfl ?_
              refine tm_get kX11 rfl (j := 12) (by decide) wfX11_209 dX11_line_122 (v := ti (mI M26 11 0 12)) rfl ?_
              refine tm_iconst (v := 0) dX11_line_125 (by decide) ?_
              obtain ⟨b27, h⟩ := chk_some h
              obtain ⟨M28, eM28, h⟩ := bnd_some h
              refine tm_iast rfl dX11_line_126 (inb_vp b27) ?_
              refine tm_nmM eM28 ?_
              refine tm_aload_n dX11_line_127 rfl rfl ?_
              refine tm_dup dX11_line_128 rfl ?_
              refine tm_get kX11 rfl (j := 12) (by decide) wfX11_209 dX11_line_129 (v := ti (mI M28 11 0 12)) rfl ?_
              refine tm_iconst (v := 1) dX11_line_132 (by decide) ?_
              refine tm_iadd dX11_line_133 ?_
              obtain ⟨M29, eM29, h⟩ := bnd_some h
              refine tm_put kX11 rfl (j := 12) (by decide) wfX11_209 rfl dX11_line_134 (fun _ => ⟨rfl, rfl⟩) (tPut_I ((mI M28 11 0 12) + 1) rfl) ?_
              refine tm_nmM eM29 ?_
              refine tm_aload_n dX11_line_137 rfl rfl ?_
              obtain ⟨M31, hc30, h⟩ := obind_some h
              refine tm_callV kX11 rfl (avs := []) (st := []) (okX11_changes hc30) wcX11_225.1 wcX11_225.2.1 wcX11_225.2.2.1 wcX11_225.2.2.2 ⟨rfl, rfl, Nat.le_of_ble_eq_true rfl, Nat.le_of_ble_eq_true rfl⟩ rfl (Nat.le_of_ble_eq_true rfl) ⟨Nat.zero_le _, Nat.zero_le _⟩ dX11_line_138 ?_
              refine tm_aload_n dX11_line_141 rfl rfl ?_
              refine tm_get kX11 rfl (j := 12) (by decide) wfX11_209 dX11_line_142 (v := ti (mI M31 11 0 12)) rfl ?_
              refine tm_iconst (v := 1) dX11_line_145 (by decide) ?_
              refine tm_isub dX11_line_146 ?_
              obtain ⟨rfl, rfl⟩ := pj2 h
              exact tm_iret rfl dX11_line_147
            · rw [if_pos c13] at h
              refine tm_bipush (v := (-2)) dX11_line_48 (by decide) ?_
              obtain ⟨rfl, rfl⟩ := pj2 h
              exact tm_iret rfl dX11_line_50
          · rw [if_pos c12] at h
            refine tm_iconst (v := (-1)) dX11_line_37 (by decide) ?_
            obtain ⟨rfl, rfl⟩ := pj2 h
            exact tm_iret rfl dX11_line_38
  exact TMet.of (by decide) (Nat.le_of_ble_eq_true rfl) key
theorem wcX11_232 : tCB RX11 232 yX11_isLine cX11_isLine 2 (some .boolean) 1 ∧ Cond.methodLink RX11 232 yX11_isLine ∈ tgd ∧ Cond.instanceMethod yX11_isLine ∈ tgd ∧ Cond.selects RX11 yX11_isLine yX11_isLine ∈ tgd := ⟨⟨(tgd_t 1496 (by decide +kernel) (by decide +kernel)), (tgd_t 10 (by decide +kernel) (by decide +kernel)), by decide, by decide +kernel⟩, (tgd_t 1493 (by decide +kernel) (by decide +kernel)), (tgd_t 1495 (by decide +kernel) (by decide +kernel)), (tgd_p 59 (by decide +kernel) (by decide +kernel))⟩
abbrev iX11_count : tY := (RX11, cX11_count, 7, some .int, "count")
abbrev rmX11_count : Room := { frames := 3, cells := 0, slots := 0, locals := 63 }
def fX11_count (a1 : Int32) (a2 : Int32) (a3 : Int32) (a4 : Int32) (M : tM) : Option (Int32 × tM) :=
  (fX11_isLine a1 M).bind fun x1 =>
  if x1 = 0 then (
  some (((-1), M))
  ) else (
  (fX11_in a4 0 50 M).bind fun x4 =>
  if x4 = 0 then (
  some (((-1), M))
  ) else (
  Option.bind (α := Int32) (
  if a2 = 0 then (
  chk (inb a1 (mN M 1213 0)) <|
  some (mI M 1213 0 (a1.toNatClampNeg))
  ) else (
  chk (inb a1 (mN M 1214 0)) <|
  some (mI M 1214 0 (a1.toNatClampNeg))
  )
  ) fun x8 =>
  chk (inb x8 (mN M 1203 0)) <|
  if (mI M 1203 0 (x8.toNatClampNeg)) = 4 then (
  chk (inb x8 (mN M 1205 0)) <|
  (fX11_in a3 0 ((mI M 1205 0 (x8.toNatClampNeg)) - 1) M).bind fun x14 =>
  if x14 = 0 then (
  (fX11_meets 2 M).bind fun (x28, M30) =>
  some ((x28, M30))
  ) else (
  Option.bind (α := Int32) (
  if a2 = 0 then (
  chk (inb ((4 * a1) + a3) (mN M 1215 0)) <|
  some (mI M 1215 0 (((4 * a1) + a3).toNatClampNeg))
  ) else (
  chk (inb ((4 * a1) + a3) (mN M 1216 0)) <|
  some (mI M 1216 0 (((4 * a1) + a3).toNatClampNeg))
  )
  ) fun x18 =>
  Option.bind (α := tM) (
  if a2 = 0 then (
  chk (inb ((4 * a1) + a3) (mN M 1215 0)) <|
  bnd (sI M 1215 0 (((4 * a1) + a3).toNatClampNeg) a4) fun M23 =>
  some M23
  ) else (
  chk (inb ((4 * a1) + a3) (mN M 1216 0)) <|
  bnd (sI M 1216 0 (((4 * a1) + a3).toNatClampNeg) a4) fun M25 =>
  some M25
  )
  ) fun M22 =>
  (fX11_changes M22).bind fun M27 =>
  some ((x18, M27))
  )
  ) else (
  (fX11_meets 3 M).bind fun (x31, M33) =>
  some ((x31, M33))
  )
  )
  )
set_option maxHeartbeats 4000000 in
set_option maxRecDepth 100000 in
theorem okX11_count {g : tG} {a1 : Int32} {a2 : Int32} {a3 : Int32} {a4 : Int32} {M : tM} {v : Int32} {Mz : tM} (h : fX11_count a1 a2 a3 a4 M = some ((v, Mz))) : TMet g yX11_count (Cond.code yX11_count cX11_count 7 (some .int) :: tgd) rmX11_count [tr 11 0, ti a1, ti a2, ti a3, ti a4] M (some (ti v)) Mz 0 0 := by
  have key : TW g iX11_count rmX11_count 0 0 (some (ti v)) Mz 0 0 0 [(0, tr 11 0), (1, ti a1), (2, ti a2), (3, ti a3), (4, ti a4)] [] M := by
    rw [fX11_count] at h
    refine tm_aload_n dX11_count_0 rfl rfl ?_
    refine tm_iload_n dX11_count_1 rfl rfl ?_
    obtain ⟨x1, hc2, h⟩ := obind_some h
    refine tm_callV kX11 rfl (avs := [ti a1]) (st := []) (okX11_isLine hc2) wcX11_232.1 wcX11_232.2.1 wcX11_232.2.2.1 wcX11_232.2.2.2 ⟨rfl, rfl, Nat.le_of_ble_eq_true rfl, Nat.le_of_ble_eq_true rfl⟩ rfl (Nat.le_of_ble_eq_true rfl) ⟨Nat.zero_le _, Nat.zero_le _⟩ dX11_count_2 ?_
    refine tm_if_eq (tgt := 19) dX11_count_5 (by decide) (fun c3 => ?_) (fun c3 => ?_)
    · rw [if_pos c3] at h
      refine tm_iconst (v := (-1)) dX11_count_19 (by decide) ?_
      obtain ⟨rfl, rfl⟩ := pj2 h
      exact tm_iret rfl dX11_count_20
    · rw [if_neg c3] at h
      refine tm_iload dX11_count_8 rfl ?_
      refine tm_iconst (v := 0) dX11_count_10 (by decide) ?_
      refine tm_bipush (v := 50) dX11_count_11 (by decide) ?_
      obtain ⟨x4, hc5, h⟩ := obind_some h
      refine tm_callS (avs := [ti a4, ti 0, ti 50]) (st := []) (okX11_in hc5) wcX11_205.1 wcX11_205.2.1 wcX11_205.2.2 ⟨rfl, rfl, Nat.le_of_ble_eq_true rfl, Nat.le_of_ble_eq_true rfl⟩ rfl (Nat.le_of_ble_eq_true rfl) ⟨Nat.zero_le _, Nat.zero_le _⟩ dX11_count_13 ?_
      refine tm_if_ne (tgt := 21) dX11_count_16 (by decide) (fun c6 => ?_) (fun c6 => ?_)
      · rw [if_neg c6] at h
        refine tm_iload_n dX11_count_21 rfl rfl ?_
        obtain ⟨x8, hE9, h⟩ := obind_some h
        have J10 : TW g iX11_count rmX11_count 0 0 (some (ti v)) Mz 0 0 40 [(0, tr 11 0), (1, ti a1), (2, ti a2), (3, ti a3), (4, ti a4)] [ti x8] M := by
          refine tm_istore (lc' := [(5, ti x8), (0, tr 11 0), (1, ti a1), (2, ti a2), (3, ti a3), (4, ti a4)]) dX11_count_40 (by decide) rfl ?_
          refine tm_aload_n dX11_count_42 rfl rfl ?_
          refine tm_get kX11 rfl (j := 3) (by decide) wfX11_13 dX11_count_43 (v := tr 1203 0) rfl ?_
          refine tm_iload dX11_count_46 rfl ?_
          obtain ⟨b11, h⟩ := chk_some h
          refine tm_iald rfl dX11_count_48 (inb_vp b11) ?_
          refine tm_iconst (v := 4) dX11_count_49 (by decide) ?_
          refine tm_icmp_eq (tgt := 59) dX11_count_50 (by decide) (fun c12 => ?_) (fun c12 => ?_)
          · rw [if_pos c12] at h
            refine tm_iload_n dX11_count_59 rfl rfl ?_
            refine tm_iconst (v := 0) dX11_count_60 (by decide) ?_
            refine tm_aload_n dX11_count_61 rfl rfl ?_
            refine tm_get kX11 rfl (j := 5) (by decide) wfX11_20 dX11_count_62 (v := tr 1205 0) rfl ?_
            refine tm_iload dX11_count_65 rfl ?_
            obtain ⟨b13, h⟩ := chk_some h
            refine tm_iald rfl dX11_count_67 (inb_vp b13) ?_
            refine tm_iconst (v := 1) dX11_count_68 (by decide) ?_
            refine tm_isub dX11_count_69 ?_
            obtain ⟨x14, hc15, h⟩ := obind_some h
            refine tm_callS (avs := [ti a3, ti 0, ti ((mI M 1205 0 (x8.toNatClampNeg)) - 1)]) (st := []) (okX11_in hc15) wcX11_205.1 wcX11_205.2.1 wcX11_205.2.2 ⟨rfl, rfl, Nat.le_of_ble_eq_true rfl, Nat.le_of_ble_eq_true rfl⟩ rfl (Nat.le_of_ble_eq_true rfl) ⟨Nat.zero_le _, Nat.zero_le _⟩ dX11_count_70 ?_
            refine tm_if_ne (tgt := 82) dX11_count_73 (by decide) (fun c16 => ?_) (fun c16 => ?_)
            · rw [if_neg c16] at h
              refine tm_iload_n dX11_count_82 rfl rfl ?_
              obtain ⟨x18, hE19, h⟩ := obind_some h
              have J20 : TW g iX11_count rmX11_count 0 0 (some (ti v)) Mz 0 0 109 [(0, tr 11 0), (1, ti a1), (2, ti a2), (3, ti a3), (4, ti a4)] [ti x18] M := by
                refine tm_istore (lc' := [(6, ti x18), (0, tr 11 0), (1, ti a1), (2, ti a2), (3, ti a3), (4, ti a4)]) dX11_count_109 (by decide) rfl ?_
                refine tm_iload_n dX11_count_111 rfl rfl ?_
                obtain ⟨M22, hE23, h⟩ := obind_some h
                have J24 : TW g iX11_count rmX11_count 0 0 (some (ti v)) Mz 0 0 142 [(0, tr 11 0), (6, ti x18)] [] M22 := by
                  refine tm_aload_n dX11_count_142 rfl rfl ?_
                  obtain ⟨M27, hc26, h⟩ := obind_some h
                  refine tm_callV kX11 rfl (avs := []) (st := []) (okX11_changes hc26) wcX11_225.1 wcX11_225.2.1 wcX11_225.2.2.1 wcX11_225.2.2.2 ⟨rfl, rfl, Nat.le_of_ble_eq_true rfl, Nat.le_of_ble_eq_true rfl⟩ rfl (Nat.le_of_ble_eq_true rfl) ⟨Nat.zero_le _, Nat.zero_le _⟩ dX11_count_143 ?_
                  refine tm_iload dX11_count_146 rfl ?_
                  obtain ⟨rfl, rfl⟩ := pj2 h
                  exact tm_iret rfl dX11_count_148
                refine tm_if_eq (tgt := 130) dX11_count_112 (by decide) (fun c21 => ?_) (fun c21 => ?_)
                · rw [if_pos c21] at hE23
                  refine tm_aload_n dX11_count_130 rfl rfl ?_
                  refine tm_get kX11 rfl (j := 15) (by decide) wfX11_47 dX11_count_131 (v := tr 1215 0) rfl ?_
                  refine tm_iconst (v := 4) dX11_count_134 (by decide) ?_
                  refine tm_iload_n dX11_count_135 rfl rfl ?_
                  refine tm_imul dX11_count_136 ?_
                  refine tm_iload_n dX11_count_137 rfl rfl ?_
                  refine tm_iadd dX11_count_138 ?_
                  refine tm_iload dX11_count_139 rfl ?_
                  obtain ⟨b22, hE23⟩ := chk_some hE23
                  obtain ⟨M23, eM23, hE23⟩ := bnd_some hE23
                  refine tm_iast rfl dX11_count_141 (inb_vp b22) ?_
                  refine tm_nmM eM23 ?_
                  obtain rfl := Option.some.inj hE23
                  refine tm_lcp [0, 6] rfl ?_
                  exact J24
                · rw [if_neg c21] at hE23
                  refine tm_aload_n dX11_count_115 rfl rfl ?_
                  refine tm_get kX11 rfl (j := 16) (by decide) wfX11_50 dX11_count_116 (v := tr 1216 0) rfl ?_
                  refine tm_iconst (v := 4) dX11_count_119 (by decide) ?_
                  refine tm_iload_n dX11_count_120 rfl rfl ?_
                  refine tm_imul dX11_count_121 ?_
                  refine tm_iload_n dX11_count_122 rfl rfl ?_
                  refine tm_iadd dX11_count_123 ?_
                  refine tm_iload dX11_count_124 rfl ?_
                  obtain ⟨b24, hE23⟩ := chk_some hE23
                  obtain ⟨M25, eM25, hE23⟩ := bnd_some hE23
                  refine tm_iast rfl dX11_count_126 (inb_vp b24) ?_
                  refine tm_nmM eM25 ?_
                  refine tm_goto (tgt := 142) dX11_count_127 (by decide) ?_
                  obtain rfl := Option.some.inj hE23
                  refine tm_lcp [0, 6] rfl ?_
                  exact J24
              refine tm_if_eq (tgt := 99) dX11_count_83 (by decide) (fun c17 => ?_) (fun c17 => ?_)
              · rw [if_pos c17] at hE19
                refine tm_aload_n dX11_count_99 rfl rfl ?_
                refine tm_get kX11 rfl (j := 15) (by decide) wfX11_47 dX11_count_100 (v := tr 1215 0) rfl ?_
                refine tm_iconst (v := 4) dX11_count_103 (by decide) ?_
                refine tm_iload_n dX11_count_104 rfl rfl ?_
                refine tm_imul dX11_count_105 ?_
                refine tm_iload_n dX11_count_106 rfl rfl ?_
                refine tm_iadd dX11_count_107 ?_
                obtain ⟨b18, hE19⟩ := chk_some hE19
                refine tm_iald rfl dX11_count_108 (inb_vp b18) ?_
                obtain rfl := Option.some.inj hE19
                refine tm_lcp [0, 1, 2, 3, 4] rfl ?_
                exact J20
              · rw [if_neg c17] at hE19
                refine tm_aload_n dX11_count_86 rfl rfl ?_
                refine tm_get kX11 rfl (j := 16) (by decide) wfX11_50 dX11_count_87 (v := tr 1216 0) rfl ?_
                refine tm_iconst (v := 4) dX11_count_90 (by decide) ?_
                refine tm_iload_n dX11_count_91 rfl rfl ?_
                refine tm_imul dX11_count_92 ?_
                refine tm_iload_n dX11_count_93 rfl rfl ?_
                refine tm_iadd dX11_count_94 ?_
                obtain ⟨b19, hE19⟩ := chk_some hE19
                refine tm_iald rfl dX11_count_95 (inb_vp b19) ?_
                refine tm_goto (tgt := 109) dX11_count_96 (by decide) ?_
                obtain rfl := Option.some.inj hE19
                refine tm_lcp [0, 1, 2, 3, 4] rfl ?_
                exact J20
            · rw [if_pos c16] at h
              refine tm_aload_n dX11_count_76 rfl rfl ?_
              refine tm_iconst (v := 2) dX11_count_77 (by decide) ?_
              obtain ⟨⟨x28, M30⟩, hc29, h⟩ := obind_some h
              dsimp only at h
              refine tm_callV kX11 rfl (avs := [ti 2]) (st := []) (okX11_meets hc29) wcX11_221.1 wcX11_221.2.1 wcX11_221.2.2.1 wcX11_221.2.2.2 ⟨rfl, rfl, Nat.le_of_ble_eq_true rfl, Nat.le_of_ble_eq_true rfl⟩ rfl (Nat.le_of_ble_eq_true rfl) ⟨Nat.zero_le _, Nat.zero_le _⟩ dX11_count_78 ?_
              obtain ⟨rfl, rfl⟩ := pj2 h
              exact tm_iret rfl dX11_count_81
          · rw [if_neg c12] at h
            refine tm_aload_n dX11_count_53 rfl rfl ?_
            refine tm_iconst (v := 3) dX11_count_54 (by decide) ?_
            obtain ⟨⟨x31, M33⟩, hc32, h⟩ := obind_some h
            dsimp only at h
            refine tm_callV kX11 rfl (avs := [ti 3]) (st := []) (okX11_meets hc32) wcX11_221.1 wcX11_221.2.1 wcX11_221.2.2.1 wcX11_221.2.2.2 ⟨rfl, rfl, Nat.le_of_ble_eq_true rfl, Nat.le_of_ble_eq_true rfl⟩ rfl (Nat.le_of_ble_eq_true rfl) ⟨Nat.zero_le _, Nat.zero_le _⟩ dX11_count_55 ?_
            obtain ⟨rfl, rfl⟩ := pj2 h
            exact tm_iret rfl dX11_count_58
        refine tm_if_eq (tgt := 34) dX11_count_22 (by decide) (fun c7 => ?_) (fun c7 => ?_)
        · rw [if_pos c7] at hE9
          refine tm_aload_n dX11_count_34 rfl rfl ?_
          refine tm_get kX11 rfl (j := 13) (by decide) wfX11_41 dX11_count_35 (v := tr 1213 0) rfl ?_
          refine tm_iload_n dX11_count_38 rfl rfl ?_
          obtain ⟨b8, hE9⟩ := chk_some hE9
          refine tm_iald rfl dX11_count_39 (inb_vp b8) ?_
          obtain rfl := Option.some.inj hE9
          refine tm_lcp [0, 1, 2, 3, 4] rfl ?_
          exact J10
        · rw [if_neg c7] at hE9
          refine tm_aload_n dX11_count_25 rfl rfl ?_
          refine tm_get kX11 rfl (j := 14) (by decide) wfX11_44 dX11_count_26 (v := tr 1214 0) rfl ?_
          refine tm_iload_n dX11_count_29 rfl rfl ?_
          obtain ⟨b9, hE9⟩ := chk_some hE9
          refine tm_iald rfl dX11_count_30 (inb_vp b9) ?_
          refine tm_goto (tgt := 40) dX11_count_31 (by decide) ?_
          obtain rfl := Option.some.inj hE9
          refine tm_lcp [0, 1, 2, 3, 4] rfl ?_
          exact J10
      · rw [if_pos c6] at h
        refine tm_iconst (v := (-1)) dX11_count_19 (by decide) ?_
        obtain ⟨rfl, rfl⟩ := pj2 h
        exact tm_iret rfl dX11_count_20
  exact TMet.of (by decide) (Nat.le_of_ble_eq_true rfl) key
abbrev iX11_first : tY := (RX11, cX11_first, 4, some .int, "first")
abbrev rmX11_first : Room := { frames := 3, cells := 0, slots := 0, locals := 63 }
def fX11_first_l29 (z1 : Int32) (z2 : Int32) : Nat → Int32 → tM → Option (tM)
  | 0, _, _ => none
  | n + 1, y3, M =>
    if 60 ≤ y3 then (
    some M
    ) else (
    chk (inb ((60 * z1) + y3) (mN M 1218 0)) <|
    bnd (sL M 1218 0 (((60 * z1) + y3).toNatClampNeg) 0) fun M11 =>
    bnd (y3 + 1) fun x12 =>
    fX11_first_l29 z1 z2 n x12 M11
    )
def fX11_first (a1 : Int32) (a2 : Int32) (M : tM) : Option (Int32 × tM) :=
  (fX11_isLine a1 M).bind fun x1 =>
  if x1 = 0 then (
  some (((-1), M))
  ) else (
  (fX11_in a2 0 60 M).bind fun x4 =>
  if x4 = 0 then (
  some (((-1), M))
  ) else (
  chk (inb a1 (mN M 1217 0)) <|
  bnd (sI M 1217 0 (a1.toNatClampNeg) a2) fun M8 =>
  Option.bind (fX11_first_l29 a1 a2 FU 0 M8) fun M15 =>
  (fX11_changes M15).bind fun M17 =>
  some ((a2, M17))
  )
  )
set_option maxHeartbeats 4000000 in
set_option maxRecDepth 100000 in
theorem okX11_first_l29 {g : tG} (z1 : Int32) (z2 : Int32) {r : Option tV} {Mz : tM} : ∀ (n : Nat) (y3 : Int32) (M : tM) (w : tM), fX11_first_l29 z1 z2 n y3 M = some w → (∀ (Mw : tM), Mw = w → TW g iX11_first rmX11_first 0 0 r Mz 0 0 53 [(0, tr 11 0), (2, ti z2)] [] Mw) → TW g iX11_first rmX11_first 0 0 r Mz 0 0 29 [(0, tr 11 0), (1, ti z1), (2, ti z2), (3, ti y3)] [] M := by
  intro n
  induction n with
  | zero => intro y3 M w h; cases h
  | succ n ih =>
    intro y3 M w h J
    rw [fX11_first_l29] at h
    refine tm_iload_n dX11_first_29 rfl rfl ?_
    refine tm_bipush (v := 60) dX11_first_30 (by decide) ?_
    refine tm_icmp_ge (tgt := 53) dX11_first_32 (by decide) (fun c9 => ?_) (fun c9 => ?_)
    · rw [if_pos c9] at h
      obtain rfl := Option.some.inj h
      refine tm_lcp [0, 2] rfl ?_
      exact J _ rfl
    · rw [if_neg c9] at h
      refine tm_aload_n dX11_first_35 rfl rfl ?_
      refine tm_get kX11 rfl (j := 18) (by decide) wfX11_56 dX11_first_36 (v := tr 1218 0) rfl ?_
      refine tm_bipush (v := 60) dX11_first_39 (by decide) ?_
      refine tm_iload_n dX11_first_41 rfl rfl ?_
      refine tm_imul dX11_first_42 ?_
      refine tm_iload_n dX11_first_43 rfl rfl ?_
      refine tm_iadd dX11_first_44 ?_
      refine tm_lconst (v := 0) dX11_first_45 (by decide) ?_
      obtain ⟨b10, h⟩ := chk_some h
      obtain ⟨M11, eM11, h⟩ := bnd_some h
      refine tm_last rfl dX11_first_46 (inb_vp b10) ?_
      refine tm_nmM eM11 ?_
      obtain ⟨x12, ex12, h⟩ := bnd_some h
      refine tm_iinc (v := x12) (lc' := [(3, ti x12), (0, tr 11 0), (1, ti z1), (2, ti z2)]) dX11_first_47 rfl (by rw [ex12]; rfl) (by decide) rfl ?_
      refine tm_goto (tgt := 29) dX11_first_50 (by decide) ?_
      refine tm_lcp [0, 1, 2, 3] rfl ?_
      exact ih x12 M11 _ h J
set_option maxHeartbeats 4000000 in
set_option maxRecDepth 100000 in
theorem okX11_first {g : tG} {a1 : Int32} {a2 : Int32} {M : tM} {v : Int32} {Mz : tM} (h : fX11_first a1 a2 M = some ((v, Mz))) : TMet g yX11_first (Cond.code yX11_first cX11_first 4 (some .int) :: tgd) rmX11_first [tr 11 0, ti a1, ti a2] M (some (ti v)) Mz 0 0 := by
  have key : TW g iX11_first rmX11_first 0 0 (some (ti v)) Mz 0 0 0 [(0, tr 11 0), (1, ti a1), (2, ti a2)] [] M := by
    rw [fX11_first] at h
    refine tm_aload_n dX11_first_0 rfl rfl ?_
    refine tm_iload_n dX11_first_1 rfl rfl ?_
    obtain ⟨x1, hc2, h⟩ := obind_some h
    refine tm_callV kX11 rfl (avs := [ti a1]) (st := []) (okX11_isLine hc2) wcX11_232.1 wcX11_232.2.1 wcX11_232.2.2.1 wcX11_232.2.2.2 ⟨rfl, rfl, Nat.le_of_ble_eq_true rfl, Nat.le_of_ble_eq_true rfl⟩ rfl (Nat.le_of_ble_eq_true rfl) ⟨Nat.zero_le _, Nat.zero_le _⟩ dX11_first_2 ?_
    refine tm_if_eq (tgt := 18) dX11_first_5 (by decide) (fun c3 => ?_) (fun c3 => ?_)
    · rw [if_pos c3] at h
      refine tm_iconst (v := (-1)) dX11_first_18 (by decide) ?_
      obtain ⟨rfl, rfl⟩ := pj2 h
      exact tm_iret rfl dX11_first_19
    · rw [if_neg c3] at h
      refine tm_iload_n dX11_first_8 rfl rfl ?_
      refine tm_iconst (v := 0) dX11_first_9 (by decide) ?_
      refine tm_bipush (v := 60) dX11_first_10 (by decide) ?_
      obtain ⟨x4, hc5, h⟩ := obind_some h
      refine tm_callS (avs := [ti a2, ti 0, ti 60]) (st := []) (okX11_in hc5) wcX11_205.1 wcX11_205.2.1 wcX11_205.2.2 ⟨rfl, rfl, Nat.le_of_ble_eq_true rfl, Nat.le_of_ble_eq_true rfl⟩ rfl (Nat.le_of_ble_eq_true rfl) ⟨Nat.zero_le _, Nat.zero_le _⟩ dX11_first_12 ?_
      refine tm_if_ne (tgt := 20) dX11_first_15 (by decide) (fun c6 => ?_) (fun c6 => ?_)
      · rw [if_neg c6] at h
        refine tm_aload_n dX11_first_20 rfl rfl ?_
        refine tm_get kX11 rfl (j := 17) (by decide) wfX11_53 dX11_first_21 (v := tr 1217 0) rfl ?_
        refine tm_iload_n dX11_first_24 rfl rfl ?_
        refine tm_iload_n dX11_first_25 rfl rfl ?_
        obtain ⟨b7, h⟩ := chk_some h
        obtain ⟨M8, eM8, h⟩ := bnd_some h
        refine tm_iast rfl dX11_first_26 (inb_vp b7) ?_
        refine tm_nmM eM8 ?_
        refine tm_iconst (v := 0) dX11_first_27 (by decide) ?_
        refine tm_istore_n (lc' := [(3, ti 0), (0, tr 11 0), (1, ti a1), (2, ti a2)]) dX11_first_28 rfl (by decide) rfl ?_
        obtain ⟨w13, hE14, h⟩ := obind_some h
        refine tm_lcp [0, 1, 2, 3] rfl ?_
        refine okX11_first_l29 a1 a2 FU 0 M8 _ hE14 (fun M15 e => ?_)
        subst e
        refine tm_aload_n dX11_first_53 rfl rfl ?_
        obtain ⟨M17, hc16, h⟩ := obind_some h
        refine tm_callV kX11 rfl (avs := []) (st := []) (okX11_changes hc16) wcX11_225.1 wcX11_225.2.1 wcX11_225.2.2.1 wcX11_225.2.2.2 ⟨rfl, rfl, Nat.le_of_ble_eq_true rfl, Nat.le_of_ble_eq_true rfl⟩ rfl (Nat.le_of_ble_eq_true rfl) ⟨Nat.zero_le _, Nat.zero_le _⟩ dX11_first_54 ?_
        refine tm_iload_n dX11_first_57 rfl rfl ?_
        obtain ⟨rfl, rfl⟩ := pj2 h
        exact tm_iret rfl dX11_first_58
      · rw [if_pos c6] at h
        refine tm_iconst (v := (-1)) dX11_first_18 (by decide) ?_
        obtain ⟨rfl, rfl⟩ := pj2 h
        exact tm_iret rfl dX11_first_19
  exact TMet.of (by decide) (Nat.le_of_ble_eq_true rfl) key
abbrev iX11_thing : tY := (RX11, cX11_thing, 5, some .int, "thing")
abbrev rmX11_thing : Room := { frames := 2, cells := 0, slots := 0, locals := 43 }
def fX11_thing (a1 : Int32) (a2 : Int32) (a3 : Int64) (M : tM) : Option (Int32 × tM) :=
  (fX11_isLine a1 M).bind fun x1 =>
  if x1 = 0 then (
  some (((-1), M))
  ) else (
  chk (inb a1 (mN M 1217 0)) <|
  (fX11_in a2 0 ((mI M 1217 0 (a1.toNatClampNeg)) - 1) M).bind fun x5 =>
  if x5 = 0 then (
  (fX11_meets 2 M).bind fun (x12, M14) =>
  some ((x12, M14))
  ) else (
  chk (inb ((60 * a1) + a2) (mN M 1218 0)) <|
  bnd (sL M 1218 0 (((60 * a1) + a2).toNatClampNeg) a3) fun M9 =>
  (fX11_begins M9).bind fun M11 =>
  some ((1, M11))
  )
  )
set_option maxHeartbeats 4000000 in
set_option maxRecDepth 100000 in
theorem okX11_thing {g : tG} {a1 : Int32} {a2 : Int32} {a3 : Int64} {M : tM} {v : Int32} {Mz : tM} (h : fX11_thing a1 a2 a3 M = some ((v, Mz))) : TMet g yX11_thing (Cond.code yX11_thing cX11_thing 5 (some .int) :: tgd) rmX11_thing [tr 11 0, ti a1, ti a2, tl a3] M (some (ti v)) Mz 0 0 := by
  have key : TW g iX11_thing rmX11_thing 0 0 (some (ti v)) Mz 0 0 0 [(0, tr 11 0), (1, ti a1), (2, ti a2), (3, tl a3)] [] M := by
    rw [fX11_thing] at h
    refine tm_aload_n dX11_thing_0 rfl rfl ?_
    refine tm_iload_n dX11_thing_1 rfl rfl ?_
    obtain ⟨x1, hc2, h⟩ := obind_some h
    refine tm_callV kX11 rfl (avs := [ti a1]) (st := []) (okX11_isLine hc2) wcX11_232.1 wcX11_232.2.1 wcX11_232.2.2.1 wcX11_232.2.2.2 ⟨rfl, rfl, Nat.le_of_ble_eq_true rfl, Nat.le_of_ble_eq_true rfl⟩ rfl (Nat.le_of_ble_eq_true rfl) ⟨Nat.zero_le _, Nat.zero_le _⟩ dX11_thing_2 ?_
    refine tm_if_ne (tgt := 10) dX11_thing_5 (by decide) (fun c3 => ?_) (fun c3 => ?_)
    · rw [if_neg c3] at h
      refine tm_iload_n dX11_thing_10 rfl rfl ?_
      refine tm_iconst (v := 0) dX11_thing_11 (by decide) ?_
      refine tm_aload_n dX11_thing_12 rfl rfl ?_
      refine tm_get kX11 rfl (j := 17) (by decide) wfX11_53 dX11_thing_13 (v := tr 1217 0) rfl ?_
      refine tm_iload_n dX11_thing_16 rfl rfl ?_
      obtain ⟨b4, h⟩ := chk_some h
      refine tm_iald rfl dX11_thing_17 (inb_vp b4) ?_
      refine tm_iconst (v := 1) dX11_thing_18 (by decide) ?_
      refine tm_isub dX11_thing_19 ?_
      obtain ⟨x5, hc6, h⟩ := obind_some h
      refine tm_callS (avs := [ti a2, ti 0, ti ((mI M 1217 0 (a1.toNatClampNeg)) - 1)]) (st := []) (okX11_in hc6) wcX11_205.1 wcX11_205.2.1 wcX11_205.2.2 ⟨rfl, rfl, Nat.le_of_ble_eq_true rfl, Nat.le_of_ble_eq_true rfl⟩ rfl (Nat.le_of_ble_eq_true rfl) ⟨Nat.zero_le _, Nat.zero_le _⟩ dX11_thing_20 ?_
      refine tm_if_ne (tgt := 32) dX11_thing_23 (by decide) (fun c7 => ?_) (fun c7 => ?_)
      · rw [if_neg c7] at h
        refine tm_aload_n dX11_thing_32 rfl rfl ?_
        refine tm_get kX11 rfl (j := 18) (by decide) wfX11_56 dX11_thing_33 (v := tr 1218 0) rfl ?_
        refine tm_bipush (v := 60) dX11_thing_36 (by decide) ?_
        refine tm_iload_n dX11_thing_38 rfl rfl ?_
        refine tm_imul dX11_thing_39 ?_
        refine tm_iload_n dX11_thing_40 rfl rfl ?_
        refine tm_iadd dX11_thing_41 ?_
        refine tm_lload_n dX11_thing_42 rfl rfl ?_
        obtain ⟨b8, h⟩ := chk_some h
        obtain ⟨M9, eM9, h⟩ := bnd_some h
        refine tm_last rfl dX11_thing_43 (inb_vp b8) ?_
        refine tm_nmM eM9 ?_
        refine tm_aload_n dX11_thing_44 rfl rfl ?_
        obtain ⟨M11, hc10, h⟩ := obind_some h
        refine tm_callV kX11 rfl (avs := []) (st := []) (okX11_begins hc10) wcX11_218.1 wcX11_218.2.1 wcX11_218.2.2.1 wcX11_218.2.2.2 ⟨rfl, rfl, Nat.le_of_ble_eq_true rfl, Nat.le_of_ble_eq_true rfl⟩ rfl (Nat.le_of_ble_eq_true rfl) ⟨Nat.zero_le _, Nat.zero_le _⟩ dX11_thing_45 ?_
        refine tm_iconst (v := 1) dX11_thing_48 (by decide) ?_
        obtain ⟨rfl, rfl⟩ := pj2 h
        exact tm_iret rfl dX11_thing_49
      · rw [if_pos c7] at h
        refine tm_aload_n dX11_thing_26 rfl rfl ?_
        refine tm_iconst (v := 2) dX11_thing_27 (by decide) ?_
        obtain ⟨⟨x12, M14⟩, hc13, h⟩ := obind_some h
        dsimp only at h
        refine tm_callV kX11 rfl (avs := [ti 2]) (st := []) (okX11_meets hc13) wcX11_221.1 wcX11_221.2.1 wcX11_221.2.2.1 wcX11_221.2.2.2 ⟨rfl, rfl, Nat.le_of_ble_eq_true rfl, Nat.le_of_ble_eq_true rfl⟩ rfl (Nat.le_of_ble_eq_true rfl) ⟨Nat.zero_le _, Nat.zero_le _⟩ dX11_thing_28 ?_
        obtain ⟨rfl, rfl⟩ := pj2 h
        exact tm_iret rfl dX11_thing_31
    · rw [if_pos c3] at h
      refine tm_iconst (v := (-1)) dX11_thing_8 (by decide) ?_
      obtain ⟨rfl, rfl⟩ := pj2 h
      exact tm_iret rfl dX11_thing_9
  exact TMet.of (by decide) (Nat.le_of_ble_eq_true rfl) key
abbrev iX11_row : tY := (RX11, cX11_row, 5, some .int, "row")
abbrev rmX11_row : Room := { frames := 2, cells := 0, slots := 0, locals := 43 }
def fX11_row (a1 : Int32) (a2 : Int32) (a3 : Int64) (M : tM) : Option (Int32 × tM) :=
  (fX11_isPart a1 M).bind fun x1 =>
  if x1 = 0 then (
  some (((-1), M))
  ) else (
  chk (inb a1 (mN M 1203 0)) <|
  if (mI M 1203 0 (a1.toNatClampNeg)) = 5 then (
  chk (inb a1 (mN M 1206 0)) <|
  if 0 ≤ (mI M 1206 0 (a1.toNatClampNeg)) then (
  chk (inb a1 (mN M 1206 0)) <|
  (fX11_in a2 0 ((mI M 1206 0 (a1.toNatClampNeg)) - 1) M).bind fun x9 =>
  if x9 = 0 then (
  (fX11_meets 2 M).bind fun (x16, M18) =>
  some ((x16, M18))
  ) else (
  chk (inb ((12 * a1) + a2) (mN M 1207 0)) <|
  bnd (sL M 1207 0 (((12 * a1) + a2).toNatClampNeg) a3) fun M13 =>
  (fX11_begins M13).bind fun M15 =>
  some ((1, M15))
  )
  ) else (
  (fX11_meets 1 M).bind fun (x19, M21) =>
  some ((x19, M21))
  )
  ) else (
  (fX11_meets 3 M).bind fun (x22, M24) =>
  some ((x22, M24))
  )
  )
set_option maxHeartbeats 4000000 in
set_option maxRecDepth 100000 in
theorem okX11_row {g : tG} {a1 : Int32} {a2 : Int32} {a3 : Int64} {M : tM} {v : Int32} {Mz : tM} (h : fX11_row a1 a2 a3 M = some ((v, Mz))) : TMet g yX11_row (Cond.code yX11_row cX11_row 5 (some .int) :: tgd) rmX11_row [tr 11 0, ti a1, ti a2, tl a3] M (some (ti v)) Mz 0 0 := by
  have key : TW g iX11_row rmX11_row 0 0 (some (ti v)) Mz 0 0 0 [(0, tr 11 0), (1, ti a1), (2, ti a2), (3, tl a3)] [] M := by
    rw [fX11_row] at h
    refine tm_aload_n dX11_row_0 rfl rfl ?_
    refine tm_iload_n dX11_row_1 rfl rfl ?_
    obtain ⟨x1, hc2, h⟩ := obind_some h
    refine tm_callV kX11 rfl (avs := [ti a1]) (st := []) (okX11_isPart hc2) wcX11_228.1 wcX11_228.2.1 wcX11_228.2.2.1 wcX11_228.2.2.2 ⟨rfl, rfl, Nat.le_of_ble_eq_true rfl, Nat.le_of_ble_eq_true rfl⟩ rfl (Nat.le_of_ble_eq_true rfl) ⟨Nat.zero_le _, Nat.zero_le _⟩ dX11_row_2 ?_
    refine tm_if_ne (tgt := 10) dX11_row_5 (by decide) (fun c3 => ?_) (fun c3 => ?_)
    · rw [if_neg c3] at h
      refine tm_aload_n dX11_row_10 rfl rfl ?_
      refine tm_get kX11 rfl (j := 3) (by decide) wfX11_13 dX11_row_11 (v := tr 1203 0) rfl ?_
      refine tm_iload_n dX11_row_14 rfl rfl ?_
      obtain ⟨b4, h⟩ := chk_some h
      refine tm_iald rfl dX11_row_15 (inb_vp b4) ?_
      refine tm_iconst (v := 5) dX11_row_16 (by decide) ?_
      refine tm_icmp_eq (tgt := 26) dX11_row_17 (by decide) (fun c5 => ?_) (fun c5 => ?_)
      · rw [if_pos c5] at h
        refine tm_aload_n dX11_row_26 rfl rfl ?_
        refine tm_get kX11 rfl (j := 6) (by decide) wfX11_23 dX11_row_27 (v := tr 1206 0) rfl ?_
        refine tm_iload_n dX11_row_30 rfl rfl ?_
        obtain ⟨b6, h⟩ := chk_some h
        refine tm_iald rfl dX11_row_31 (inb_vp b6) ?_
        refine tm_if_ge (tgt := 41) dX11_row_32 (by decide) (fun c7 => ?_) (fun c7 => ?_)
        · rw [if_pos c7] at h
          refine tm_iload_n dX11_row_41 rfl rfl ?_
          refine tm_iconst (v := 0) dX11_row_42 (by decide) ?_
          refine tm_aload_n dX11_row_43 rfl rfl ?_
          refine tm_get kX11 rfl (j := 6) (by decide) wfX11_23 dX11_row_44 (v := tr 1206 0) rfl ?_
          refine tm_iload_n dX11_row_47 rfl rfl ?_
          obtain ⟨b8, h⟩ := chk_some h
          refine tm_iald rfl dX11_row_48 (inb_vp b8) ?_
          refine tm_iconst (v := 1) dX11_row_49 (by decide) ?_
          refine tm_isub dX11_row_50 ?_
          obtain ⟨x9, hc10, h⟩ := obind_some h
          refine tm_callS (avs := [ti a2, ti 0, ti ((mI M 1206 0 (a1.toNatClampNeg)) - 1)]) (st := []) (okX11_in hc10) wcX11_205.1 wcX11_205.2.1 wcX11_205.2.2 ⟨rfl, rfl, Nat.le_of_ble_eq_true rfl, Nat.le_of_ble_eq_true rfl⟩ rfl (Nat.le_of_ble_eq_true rfl) ⟨Nat.zero_le _, Nat.zero_le _⟩ dX11_row_51 ?_
          refine tm_if_ne (tgt := 63) dX11_row_54 (by decide) (fun c11 => ?_) (fun c11 => ?_)
          · rw [if_neg c11] at h
            refine tm_aload_n dX11_row_63 rfl rfl ?_
            refine tm_get kX11 rfl (j := 7) (by decide) wfX11_26 dX11_row_64 (v := tr 1207 0) rfl ?_
            refine tm_bipush (v := 12) dX11_row_67 (by decide) ?_
            refine tm_iload_n dX11_row_69 rfl rfl ?_
            refine tm_imul dX11_row_70 ?_
            refine tm_iload_n dX11_row_71 rfl rfl ?_
            refine tm_iadd dX11_row_72 ?_
            refine tm_lload_n dX11_row_73 rfl rfl ?_
            obtain ⟨b12, h⟩ := chk_some h
            obtain ⟨M13, eM13, h⟩ := bnd_some h
            refine tm_last rfl dX11_row_74 (inb_vp b12) ?_
            refine tm_nmM eM13 ?_
            refine tm_aload_n dX11_row_75 rfl rfl ?_
            obtain ⟨M15, hc14, h⟩ := obind_some h
            refine tm_callV kX11 rfl (avs := []) (st := []) (okX11_begins hc14) wcX11_218.1 wcX11_218.2.1 wcX11_218.2.2.1 wcX11_218.2.2.2 ⟨rfl, rfl, Nat.le_of_ble_eq_true rfl, Nat.le_of_ble_eq_true rfl⟩ rfl (Nat.le_of_ble_eq_true rfl) ⟨Nat.zero_le _, Nat.zero_le _⟩ dX11_row_76 ?_
            refine tm_iconst (v := 1) dX11_row_79 (by decide) ?_
            obtain ⟨rfl, rfl⟩ := pj2 h
            exact tm_iret rfl dX11_row_80
          · rw [if_pos c11] at h
            refine tm_aload_n dX11_row_57 rfl rfl ?_
            refine tm_iconst (v := 2) dX11_row_58 (by decide) ?_
            obtain ⟨⟨x16, M18⟩, hc17, h⟩ := obind_some h
            dsimp only at h
            refine tm_callV kX11 rfl (avs := [ti 2]) (st := []) (okX11_meets hc17) wcX11_221.1 wcX11_221.2.1 wcX11_221.2.2.1 wcX11_221.2.2.2 ⟨rfl, rfl, Nat.le_of_ble_eq_true rfl, Nat.le_of_ble_eq_true rfl⟩ rfl (Nat.le_of_ble_eq_true rfl) ⟨Nat.zero_le _, Nat.zero_le _⟩ dX11_row_59 ?_
            obtain ⟨rfl, rfl⟩ := pj2 h
            exact tm_iret rfl dX11_row_62
        · rw [if_neg c7] at h
          refine tm_aload_n dX11_row_35 rfl rfl ?_
          refine tm_iconst (v := 1) dX11_row_36 (by decide) ?_
          obtain ⟨⟨x19, M21⟩, hc20, h⟩ := obind_some h
          dsimp only at h
          refine tm_callV kX11 rfl (avs := [ti 1]) (st := []) (okX11_meets hc20) wcX11_221.1 wcX11_221.2.1 wcX11_221.2.2.1 wcX11_221.2.2.2 ⟨rfl, rfl, Nat.le_of_ble_eq_true rfl, Nat.le_of_ble_eq_true rfl⟩ rfl (Nat.le_of_ble_eq_true rfl) ⟨Nat.zero_le _, Nat.zero_le _⟩ dX11_row_37 ?_
          obtain ⟨rfl, rfl⟩ := pj2 h
          exact tm_iret rfl dX11_row_40
      · rw [if_neg c5] at h
        refine tm_aload_n dX11_row_20 rfl rfl ?_
        refine tm_iconst (v := 3) dX11_row_21 (by decide) ?_
        obtain ⟨⟨x22, M24⟩, hc23, h⟩ := obind_some h
        dsimp only at h
        refine tm_callV kX11 rfl (avs := [ti 3]) (st := []) (okX11_meets hc23) wcX11_221.1 wcX11_221.2.1 wcX11_221.2.2.1 wcX11_221.2.2.2 ⟨rfl, rfl, Nat.le_of_ble_eq_true rfl, Nat.le_of_ble_eq_true rfl⟩ rfl (Nat.le_of_ble_eq_true rfl) ⟨Nat.zero_le _, Nat.zero_le _⟩ dX11_row_22 ?_
        obtain ⟨rfl, rfl⟩ := pj2 h
        exact tm_iret rfl dX11_row_25
    · rw [if_pos c3] at h
      refine tm_iconst (v := (-1)) dX11_row_8 (by decide) ?_
      obtain ⟨rfl, rfl⟩ := pj2 h
      exact tm_iret rfl dX11_row_9
  exact TMet.of (by decide) (Nat.le_of_ble_eq_true rfl) key
abbrev iX11_isSpan : tY := (RX11, cX11_isSpan, 3, some .boolean, "isSpan")
abbrev rmX11_isSpan : Room := { frames := 0, cells := 0, slots := 0, locals := 0 }
def fX11_isSpan (a1 : Int32) (a2 : Int32) (a3 : Int32) (M : tM) : Option (Int32) :=
  if a1 < 0 then (
  some 0
  ) else (
  if a2 < 0 then (
  some 0
  ) else (
  if 0 < (lg_cmp ((a1.toInt64) + (a2.toInt64)) (a3.toInt64)) then (
  some 0
  ) else (
  some 1
  )
  )
  )
set_option maxHeartbeats 4000000 in
set_option maxRecDepth 100000 in
theorem okX11_isSpan {g : tG} {a1 : Int32} {a2 : Int32} {a3 : Int32} {M : tM} {v : Int32} (h : fX11_isSpan a1 a2 a3 M = some v) : TMet g yX11_isSpan (Cond.code yX11_isSpan cX11_isSpan 3 (some .boolean) :: tgd) rmX11_isSpan [ti a1, ti a2, ti a3] M (some (ti v)) M 0 0 := by
  have key : TW g iX11_isSpan rmX11_isSpan 0 0 (some (ti v)) M 0 0 0 [(0, ti a1), (1, ti a2), (2, ti a3)] [] M := by
    rw [fX11_isSpan] at h
    refine tm_iload_n dX11_isSpan_0 rfl rfl ?_
    refine tm_if_lt (tgt := 23) dX11_isSpan_1 (by decide) (fun c1 => ?_) (fun c1 => ?_)
    · rw [if_pos c1] at h
      refine tm_iconst (v := 0) dX11_isSpan_23 (by decide) ?_
      obtain rfl := Option.some.inj h
      exact tm_zret (by decide) rfl dX11_isSpan_24
    · rw [if_neg c1] at h
      refine tm_iload_n dX11_isSpan_4 rfl rfl ?_
      refine tm_if_lt (tgt := 23) dX11_isSpan_5 (by decide) (fun c2 => ?_) (fun c2 => ?_)
      · rw [if_pos c2] at h
        refine tm_iconst (v := 0) dX11_isSpan_23 (by decide) ?_
        obtain rfl := Option.some.inj h
        exact tm_zret (by decide) rfl dX11_isSpan_24
      · rw [if_neg c2] at h
        refine tm_iload_n dX11_isSpan_8 rfl rfl ?_
        refine tm_i2l dX11_isSpan_9 ?_
        refine tm_iload_n dX11_isSpan_10 rfl rfl ?_
        refine tm_i2l dX11_isSpan_11 ?_
        refine tm_ladd dX11_isSpan_12 ?_
        refine tm_iload_n dX11_isSpan_13 rfl rfl ?_
        refine tm_i2l dX11_isSpan_14 ?_
        refine tm_lcmp dX11_isSpan_15 ?_
        refine tm_if_gt (tgt := 23) dX11_isSpan_16 (by decide) (fun c3 => ?_) (fun c3 => ?_)
        · rw [if_pos c3] at h
          refine tm_iconst (v := 0) dX11_isSpan_23 (by decide) ?_
          obtain rfl := Option.some.inj h
          exact tm_zret (by decide) rfl dX11_isSpan_24
        · rw [if_neg c3] at h
          refine tm_iconst (v := 1) dX11_isSpan_19 (by decide) ?_
          refine tm_goto (tgt := 24) dX11_isSpan_20 (by decide) ?_
          obtain rfl := Option.some.inj h
          exact tm_zret (by decide) rfl dX11_isSpan_24
  exact TMet.of (by decide) (Nat.le_of_ble_eq_true rfl) key
theorem wcX11_235 : tCB RX11 235 yX11_isSpan cX11_isSpan 3 (some .boolean) 3 ∧ Cond.methodLink RX11 235 yX11_isSpan ∈ tgd ∧ Cond.static yX11_isSpan ∈ tgd := ⟨⟨(tgd_t 1515 (by decide +kernel) (by decide +kernel)), (tgd_t 10 (by decide +kernel) (by decide +kernel)), by decide, by decide +kernel⟩, (tgd_t 1513 (by decide +kernel) (by decide +kernel)), (tgd_t 1514 (by decide +kernel) (by decide +kernel))⟩
theorem wfX11_83 : Cond.fieldLink RX11 83 "EvenFlowModel" "moving" "[J" ∈ tgd := (tgd_t 1256 (by decide +kernel) (by decide +kernel))
abbrev iX11_copy : tY := (RX11, cX11_copy, 7, some .int, "copy")
abbrev rmX11_copy : Room := { frames := 2, cells := 0, slots := 0, locals := 43 }
def fX11_copy_l108 (z1 : Int32) (z2 : Int32) (z3 : Int32) (z4 : Int32) (z5 : Int32) : Nat → Int32 → tM → Option (tM)
  | 0, _, _ => none
  | n + 1, y6, M =>
    if z5 ≤ y6 then (
    some M
    ) else (
    chk (inb (((12 * z1) + z2) + y6) (mN M 1207 0)) <|
    chk (inb y6 (mN M 1231 0)) <|
    bnd (sL M 1231 0 (y6.toNatClampNeg) (mL M 1207 0 ((((12 * z1) + z2) + y6).toNatClampNeg))) fun M35 =>
    bnd (y6 + 1) fun x36 =>
    fX11_copy_l108 z1 z2 z3 z4 z5 n x36 M35
    )
def fX11_copy_l145 (z3 : Int32) (z4 : Int32) (z5 : Int32) : Nat → Int32 → tM → Option (tM)
  | 0, _, _ => none
  | n + 1, y6, M =>
    if z5 ≤ y6 then (
    some M
    ) else (
    chk (inb y6 (mN M 1231 0)) <|
    chk (inb (((12 * z3) + z4) + y6) (mN M 1207 0)) <|
    bnd (sL M 1207 0 ((((12 * z3) + z4) + y6).toNatClampNeg) (mL M 1231 0 (y6.toNatClampNeg))) fun M43 =>
    bnd (y6 + 1) fun x44 =>
    fX11_copy_l145 z3 z4 z5 n x44 M43
    )
def fX11_copy (a1 : Int32) (a2 : Int32) (a3 : Int32) (a4 : Int32) (a5 : Int32) (M : tM) : Option (Int32 × tM) :=
  (fX11_isPart a1 M).bind fun x1 =>
  if x1 = 0 then (
  some (((-1), M))
  ) else (
  (fX11_isPart a3 M).bind fun x4 =>
  if x4 = 0 then (
  some (((-1), M))
  ) else (
  chk (inb a1 (mN M 1203 0)) <|
  if (mI M 1203 0 (a1.toNatClampNeg)) = 5 then (
  chk (inb a3 (mN M 1203 0)) <|
  if (mI M 1203 0 (a3.toNatClampNeg)) = 5 then (
  chk (inb a1 (mN M 1206 0)) <|
  if (mI M 1206 0 (a1.toNatClampNeg)) < 0 then (
  (fX11_meets 1 M).bind fun (x16, M18) =>
  some ((x16, M18))
  ) else (
  chk (inb a3 (mN M 1206 0)) <|
  if 0 ≤ (mI M 1206 0 (a3.toNatClampNeg)) then (
  chk (inb a1 (mN M 1206 0)) <|
  (fX11_isSpan a2 a5 (mI M 1206 0 (a1.toNatClampNeg)) M).bind fun x22 =>
  if x22 = 0 then (
  (fX11_meets 2 M).bind fun (x25, M27) =>
  some ((x25, M27))
  ) else (
  chk (inb a3 (mN M 1206 0)) <|
  (fX11_isSpan a4 a5 (mI M 1206 0 (a3.toNatClampNeg)) M).bind fun x29 =>
  if x29 = 0 then (
  (fX11_meets 2 M).bind fun (x50, M52) =>
  some ((x50, M52))
  ) else (
  Option.bind (fX11_copy_l108 a1 a2 a3 a4 a5 FU 0 M) fun M39 =>
  Option.bind (fX11_copy_l145 a3 a4 a5 FU 0 M39) fun M47 =>
  (fX11_begins M47).bind fun M49 =>
  some ((1, M49))
  )
  )
  ) else (
  (fX11_meets 1 M).bind fun (x53, M55) =>
  some ((x53, M55))
  )
  )
  ) else (
  (fX11_meets 3 M).bind fun (x56, M58) =>
  some ((x56, M58))
  )
  ) else (
  (fX11_meets 3 M).bind fun (x9, M11) =>
  some ((x9, M11))
  )
  )
  )
set_option maxHeartbeats 4000000 in
set_option maxRecDepth 100000 in
theorem okX11_copy_l108 {g : tG} (z1 : Int32) (z2 : Int32) (z3 : Int32) (z4 : Int32) (z5 : Int32) {r : Option tV} {Mz : tM} : ∀ (n : Nat) (y6 : Int32) (M : tM) (w : tM), fX11_copy_l108 z1 z2 z3 z4 z5 n y6 M = some w → (∀ (Mw : tM), Mw = w → TW g iX11_copy rmX11_copy 0 0 r Mz 0 0 142 [(0, tr 11 0), (3, ti z3), (4, ti z4), (5, ti z5)] [] Mw) → TW g iX11_copy rmX11_copy 0 0 r Mz 0 0 108 [(0, tr 11 0), (1, ti z1), (2, ti z2), (3, ti z3), (4, ti z4), (5, ti z5), (6, ti y6)] [] M := by
  intro n
  induction n with
  | zero => intro y6 M w h; cases h
  | succ n ih =>
    intro y6 M w h J
    rw [fX11_copy_l108] at h
    refine tm_iload dX11_copy_108 rfl ?_
    refine tm_iload dX11_copy_110 rfl ?_
    refine tm_icmp_ge (tgt := 142) dX11_copy_112 (by decide) (fun c32 => ?_) (fun c32 => ?_)
    · rw [if_pos c32] at h
      obtain rfl := Option.some.inj h
      refine tm_lcp [0, 3, 4, 5] rfl ?_
      exact J _ rfl
    · rw [if_neg c32] at h
      refine tm_aload_n dX11_copy_115 rfl rfl ?_
      refine tm_get kX11 rfl (j := 31) (by decide) wfX11_83 dX11_copy_116 (v := tr 1231 0) rfl ?_
      refine tm_iload dX11_copy_119 rfl ?_
      refine tm_aload_n dX11_copy_121 rfl rfl ?_
      refine tm_get kX11 rfl (j := 7) (by decide) wfX11_26 dX11_copy_122 (v := tr 1207 0) rfl ?_
      refine tm_bipush (v := 12) dX11_copy_125 (by decide) ?_
      refine tm_iload_n dX11_copy_127 rfl rfl ?_
      refine tm_imul dX11_copy_128 ?_
      refine tm_iload_n dX11_copy_129 rfl rfl ?_
      refine tm_iadd dX11_copy_130 ?_
      refine tm_iload dX11_copy_131 rfl ?_
      refine tm_iadd dX11_copy_133 ?_
      obtain ⟨b33, h⟩ := chk_some h
      refine tm_lald rfl dX11_copy_134 (inb_vp b33) ?_
      obtain ⟨b34, h⟩ := chk_some h
      obtain ⟨M35, eM35, h⟩ := bnd_some h
      refine tm_last rfl dX11_copy_135 (inb_vp b34) ?_
      refine tm_nmM eM35 ?_
      obtain ⟨x36, ex36, h⟩ := bnd_some h
      refine tm_iinc (v := x36) (lc' := [(6, ti x36), (0, tr 11 0), (1, ti z1), (2, ti z2), (3, ti z3), (4, ti z4), (5, ti z5)]) dX11_copy_136 rfl (by rw [ex36]; rfl) (by decide) rfl ?_
      refine tm_goto (tgt := 108) dX11_copy_139 (by decide) ?_
      refine tm_lcp [0, 1, 2, 3, 4, 5, 6] rfl ?_
      exact ih x36 M35 _ h J
set_option maxHeartbeats 4000000 in
set_option maxRecDepth 100000 in
theorem okX11_copy_l145 {g : tG} (z3 : Int32) (z4 : Int32) (z5 : Int32) {r : Option tV} {Mz : tM} : ∀ (n : Nat) (y6 : Int32) (M : tM) (w : tM), fX11_copy_l145 z3 z4 z5 n y6 M = some w → (∀ (Mw : tM), Mw = w → TW g iX11_copy rmX11_copy 0 0 r Mz 0 0 180 [(0, tr 11 0)] [] Mw) → TW g iX11_copy rmX11_copy 0 0 r Mz 0 0 145 [(0, tr 11 0), (3, ti z3), (4, ti z4), (5, ti z5), (6, ti y6)] [] M := by
  intro n
  induction n with
  | zero => intro y6 M w h; cases h
  | succ n ih =>
    intro y6 M w h J
    rw [fX11_copy_l145] at h
    refine tm_iload dX11_copy_145 rfl ?_
    refine tm_iload dX11_copy_147 rfl ?_
    refine tm_icmp_ge (tgt := 180) dX11_copy_149 (by decide) (fun c40 => ?_) (fun c40 => ?_)
    · rw [if_pos c40] at h
      obtain rfl := Option.some.inj h
      refine tm_lcp [0] rfl ?_
      exact J _ rfl
    · rw [if_neg c40] at h
      refine tm_aload_n dX11_copy_152 rfl rfl ?_
      refine tm_get kX11 rfl (j := 7) (by decide) wfX11_26 dX11_copy_153 (v := tr 1207 0) rfl ?_
      refine tm_bipush (v := 12) dX11_copy_156 (by decide) ?_
      refine tm_iload_n dX11_copy_158 rfl rfl ?_
      refine tm_imul dX11_copy_159 ?_
      refine tm_iload dX11_copy_160 rfl ?_
      refine tm_iadd dX11_copy_162 ?_
      refine tm_iload dX11_copy_163 rfl ?_
      refine tm_iadd dX11_copy_165 ?_
      refine tm_aload_n dX11_copy_166 rfl rfl ?_
      refine tm_get kX11 rfl (j := 31) (by decide) wfX11_83 dX11_copy_167 (v := tr 1231 0) rfl ?_
      refine tm_iload dX11_copy_170 rfl ?_
      obtain ⟨b41, h⟩ := chk_some h
      refine tm_lald rfl dX11_copy_172 (inb_vp b41) ?_
      obtain ⟨b42, h⟩ := chk_some h
      obtain ⟨M43, eM43, h⟩ := bnd_some h
      refine tm_last rfl dX11_copy_173 (inb_vp b42) ?_
      refine tm_nmM eM43 ?_
      obtain ⟨x44, ex44, h⟩ := bnd_some h
      refine tm_iinc (v := x44) (lc' := [(6, ti x44), (0, tr 11 0), (3, ti z3), (4, ti z4), (5, ti z5)]) dX11_copy_174 rfl (by rw [ex44]; rfl) (by decide) rfl ?_
      refine tm_goto (tgt := 145) dX11_copy_177 (by decide) ?_
      refine tm_lcp [0, 3, 4, 5, 6] rfl ?_
      exact ih x44 M43 _ h J
set_option maxHeartbeats 4000000 in
set_option maxRecDepth 100000 in
theorem okX11_copy {g : tG} {a1 : Int32} {a2 : Int32} {a3 : Int32} {a4 : Int32} {a5 : Int32} {M : tM} {v : Int32} {Mz : tM} (h : fX11_copy a1 a2 a3 a4 a5 M = some ((v, Mz))) : TMet g yX11_copy (Cond.code yX11_copy cX11_copy 7 (some .int) :: tgd) rmX11_copy [tr 11 0, ti a1, ti a2, ti a3, ti a4, ti a5] M (some (ti v)) Mz 0 0 := by
  have key : TW g iX11_copy rmX11_copy 0 0 (some (ti v)) Mz 0 0 0 [(0, tr 11 0), (1, ti a1), (2, ti a2), (3, ti a3), (4, ti a4), (5, ti a5)] [] M := by
    rw [fX11_copy] at h
    refine tm_aload_n dX11_copy_0 rfl rfl ?_
    refine tm_iload_n dX11_copy_1 rfl rfl ?_
    obtain ⟨x1, hc2, h⟩ := obind_some h
    refine tm_callV kX11 rfl (avs := [ti a1]) (st := []) (okX11_isPart hc2) wcX11_228.1 wcX11_228.2.1 wcX11_228.2.2.1 wcX11_228.2.2.2 ⟨rfl, rfl, Nat.le_of_ble_eq_true rfl, Nat.le_of_ble_eq_true rfl⟩ rfl (Nat.le_of_ble_eq_true rfl) ⟨Nat.zero_le _, Nat.zero_le _⟩ dX11_copy_2 ?_
    refine tm_if_eq (tgt := 16) dX11_copy_5 (by decide) (fun c3 => ?_) (fun c3 => ?_)
    · rw [if_pos c3] at h
      refine tm_iconst (v := (-1)) dX11_copy_16 (by decide) ?_
      obtain ⟨rfl, rfl⟩ := pj2 h
      exact tm_iret rfl dX11_copy_17
    · rw [if_neg c3] at h
      refine tm_aload_n dX11_copy_8 rfl rfl ?_
      refine tm_iload_n dX11_copy_9 rfl rfl ?_
      obtain ⟨x4, hc5, h⟩ := obind_some h
      refine tm_callV kX11 rfl (avs := [ti a3]) (st := []) (okX11_isPart hc5) wcX11_228.1 wcX11_228.2.1 wcX11_228.2.2.1 wcX11_228.2.2.2 ⟨rfl, rfl, Nat.le_of_ble_eq_true rfl, Nat.le_of_ble_eq_true rfl⟩ rfl (Nat.le_of_ble_eq_true rfl) ⟨Nat.zero_le _, Nat.zero_le _⟩ dX11_copy_10 ?_
      refine tm_if_ne (tgt := 18) dX11_copy_13 (by decide) (fun c6 => ?_) (fun c6 => ?_)
      · rw [if_neg c6] at h
        refine tm_aload_n dX11_copy_18 rfl rfl ?_
        refine tm_get kX11 rfl (j := 3) (by decide) wfX11_13 dX11_copy_19 (v := tr 1203 0) rfl ?_
        refine tm_iload_n dX11_copy_22 rfl rfl ?_
        obtain ⟨b7, h⟩ := chk_some h
        refine tm_iald rfl dX11_copy_23 (inb_vp b7) ?_
        refine tm_iconst (v := 5) dX11_copy_24 (by decide) ?_
        refine tm_icmp_ne (tgt := 38) dX11_copy_25 (by decide) (fun c8 => ?_) (fun c8 => ?_)
        · rw [if_neg c8] at h
          refine tm_aload_n dX11_copy_38 rfl rfl ?_
          refine tm_iconst (v := 3) dX11_copy_39 (by decide) ?_
          obtain ⟨⟨x9, M11⟩, hc10, h⟩ := obind_some h
          dsimp only at h
          refine tm_callV kX11 rfl (avs := [ti 3]) (st := []) (okX11_meets hc10) wcX11_221.1 wcX11_221.2.1 wcX11_221.2.2.1 wcX11_221.2.2.2 ⟨rfl, rfl, Nat.le_of_ble_eq_true rfl, Nat.le_of_ble_eq_true rfl⟩ rfl (Nat.le_of_ble_eq_true rfl) ⟨Nat.zero_le _, Nat.zero_le _⟩ dX11_copy_40 ?_
          obtain ⟨rfl, rfl⟩ := pj2 h
          exact tm_iret rfl dX11_copy_43
        · rw [if_pos c8] at h
          refine tm_aload_n dX11_copy_28 rfl rfl ?_
          refine tm_get kX11 rfl (j := 3) (by decide) wfX11_13 dX11_copy_29 (v := tr 1203 0) rfl ?_
          refine tm_iload_n dX11_copy_32 rfl rfl ?_
          obtain ⟨b12, h⟩ := chk_some h
          refine tm_iald rfl dX11_copy_33 (inb_vp b12) ?_
          refine tm_iconst (v := 5) dX11_copy_34 (by decide) ?_
          refine tm_icmp_eq (tgt := 44) dX11_copy_35 (by decide) (fun c13 => ?_) (fun c13 => ?_)
          · rw [if_pos c13] at h
            refine tm_aload_n dX11_copy_44 rfl rfl ?_
            refine tm_get kX11 rfl (j := 6) (by decide) wfX11_23 dX11_copy_45 (v := tr 1206 0) rfl ?_
            refine tm_iload_n dX11_copy_48 rfl rfl ?_
            obtain ⟨b14, h⟩ := chk_some h
            refine tm_iald rfl dX11_copy_49 (inb_vp b14) ?_
            refine tm_if_lt (tgt := 62) dX11_copy_50 (by decide) (fun c15 => ?_) (fun c15 => ?_)
            · rw [if_pos c15] at h
              refine tm_aload_n dX11_copy_62 rfl rfl ?_
              refine tm_iconst (v := 1) dX11_copy_63 (by decide) ?_
              obtain ⟨⟨x16, M18⟩, hc17, h⟩ := obind_some h
              dsimp only at h
              refine tm_callV kX11 rfl (avs := [ti 1]) (st := []) (okX11_meets hc17) wcX11_221.1 wcX11_221.2.1 wcX11_221.2.2.1 wcX11_221.2.2.2 ⟨rfl, rfl, Nat.le_of_ble_eq_true rfl, Nat.le_of_ble_eq_true rfl⟩ rfl (Nat.le_of_ble_eq_true rfl) ⟨Nat.zero_le _, Nat.zero_le _⟩ dX11_copy_64 ?_
              obtain ⟨rfl, rfl⟩ := pj2 h
              exact tm_iret rfl dX11_copy_67
            · rw [if_neg c15] at h
              refine tm_aload_n dX11_copy_53 rfl rfl ?_
              refine tm_get kX11 rfl (j := 6) (by decide) wfX11_23 dX11_copy_54 (v := tr 1206 0) rfl ?_
              refine tm_iload_n dX11_copy_57 rfl rfl ?_
              obtain ⟨b19, h⟩ := chk_some h
              refine tm_iald rfl dX11_copy_58 (inb_vp b19) ?_
              refine tm_if_ge (tgt := 68) dX11_copy_59 (by decide) (fun c20 => ?_) (fun c20 => ?_)
              · rw [if_pos c20] at h
                refine tm_iload_n dX11_copy_68 rfl rfl ?_
                refine tm_iload dX11_copy_69 rfl ?_
                refine tm_aload_n dX11_copy_71 rfl rfl ?_
                refine tm_get kX11 rfl (j := 6) (by decide) wfX11_23 dX11_copy_72 (v := tr 1206 0) rfl ?_
                refine tm_iload_n dX11_copy_75 rfl rfl ?_
                obtain ⟨b21, h⟩ := chk_some h
                refine tm_iald rfl dX11_copy_76 (inb_vp b21) ?_
                obtain ⟨x22, hc23, h⟩ := obind_some h
                refine tm_callS (avs := [ti a2, ti a5, ti (mI M 1206 0 (a1.toNatClampNeg))]) (st := []) (okX11_isSpan hc23) wcX11_235.1 wcX11_235.2.1 wcX11_235.2.2 ⟨rfl, rfl, Nat.le_of_ble_eq_true rfl, Nat.le_of_ble_eq_true rfl⟩ rfl (Nat.le_of_ble_eq_true rfl) ⟨Nat.zero_le _, Nat.zero_le _⟩ dX11_copy_77 ?_
                refine tm_if_eq (tgt := 99) dX11_copy_80 (by decide) (fun c24 => ?_) (fun c24 => ?_)
                · rw [if_pos c24] at h
                  refine tm_aload_n dX11_copy_99 rfl rfl ?_
                  refine tm_iconst (v := 2) dX11_copy_100 (by decide) ?_
                  obtain ⟨⟨x25, M27⟩, hc26, h⟩ := obind_some h
                  dsimp only at h
                  refine tm_callV kX11 rfl (avs := [ti 2]) (st := []) (okX11_meets hc26) wcX11_221.1 wcX11_221.2.1 wcX11_221.2.2.1 wcX11_221.2.2.2 ⟨rfl, rfl, Nat.le_of_ble_eq_true rfl, Nat.le_of_ble_eq_true rfl⟩ rfl (Nat.le_of_ble_eq_true rfl) ⟨Nat.zero_le _, Nat.zero_le _⟩ dX11_copy_101 ?_
                  obtain ⟨rfl, rfl⟩ := pj2 h
                  exact tm_iret rfl dX11_copy_104
                · rw [if_neg c24] at h
                  refine tm_iload dX11_copy_83 rfl ?_
                  refine tm_iload dX11_copy_85 rfl ?_
                  refine tm_aload_n dX11_copy_87 rfl rfl ?_
                  refine tm_get kX11 rfl (j := 6) (by decide) wfX11_23 dX11_copy_88 (v := tr 1206 0) rfl ?_
                  refine tm_iload_n dX11_copy_91 rfl rfl ?_
                  obtain ⟨b28, h⟩ := chk_some h
                  refine tm_iald rfl dX11_copy_92 (inb_vp b28) ?_
                  obtain ⟨x29, hc30, h⟩ := obind_some h
                  refine tm_callS (avs := [ti a4, ti a5, ti (mI M 1206 0 (a3.toNatClampNeg))]) (st := []) (okX11_isSpan hc30) wcX11_235.1 wcX11_235.2.1 wcX11_235.2.2 ⟨rfl, rfl, Nat.le_of_ble_eq_true rfl, Nat.le_of_ble_eq_true rfl⟩ rfl (Nat.le_of_ble_eq_true rfl) ⟨Nat.zero_le _, Nat.zero_le _⟩ dX11_copy_93 ?_
                  refine tm_if_ne (tgt := 105) dX11_copy_96 (by decide) (fun c31 => ?_) (fun c31 => ?_)
                  · rw [if_neg c31] at h
                    refine tm_iconst (v := 0) dX11_copy_105 (by decide) ?_
                    refine tm_istore (lc' := [(6, ti 0), (0, tr 11 0), (1, ti a1), (2, ti a2), (3, ti a3), (4, ti a4), (5, ti a5)]) dX11_copy_106 (by decide) rfl ?_
                    obtain ⟨w37, hE38, h⟩ := obind_some h
                    refine tm_lcp [0, 1, 2, 3, 4, 5, 6] rfl ?_
                    refine okX11_copy_l108 a1 a2 a3 a4 a5 FU 0 M _ hE38 (fun M39 e => ?_)
                    subst e
                    refine tm_iconst (v := 0) dX11_copy_142 (by decide) ?_
                    refine tm_istore (lc' := [(6, ti 0), (0, tr 11 0), (3, ti a3), (4, ti a4), (5, ti a5)]) dX11_copy_143 (by decide) rfl ?_
                    obtain ⟨w45, hE46, h⟩ := obind_some h
                    refine tm_lcp [0, 3, 4, 5, 6] rfl ?_
                    refine okX11_copy_l145 a3 a4 a5 FU 0 M39 _ hE46 (fun M47 e => ?_)
                    subst e
                    refine tm_aload_n dX11_copy_180 rfl rfl ?_
                    obtain ⟨M49, hc48, h⟩ := obind_some h
                    refine tm_callV kX11 rfl (avs := []) (st := []) (okX11_begins hc48) wcX11_218.1 wcX11_218.2.1 wcX11_218.2.2.1 wcX11_218.2.2.2 ⟨rfl, rfl, Nat.le_of_ble_eq_true rfl, Nat.le_of_ble_eq_true rfl⟩ rfl (Nat.le_of_ble_eq_true rfl) ⟨Nat.zero_le _, Nat.zero_le _⟩ dX11_copy_181 ?_
                    refine tm_iconst (v := 1) dX11_copy_184 (by decide) ?_
                    obtain ⟨rfl, rfl⟩ := pj2 h
                    exact tm_iret rfl dX11_copy_185
                  · rw [if_pos c31] at h
                    refine tm_aload_n dX11_copy_99 rfl rfl ?_
                    refine tm_iconst (v := 2) dX11_copy_100 (by decide) ?_
                    obtain ⟨⟨x50, M52⟩, hc51, h⟩ := obind_some h
                    dsimp only at h
                    refine tm_callV kX11 rfl (avs := [ti 2]) (st := []) (okX11_meets hc51) wcX11_221.1 wcX11_221.2.1 wcX11_221.2.2.1 wcX11_221.2.2.2 ⟨rfl, rfl, Nat.le_of_ble_eq_true rfl, Nat.le_of_ble_eq_true rfl⟩ rfl (Nat.le_of_ble_eq_true rfl) ⟨Nat.zero_le _, Nat.zero_le _⟩ dX11_copy_101 ?_
                    obtain ⟨rfl, rfl⟩ := pj2 h
                    exact tm_iret rfl dX11_copy_104
              · rw [if_neg c20] at h
                refine tm_aload_n dX11_copy_62 rfl rfl ?_
                refine tm_iconst (v := 1) dX11_copy_63 (by decide) ?_
                obtain ⟨⟨x53, M55⟩, hc54, h⟩ := obind_some h
                dsimp only at h
                refine tm_callV kX11 rfl (avs := [ti 1]) (st := []) (okX11_meets hc54) wcX11_221.1 wcX11_221.2.1 wcX11_221.2.2.1 wcX11_221.2.2.2 ⟨rfl, rfl, Nat.le_of_ble_eq_true rfl, Nat.le_of_ble_eq_true rfl⟩ rfl (Nat.le_of_ble_eq_true rfl) ⟨Nat.zero_le _, Nat.zero_le _⟩ dX11_copy_64 ?_
                obtain ⟨rfl, rfl⟩ := pj2 h
                exact tm_iret rfl dX11_copy_67
          · rw [if_neg c13] at h
            refine tm_aload_n dX11_copy_38 rfl rfl ?_
            refine tm_iconst (v := 3) dX11_copy_39 (by decide) ?_
            obtain ⟨⟨x56, M58⟩, hc57, h⟩ := obind_some h
            dsimp only at h
            refine tm_callV kX11 rfl (avs := [ti 3]) (st := []) (okX11_meets hc57) wcX11_221.1 wcX11_221.2.1 wcX11_221.2.2.1 wcX11_221.2.2.2 ⟨rfl, rfl, Nat.le_of_ble_eq_true rfl, Nat.le_of_ble_eq_true rfl⟩ rfl (Nat.le_of_ble_eq_true rfl) ⟨Nat.zero_le _, Nat.zero_le _⟩ dX11_copy_40 ?_
            obtain ⟨rfl, rfl⟩ := pj2 h
            exact tm_iret rfl dX11_copy_43
      · rw [if_pos c6] at h
        refine tm_iconst (v := (-1)) dX11_copy_16 (by decide) ?_
        obtain ⟨rfl, rfl⟩ := pj2 h
        exact tm_iret rfl dX11_copy_17
  exact TMet.of (by decide) (Nat.le_of_ble_eq_true rfl) key
