theorem wfX11_184 : Cond.fieldLink RX11 184 "EvenFlowModel" "waitOf" "[I" ∈ tgd := (tgd_t 1293 (by decide +kernel) (by decide +kernel))
theorem wfX11_187 : Cond.fieldLink RX11 187 "EvenFlowModel" "waitFor" "[I" ∈ tgd := (tgd_t 1294 (by decide +kernel) (by decide +kernel))
theorem wfX11_190 : Cond.fieldLink RX11 190 "EvenFlowModel" "waitBack" "[I" ∈ tgd := (tgd_t 1295 (by decide +kernel) (by decide +kernel))
theorem wfX11_368 : Cond.fieldLink RX11 368 "EvenFlowModel" "waitMany" "I" ∈ tgd := (tgd_t 1296 (by decide +kernel) (by decide +kernel))
abbrev iX11_waits : tY := (RX11, cX11_waits, 4, none, "waits")
abbrev rmX11_waits : Room := { frames := 0, cells := 0, slots := 0, locals := 0 }
def fX11_waits (a1 : Int32) (a2 : Int32) (a3 : Int32) (M : tM) : Option (tM) :=
  chk (inb (mI M 11 0 71) (mN M 1268 0)) <|
  bnd (sI M 1268 0 ((mI M 11 0 71).toNatClampNeg) a1) fun M2 =>
  chk (inb (mI M2 11 0 71) (mN M2 1269 0)) <|
  bnd (sI M2 1269 0 ((mI M2 11 0 71).toNatClampNeg) a2) fun M4 =>
  chk (inb (mI M4 11 0 71) (mN M4 1270 0)) <|
  bnd (sI M4 1270 0 ((mI M4 11 0 71).toNatClampNeg) a3) fun M6 =>
  bnd (sI M6 11 0 71 ((mI M6 11 0 71) + 1)) fun M7 =>
  some M7
set_option maxHeartbeats 4000000 in
set_option maxRecDepth 100000 in
theorem okX11_waits {g : tG} {a1 : Int32} {a2 : Int32} {a3 : Int32} {M : tM} {Mz : tM} (h : fX11_waits a1 a2 a3 M = some Mz) : TMet g yX11_waits (Cond.code yX11_waits cX11_waits 4 (none) :: tgd) rmX11_waits [tr 11 0, ti a1, ti a2, ti a3] M none Mz 0 0 := by
  have key : TW g iX11_waits rmX11_waits 0 0 none Mz 0 0 0 [(0, tr 11 0), (1, ti a1), (2, ti a2), (3, ti a3)] [] M := by
    rw [fX11_waits] at h
    refine tm_aload_n dX11_waits_0 rfl rfl ?_
    refine tm_get kX11 rfl (j := 68) (by decide) wfX11_184 dX11_waits_1 (v := tr 1268 0) rfl ?_
    refine tm_aload_n dX11_waits_4 rfl rfl ?_
    refine tm_get kX11 rfl (j := 71) (by decide) wfX11_368 dX11_waits_5 (v := ti (mI M 11 0 71)) rfl ?_
    refine tm_iload_n dX11_waits_8 rfl rfl ?_
    obtain ⟨b1, h⟩ := chk_some h
    obtain ⟨M2, eM2, h⟩ := bnd_some h
    refine tm_iast rfl dX11_waits_9 (inb_vp b1) ?_
    refine tm_nmM eM2 ?_
    refine tm_aload_n dX11_waits_10 rfl rfl ?_
    refine tm_get kX11 rfl (j := 69) (by decide) wfX11_187 dX11_waits_11 (v := tr 1269 0) rfl ?_
    refine tm_aload_n dX11_waits_14 rfl rfl ?_
    refine tm_get kX11 rfl (j := 71) (by decide) wfX11_368 dX11_waits_15 (v := ti (mI M2 11 0 71)) rfl ?_
    refine tm_iload_n dX11_waits_18 rfl rfl ?_
    obtain ⟨b3, h⟩ := chk_some h
    obtain ⟨M4, eM4, h⟩ := bnd_some h
    refine tm_iast rfl dX11_waits_19 (inb_vp b3) ?_
    refine tm_nmM eM4 ?_
    refine tm_aload_n dX11_waits_20 rfl rfl ?_
    refine tm_get kX11 rfl (j := 70) (by decide) wfX11_190 dX11_waits_21 (v := tr 1270 0) rfl ?_
    refine tm_aload_n dX11_waits_24 rfl rfl ?_
    refine tm_get kX11 rfl (j := 71) (by decide) wfX11_368 dX11_waits_25 (v := ti (mI M4 11 0 71)) rfl ?_
    refine tm_iload_n dX11_waits_28 rfl rfl ?_
    obtain ⟨b5, h⟩ := chk_some h
    obtain ⟨M6, eM6, h⟩ := bnd_some h
    refine tm_iast rfl dX11_waits_29 (inb_vp b5) ?_
    refine tm_nmM eM6 ?_
    refine tm_aload_n dX11_waits_30 rfl rfl ?_
    refine tm_dup dX11_waits_31 rfl ?_
    refine tm_get kX11 rfl (j := 71) (by decide) wfX11_368 dX11_waits_32 (v := ti (mI M6 11 0 71)) rfl ?_
    refine tm_iconst (v := 1) dX11_waits_35 (by decide) ?_
    refine tm_iadd dX11_waits_36 ?_
    obtain ⟨M7, eM7, h⟩ := bnd_some h
    refine tm_put kX11 rfl (j := 71) (by decide) wfX11_368 rfl dX11_waits_37 (fun _ => ⟨rfl, rfl⟩) (tPut_I ((mI M6 11 0 71) + 1) rfl) ?_
    refine tm_nmM eM7 ?_
    obtain rfl := Option.some.inj h
    exact tm_vret rfl dX11_waits_40
  exact TMet.of (by decide) (Nat.le_of_ble_eq_true rfl) key
theorem wcX11_371 : tCB RX11 371 yJ9_floorMod_7cf53 cJ9_floorMod_7cf53 3 (some .int) 2 ∧ Cond.methodLink RX11 371 yJ9_floorMod_7cf53 ∈ tgd ∧ Cond.static yJ9_floorMod_7cf53 ∈ tgd := ⟨⟨(tgd_t 1748 (by decide +kernel) (by decide +kernel)), (tgd_t 12 (by decide +kernel) (by decide +kernel)), by decide, by decide +kernel⟩, (tgd_t 1746 (by decide +kernel) (by decide +kernel)), (tgd_t 1747 (by decide +kernel) (by decide +kernel))⟩
abbrev iX11_giver : tY := (RX11, cX11_giver, 8, some .int, "giver")
abbrev rmX11_giver : Room := { frames := 1, cells := 0, slots := 0, locals := 22 }
def fX11_giver_l18 (z1 : Int32) (z2 : Int32) (z3 : Int32) (M : tM) : Nat → Int32 → Int32 → Option (Int32 × Int32)
  | 0, _, _ => none
  | n + 1, y4, y5 =>
    if z2 ≤ y5 then (
    some ((y4, y5))
    ) else (
    bnd (y4 + 1) fun x6 =>
    chk (inb z3 (mN M 1205 0)) <|
    chk (nz4 (mI M 1205 0 (z3.toNatClampNeg))) <|
    chk (inb ((4 * z1) + (x6 - x6 / (mI M 1205 0 (z3.toNatClampNeg)) * (mI M 1205 0 (z3.toNatClampNeg)))) (mN M 1215 0)) <|
    bnd (y5 + (mI M 1215 0 (((4 * z1) + (x6 - x6 / (mI M 1205 0 (z3.toNatClampNeg)) * (mI M 1205 0 (z3.toNatClampNeg)))).toNatClampNeg))) fun x10 =>
    fX11_giver_l18 z1 z2 z3 M n x6 x10
    )
def fX11_giver_l56 (z1 : Int32) (z2 : Int32) (z3 : Int32) (M : tM) : Nat → Int32 → Int32 → Int32 → Option (Int32)
  | 0, _, _, _ => none
  | n + 1, y4, y5, y6 =>
    if y6 = 0 then (
    some y4
    ) else (
    chk (inb z3 (mN M 1205 0)) <|
    (fJ9_floorMod_7cf53 y4 (mI M 1205 0 (z3.toNatClampNeg)) M).bind fun x17 =>
    chk (inb ((4 * z1) + x17) (mN M 1215 0)) <|
    bnd (mI M 1215 0 (((4 * z1) + x17).toNatClampNeg)) fun x20 =>
    Option.bind (α := Int32) (
    if (y5 - x20) < z2 then (
    some 0
    ) else (
    some 1
    )
    ) fun x22 =>
    Option.bind (α := Int32) (
    if x22 = 0 then (
    some 0
    ) else (
    some x20
    )
    ) fun x26 =>
    bnd (y5 - x26) fun x29 =>
    Option.bind (α := Int32) (
    if x22 = 0 then (
    some 0
    ) else (
    some 1
    )
    ) fun x31 =>
    bnd (y4 - x31) fun x34 =>
    fX11_giver_l56 z1 z2 z3 M n x34 x29 x22
    )
def fX11_giver (a1 : Int32) (a2 : Int32) (M : tM) : Option (Int32) :=
  chk (inb a1 (mN M 1213 0)) <|
  bnd (mI M 1213 0 (a1.toNatClampNeg)) fun x2 =>
  chk (inb a1 (mN M 1217 0)) <|
  bnd (mI M 1217 0 (a1.toNatClampNeg)) fun x4 =>
  Option.bind (fX11_giver_l18 a1 a2 x2 M FU (-1) x4) fun (x13, x14) =>
  Option.bind (fX11_giver_l56 a1 a2 x2 M FU x13 x14 1) fun x37 =>
  some x37
set_option maxHeartbeats 4000000 in
set_option maxRecDepth 100000 in
theorem okX11_giver_l18 {g : tG} (z1 : Int32) (z2 : Int32) (z3 : Int32) (M : tM) {r : Option tV} {Mz : tM} : ∀ (n : Nat) (y4 : Int32) (y5 : Int32) (w : Int32 × Int32), fX11_giver_l18 z1 z2 z3 M n y4 y5 = some w → (∀ (w4 : Int32) (w5 : Int32), (w4, w5) = w → TW g iX11_giver rmX11_giver 0 0 r Mz 0 0 53 [(0, tr 11 0), (1, ti z1), (2, ti z2), (3, ti z3), (4, ti w4), (5, ti w5)] [] M) → TW g iX11_giver rmX11_giver 0 0 r Mz 0 0 18 [(0, tr 11 0), (1, ti z1), (2, ti z2), (3, ti z3), (4, ti y4), (5, ti y5)] [] M := by
  intro n
  induction n with
  | zero => intro y4 y5 w h; cases h
  | succ n ih =>
    intro y4 y5 w h J
    rw [fX11_giver_l18] at h
    refine tm_iload dX11_giver_18 rfl ?_
    refine tm_iload_n dX11_giver_20 rfl rfl ?_
    refine tm_icmp_ge (tgt := 53) dX11_giver_21 (by decide) (fun c5 => ?_) (fun c5 => ?_)
    · rw [if_pos c5] at h
      obtain rfl := Option.some.inj h
      refine tm_lcp [0, 1, 2, 3, 4, 5] rfl ?_
      exact J _ _ rfl
    · rw [if_neg c5] at h
      obtain ⟨x6, ex6, h⟩ := bnd_some h
      refine tm_iinc (v := x6) (lc' := [(4, ti x6), (0, tr 11 0), (1, ti z1), (2, ti z2), (3, ti z3), (5, ti y5)]) dX11_giver_24 rfl (by rw [ex6]; rfl) (by decide) rfl ?_
      refine tm_iload dX11_giver_27 rfl ?_
      refine tm_aload_n dX11_giver_29 rfl rfl ?_
      refine tm_get kX11 rfl (j := 15) (by decide) wfX11_47 dX11_giver_30 (v := tr 1215 0) rfl ?_
      refine tm_iconst (v := 4) dX11_giver_33 (by decide) ?_
      refine tm_iload_n dX11_giver_34 rfl rfl ?_
      refine tm_imul dX11_giver_35 ?_
      refine tm_iload dX11_giver_36 rfl ?_
      refine tm_aload_n dX11_giver_38 rfl rfl ?_
      refine tm_get kX11 rfl (j := 5) (by decide) wfX11_20 dX11_giver_39 (v := tr 1205 0) rfl ?_
      refine tm_iload_n dX11_giver_42 rfl rfl ?_
      obtain ⟨b7, h⟩ := chk_some h
      refine tm_iald rfl dX11_giver_43 (inb_vp b7) ?_
      obtain ⟨b8, h⟩ := chk_some h
      refine tm_irem dX11_giver_44 (nz4_ne b8) ?_
      refine tm_iadd dX11_giver_45 ?_
      obtain ⟨b9, h⟩ := chk_some h
      refine tm_iald rfl dX11_giver_46 (inb_vp b9) ?_
      refine tm_iadd dX11_giver_47 ?_
      obtain ⟨x10, ex10, h⟩ := bnd_some h
      refine tm_nmI ex10 ?_
      refine tm_istore (lc' := [(5, ti x10), (4, ti x6), (0, tr 11 0), (1, ti z1), (2, ti z2), (3, ti z3)]) dX11_giver_48 (by decide) rfl ?_
      refine tm_goto (tgt := 18) dX11_giver_50 (by decide) ?_
      refine tm_lcp [0, 1, 2, 3, 4, 5] rfl ?_
      exact ih x6 x10 _ h J
set_option maxHeartbeats 4000000 in
set_option maxRecDepth 100000 in
theorem okX11_giver_l56 {g : tG} (z1 : Int32) (z2 : Int32) (z3 : Int32) (M : tM) {r : Option tV} {Mz : tM} : ∀ (n : Nat) (y4 : Int32) (y5 : Int32) (y6 : Int32) (w : Int32), fX11_giver_l56 z1 z2 z3 M n y4 y5 y6 = some w → (∀ (w4 : Int32), w4 = w → TW g iX11_giver rmX11_giver 0 0 r Mz 0 0 133 [(4, ti w4)] [] M) → TW g iX11_giver rmX11_giver 0 0 r Mz 0 0 56 [(0, tr 11 0), (1, ti z1), (2, ti z2), (3, ti z3), (4, ti y4), (5, ti y5), (6, ti y6)] [] M := by
  intro n
  induction n with
  | zero => intro y4 y5 y6 w h; cases h
  | succ n ih =>
    intro y4 y5 y6 w h J
    rw [fX11_giver_l56] at h
    refine tm_iload dX11_giver_56 rfl ?_
    refine tm_if_eq (tgt := 133) dX11_giver_58 (by decide) (fun c15 => ?_) (fun c15 => ?_)
    · rw [if_pos c15] at h
      obtain rfl := Option.some.inj h
      refine tm_lcp [4] rfl ?_
      exact J _ rfl
    · rw [if_neg c15] at h
      refine tm_aload_n dX11_giver_61 rfl rfl ?_
      refine tm_get kX11 rfl (j := 15) (by decide) wfX11_47 dX11_giver_62 (v := tr 1215 0) rfl ?_
      refine tm_iconst (v := 4) dX11_giver_65 (by decide) ?_
      refine tm_iload_n dX11_giver_66 rfl rfl ?_
      refine tm_imul dX11_giver_67 ?_
      refine tm_iload dX11_giver_68 rfl ?_
      refine tm_aload_n dX11_giver_70 rfl rfl ?_
      refine tm_get kX11 rfl (j := 5) (by decide) wfX11_20 dX11_giver_71 (v := tr 1205 0) rfl ?_
      refine tm_iload_n dX11_giver_74 rfl rfl ?_
      obtain ⟨b16, h⟩ := chk_some h
      refine tm_iald rfl dX11_giver_75 (inb_vp b16) ?_
      obtain ⟨x17, hc18, h⟩ := obind_some h
      refine tm_callS (avs := [ti y4, ti (mI M 1205 0 (z3.toNatClampNeg))]) (st := [ti (4 * z1), tr 1215 0]) (okJ9_floorMod_7cf53 hc18) wcX11_371.1 wcX11_371.2.1 wcX11_371.2.2 ⟨rfl, rfl, Nat.le_of_ble_eq_true rfl, Nat.le_of_ble_eq_true rfl⟩ rfl (Nat.le_of_ble_eq_true rfl) ⟨Nat.zero_le _, Nat.zero_le _⟩ dX11_giver_76 ?_
      refine tm_iadd dX11_giver_79 ?_
      obtain ⟨b19, h⟩ := chk_some h
      refine tm_iald rfl dX11_giver_80 (inb_vp b19) ?_
      obtain ⟨x20, ex20, h⟩ := bnd_some h
      refine tm_nmI ex20 ?_
      refine tm_istore (lc' := [(7, ti x20), (0, tr 11 0), (1, ti z1), (2, ti z2), (3, ti z3), (4, ti y4), (5, ti y5), (6, ti y6)]) dX11_giver_81 (by decide) rfl ?_
      refine tm_iload dX11_giver_83 rfl ?_
      refine tm_iload dX11_giver_85 rfl ?_
      refine tm_isub dX11_giver_87 ?_
      refine tm_iload_n dX11_giver_88 rfl rfl ?_
      obtain ⟨x22, hE23, h⟩ := obind_some h
      have J24 : TW g iX11_giver rmX11_giver 0 0 r Mz 0 0 97 [(0, tr 11 0), (1, ti z1), (2, ti z2), (3, ti z3), (4, ti y4), (5, ti y5), (7, ti x20)] [ti x22] M := by
        refine tm_istore (lc' := [(6, ti x22), (0, tr 11 0), (1, ti z1), (2, ti z2), (3, ti z3), (4, ti y4), (5, ti y5), (7, ti x20)]) dX11_giver_97 (by decide) rfl ?_
        refine tm_iload dX11_giver_99 rfl ?_
        refine tm_iload dX11_giver_101 rfl ?_
        obtain ⟨x26, hE27, h⟩ := obind_some h
        have J28 : TW g iX11_giver rmX11_giver 0 0 r Mz 0 0 112 [(0, tr 11 0), (1, ti z1), (2, ti z2), (3, ti z3), (4, ti y4), (6, ti x22)] [ti x26, ti y5] M := by
          refine tm_isub dX11_giver_112 ?_
          obtain ⟨x29, ex29, h⟩ := bnd_some h
          refine tm_nmI ex29 ?_
          refine tm_istore (lc' := [(5, ti x29), (0, tr 11 0), (1, ti z1), (2, ti z2), (3, ti z3), (4, ti y4), (6, ti x22)]) dX11_giver_113 (by decide) rfl ?_
          refine tm_iload dX11_giver_115 rfl ?_
          refine tm_iload dX11_giver_117 rfl ?_
          obtain ⟨x31, hE32, h⟩ := obind_some h
          have J33 : TW g iX11_giver rmX11_giver 0 0 r Mz 0 0 127 [(0, tr 11 0), (1, ti z1), (2, ti z2), (3, ti z3), (5, ti x29), (6, ti x22)] [ti x31, ti y4] M := by
            refine tm_isub dX11_giver_127 ?_
            obtain ⟨x34, ex34, h⟩ := bnd_some h
            refine tm_nmI ex34 ?_
            refine tm_istore (lc' := [(4, ti x34), (0, tr 11 0), (1, ti z1), (2, ti z2), (3, ti z3), (5, ti x29), (6, ti x22)]) dX11_giver_128 (by decide) rfl ?_
            refine tm_goto (tgt := 56) dX11_giver_130 (by decide) ?_
            refine tm_lcp [0, 1, 2, 3, 4, 5, 6] rfl ?_
            exact ih x34 x29 x22 _ h J
          refine tm_if_eq (tgt := 126) dX11_giver_119 (by decide) (fun c30 => ?_) (fun c30 => ?_)
          · rw [if_pos c30] at hE32
            refine tm_iconst (v := 0) dX11_giver_126 (by decide) ?_
            obtain rfl := Option.some.inj hE32
            refine tm_lcp [0, 1, 2, 3, 5, 6] rfl ?_
            exact J33
          · rw [if_neg c30] at hE32
            refine tm_iconst (v := 1) dX11_giver_122 (by decide) ?_
            refine tm_goto (tgt := 127) dX11_giver_123 (by decide) ?_
            obtain rfl := Option.some.inj hE32
            refine tm_lcp [0, 1, 2, 3, 5, 6] rfl ?_
            exact J33
        refine tm_if_eq (tgt := 111) dX11_giver_103 (by decide) (fun c25 => ?_) (fun c25 => ?_)
        · rw [if_pos c25] at hE27
          refine tm_iconst (v := 0) dX11_giver_111 (by decide) ?_
          obtain rfl := Option.some.inj hE27
          refine tm_lcp [0, 1, 2, 3, 4, 6] rfl ?_
          exact J28
        · rw [if_neg c25] at hE27
          refine tm_iload dX11_giver_106 rfl ?_
          refine tm_goto (tgt := 112) dX11_giver_108 (by decide) ?_
          obtain rfl := Option.some.inj hE27
          refine tm_lcp [0, 1, 2, 3, 4, 6] rfl ?_
          exact J28
      refine tm_icmp_lt (tgt := 96) dX11_giver_89 (by decide) (fun c21 => ?_) (fun c21 => ?_)
      · rw [if_pos c21] at hE23
        refine tm_iconst (v := 0) dX11_giver_96 (by decide) ?_
        obtain rfl := Option.some.inj hE23
        refine tm_lcp [0, 1, 2, 3, 4, 5, 7] rfl ?_
        exact J24
      · rw [if_neg c21] at hE23
        refine tm_iconst (v := 1) dX11_giver_92 (by decide) ?_
        refine tm_goto (tgt := 97) dX11_giver_93 (by decide) ?_
        obtain rfl := Option.some.inj hE23
        refine tm_lcp [0, 1, 2, 3, 4, 5, 7] rfl ?_
        exact J24
set_option maxHeartbeats 4000000 in
set_option maxRecDepth 100000 in
theorem okX11_giver {g : tG} {a1 : Int32} {a2 : Int32} {M : tM} {v : Int32} (h : fX11_giver a1 a2 M = some v) : TMet g yX11_giver (Cond.code yX11_giver cX11_giver 8 (some .int) :: tgd) rmX11_giver [tr 11 0, ti a1, ti a2] M (some (ti v)) M 0 0 := by
  have key : TW g iX11_giver rmX11_giver 0 0 (some (ti v)) M 0 0 0 [(0, tr 11 0), (1, ti a1), (2, ti a2)] [] M := by
    rw [fX11_giver] at h
    refine tm_aload_n dX11_giver_0 rfl rfl ?_
    refine tm_get kX11 rfl (j := 13) (by decide) wfX11_41 dX11_giver_1 (v := tr 1213 0) rfl ?_
    refine tm_iload_n dX11_giver_4 rfl rfl ?_
    obtain ⟨b1, h⟩ := chk_some h
    refine tm_iald rfl dX11_giver_5 (inb_vp b1) ?_
    obtain ⟨x2, ex2, h⟩ := bnd_some h
    refine tm_nmI ex2 ?_
    refine tm_istore_n (lc' := [(3, ti x2), (0, tr 11 0), (1, ti a1), (2, ti a2)]) dX11_giver_6 rfl (by decide) rfl ?_
    refine tm_iconst (v := (-1)) dX11_giver_7 (by decide) ?_
    refine tm_istore (lc' := [(4, ti (-1)), (3, ti x2), (0, tr 11 0), (1, ti a1), (2, ti a2)]) dX11_giver_8 (by decide) rfl ?_
    refine tm_aload_n dX11_giver_10 rfl rfl ?_
    refine tm_get kX11 rfl (j := 17) (by decide) wfX11_53 dX11_giver_11 (v := tr 1217 0) rfl ?_
    refine tm_iload_n dX11_giver_14 rfl rfl ?_
    obtain ⟨b3, h⟩ := chk_some h
    refine tm_iald rfl dX11_giver_15 (inb_vp b3) ?_
    obtain ⟨x4, ex4, h⟩ := bnd_some h
    refine tm_nmI ex4 ?_
    refine tm_istore (lc' := [(5, ti x4), (4, ti (-1)), (3, ti x2), (0, tr 11 0), (1, ti a1), (2, ti a2)]) dX11_giver_16 (by decide) rfl ?_
    obtain ⟨w11, hE12, h⟩ := obind_some h
    refine tm_lcp [0, 1, 2, 3, 4, 5] rfl ?_
    refine okX11_giver_l18 a1 a2 x2 M FU (-1) x4 _ hE12 (fun x13 x14 e => ?_)
    subst e
    dsimp only at h
    refine tm_iconst (v := 1) dX11_giver_53 (by decide) ?_
    refine tm_istore (lc' := [(6, ti 1), (0, tr 11 0), (1, ti a1), (2, ti a2), (3, ti x2), (4, ti x13), (5, ti x14)]) dX11_giver_54 (by decide) rfl ?_
    obtain ⟨w35, hE36, h⟩ := obind_some h
    refine tm_lcp [0, 1, 2, 3, 4, 5, 6] rfl ?_
    refine okX11_giver_l56 a1 a2 x2 M FU x13 x14 1 _ hE36 (fun x37 e => ?_)
    subst e
    refine tm_iload dX11_giver_133 rfl ?_
    obtain rfl := Option.some.inj h
    exact tm_iret rfl dX11_giver_135
  exact TMet.of (by decide) (Nat.le_of_ble_eq_true rfl) key
theorem wcX11_376 : tCB RX11 376 yX11_waits cX11_waits 4 (none) 3 ∧ Cond.methodLink RX11 376 yX11_waits ∈ tgd ∧ Cond.instanceMethod yX11_waits ∈ tgd ∧ Cond.selects RX11 yX11_waits yX11_waits ∈ tgd := ⟨⟨(tgd_t 1741 (by decide +kernel) (by decide +kernel)), (tgd_t 10 (by decide +kernel) (by decide +kernel)), by decide, by decide +kernel⟩, (tgd_t 1738 (by decide +kernel) (by decide +kernel)), (tgd_t 1740 (by decide +kernel) (by decide +kernel)), (tgd_p 92 (by decide +kernel) (by decide +kernel))⟩
theorem wcX11_380 : tCB RX11 380 yX11_giver cX11_giver 8 (some .int) 2 ∧ Cond.methodLink RX11 380 yX11_giver ∈ tgd ∧ Cond.instanceMethod yX11_giver ∈ tgd ∧ Cond.selects RX11 yX11_giver yX11_giver ∈ tgd := ⟨⟨(tgd_t 1745 (by decide +kernel) (by decide +kernel)), (tgd_t 10 (by decide +kernel) (by decide +kernel)), by decide, by decide +kernel⟩, (tgd_t 1742 (by decide +kernel) (by decide +kernel)), (tgd_t 1744 (by decide +kernel) (by decide +kernel)), (tgd_p 93 (by decide +kernel) (by decide +kernel))⟩
theorem wcX11_383 : tCB RX11 383 yJ9_floorDiv_7cf53 cJ9_floorDiv_7cf53 3 (some .int) 2 ∧ Cond.methodLink RX11 383 yJ9_floorDiv_7cf53 ∈ tgd ∧ Cond.static yJ9_floorDiv_7cf53 ∈ tgd := ⟨⟨(tgd_t 1033 (by decide +kernel) (by decide +kernel)), (tgd_t 12 (by decide +kernel) (by decide +kernel)), by decide, by decide +kernel⟩, (tgd_t 1749 (by decide +kernel) (by decide +kernel)), (tgd_t 1032 (by decide +kernel) (by decide +kernel))⟩
theorem wfX11_178 : Cond.fieldLink RX11 178 "EvenFlowModel" "pointFrom" "[I" ∈ tgd := (tgd_t 1291 (by decide +kernel) (by decide +kernel))
theorem wfX11_181 : Cond.fieldLink RX11 181 "EvenFlowModel" "pointTime" "[I" ∈ tgd := (tgd_t 1292 (by decide +kernel) (by decide +kernel))
abbrev iX11_setWaits : tY := (RX11, cX11_setWaits, 8, none, "setWaits")
abbrev rmX11_setWaits : Room := { frames := 2, cells := 0, slots := 0, locals := 49 }
def fX11_setWaits_l26 (z2 : Int32) : Nat → Int32 → Int32 → tM → Option (Int32 × tM)
  | 0, _, _, _ => none
  | n + 1, y1, y3, M =>
    chk (inb z2 (mN M 1235 0)) <|
    if (mI M 1235 0 (z2.toNatClampNeg)) ≤ y3 then (
    some ((y1, M))
    ) else (
    chk (inb z2 (mN M 1210 0)) <|
    chk (inb y1 (mN M 1267 0)) <|
    bnd (sI M 1267 0 (y1.toNatClampNeg) (mI M 1210 0 (z2.toNatClampNeg))) fun M9 =>
    bnd (y1 + 1) fun x10 =>
    bnd (y3 + 1) fun x11 =>
    fX11_setWaits_l26 z2 n x10 x11 M9
    )
def fX11_setWaits_l9  : Nat → Int32 → Int32 → tM → Option (tM)
  | 0, _, _, _ => none
  | n + 1, y1, y2, M =>
    if (mI M 11 0 2) ≤ y2 then (
    some M
    ) else (
    chk (inb y2 (mN M 1266 0)) <|
    bnd (sI M 1266 0 (y2.toNatClampNeg) y1) fun M4 =>
    Option.bind (fX11_setWaits_l26 y2 FU y1 0 M4) fun (x14, M15) =>
    bnd (y2 + 1) fun x16 =>
    fX11_setWaits_l9 n x14 x16 M15
    )
def fX11_setWaits_l75 (z2 : Int32) : Nat → Int32 → tM → Option (tM)
  | 0, _, _ => none
  | n + 1, y3, M =>
    chk (inb z2 (mN M 1235 0)) <|
    if (mI M 1235 0 (z2.toNatClampNeg)) ≤ y3 then (
    some M
    ) else (
    chk (inb z2 (mN M 1266 0)) <|
    chk (inb z2 (mN M 1266 0)) <|
    chk (inb z2 (mN M 1235 0)) <|
    chk (inb z2 (mN M 1235 0)) <|
    chk (nz4 (mI M 1235 0 (z2.toNatClampNeg))) <|
    Option.bind (α := Int32) (
    if y3 = 0 then (
    some 1
    ) else (
    some 0
    )
    ) fun x29 =>
    (fX11_waits ((mI M 1266 0 (z2.toNatClampNeg)) + y3) ((mI M 1266 0 (z2.toNatClampNeg)) + (((y3 + (mI M 1235 0 (z2.toNatClampNeg))) - 1) - ((y3 + (mI M 1235 0 (z2.toNatClampNeg))) - 1) / (mI M 1235 0 (z2.toNatClampNeg)) * (mI M 1235 0 (z2.toNatClampNeg)))) x29 M).bind fun M33 =>
    bnd (y3 + 1) fun x34 =>
    fX11_setWaits_l75 z2 n x34 M33
    )
def fX11_setWaits_l65  : Nat → Int32 → tM → Option (tM)
  | 0, _, _ => none
  | n + 1, y2, M =>
    if (mI M 11 0 2) ≤ y2 then (
    some M
    ) else (
    Option.bind (fX11_setWaits_l75 y2 FU 0 M) fun M37 =>
    bnd (y2 + 1) fun x38 =>
    fX11_setWaits_l65 n x38 M37
    )
def fX11_setWaits_l165 (z2 : Int32) (z4 : Int32) : Nat → Int32 → Int32 → tM → Option (tM)
  | 0, _, _, _ => none
  | n + 1, y3, y5, M =>
    chk (inb z2 (mN M 1214 0)) <|
    chk (inb (mI M 1214 0 (z2.toNatClampNeg)) (mN M 1235 0)) <|
    if (mI M 1235 0 ((mI M 1214 0 (z2.toNatClampNeg)).toNatClampNeg)) ≤ y5 then (
    some M
    ) else (
    chk (inb z2 (mN M 1214 0)) <|
    chk (inb (mI M 1214 0 (z2.toNatClampNeg)) (mN M 1205 0)) <|
    chk (nz4 (mI M 1205 0 ((mI M 1214 0 (z2.toNatClampNeg)).toNatClampNeg))) <|
    chk (inb ((4 * z2) + (y5 - y5 / (mI M 1205 0 ((mI M 1214 0 (z2.toNatClampNeg)).toNatClampNeg)) * (mI M 1205 0 ((mI M 1214 0 (z2.toNatClampNeg)).toNatClampNeg)))) (mN M 1216 0)) <|
    bnd (mI M 1216 0 (((4 * z2) + (y5 - y5 / (mI M 1205 0 ((mI M 1214 0 (z2.toNatClampNeg)).toNatClampNeg)) * (mI M 1205 0 ((mI M 1214 0 (z2.toNatClampNeg)).toNatClampNeg)))).toNatClampNeg)) fun x52 =>
    bnd (y3 + x52) fun x53 =>
    Option.bind (α := tM) (
    if x52 ≤ 0 then (
    some M
    ) else (
    (fX11_giver z2 x53 M).bind fun x55 =>
    chk (inb z2 (mN M 1214 0)) <|
    chk (inb (mI M 1214 0 (z2.toNatClampNeg)) (mN M 1266 0)) <|
    chk (inb z4 (mN M 1266 0)) <|
    chk (inb z4 (mN M 1235 0)) <|
    (fJ9_floorMod_7cf53 x55 (mI M 1235 0 (z4.toNatClampNeg)) M).bind fun x61 =>
    chk (inb z4 (mN M 1235 0)) <|
    (fJ9_floorDiv_7cf53 x55 (mI M 1235 0 (z4.toNatClampNeg)) M).bind fun x64 =>
    (fX11_waits ((mI M 1266 0 ((mI M 1214 0 (z2.toNatClampNeg)).toNatClampNeg)) + y5) ((mI M 1266 0 (z4.toNatClampNeg)) + x61) (-x64) M).bind fun M67 =>
    some M67
    )
    ) fun M55 =>
    bnd (y5 + 1) fun x68 =>
    fX11_setWaits_l165 z2 z4 n x53 x68 M55
    )
def fX11_setWaits_l144  : Nat → Int32 → tM → Option (tM)
  | 0, _, _ => none
  | n + 1, y2, M =>
    if (mI M 11 0 12) ≤ y2 then (
    some M
    ) else (
    chk (inb y2 (mN M 1213 0)) <|
    bnd (mI M 1213 0 (y2.toNatClampNeg)) fun x44 =>
    Option.bind (fX11_setWaits_l165 y2 x44 FU 0 0 M) fun M71 =>
    bnd (y2 + 1) fun x72 =>
    fX11_setWaits_l144 n x72 M71
    )
def fX11_setWaits  (M : tM) : Option (tM) :=
  bnd (sI M 11 0 71 0) fun M1 =>
  Option.bind (fX11_setWaits_l9 FU 0 0 M1) fun M19 =>
  Option.bind (fX11_setWaits_l65 FU 0 M19) fun M41 =>
  Option.bind (fX11_setWaits_l144 FU 0 M41) fun M75 =>
  some M75
set_option maxHeartbeats 4000000 in
set_option maxRecDepth 100000 in
theorem okX11_setWaits_l26 {g : tG} (z2 : Int32) {r : Option tV} {Mz : tM} : ∀ (n : Nat) (y1 : Int32) (y3 : Int32) (M : tM) (w : Int32 × tM), fX11_setWaits_l26 z2 n y1 y3 M = some w → (∀ (w1 : Int32) (Mw : tM), (w1, Mw) = w → TW g iX11_setWaits rmX11_setWaits 0 0 r Mz 0 0 57 [(0, tr 11 0), (1, ti w1), (2, ti z2)] [] Mw) → TW g iX11_setWaits rmX11_setWaits 0 0 r Mz 0 0 26 [(0, tr 11 0), (1, ti y1), (2, ti z2), (3, ti y3)] [] M := by
  intro n
  induction n with
  | zero => intro y1 y3 M w h; cases h
  | succ n ih =>
    intro y1 y3 M w h J
    rw [fX11_setWaits_l26] at h
    refine tm_iload_n dX11_setWaits_26 rfl rfl ?_
    refine tm_aload_n dX11_setWaits_27 rfl rfl ?_
    refine tm_get kX11 rfl (j := 35) (by decide) wfX11_95 dX11_setWaits_28 (v := tr 1235 0) rfl ?_
    refine tm_iload_n dX11_setWaits_31 rfl rfl ?_
    obtain ⟨b5, h⟩ := chk_some h
    refine tm_iald rfl dX11_setWaits_32 (inb_vp b5) ?_
    refine tm_icmp_ge (tgt := 57) dX11_setWaits_33 (by decide) (fun c6 => ?_) (fun c6 => ?_)
    · rw [if_pos c6] at h
      obtain rfl := Option.some.inj h
      refine tm_lcp [0, 1, 2] rfl ?_
      exact J _ _ rfl
    · rw [if_neg c6] at h
      refine tm_aload_n dX11_setWaits_36 rfl rfl ?_
      refine tm_get kX11 rfl (j := 67) (by decide) wfX11_181 dX11_setWaits_37 (v := tr 1267 0) rfl ?_
      refine tm_iload_n dX11_setWaits_40 rfl rfl ?_
      refine tm_aload_n dX11_setWaits_41 rfl rfl ?_
      refine tm_get kX11 rfl (j := 10) (by decide) wfX11_35 dX11_setWaits_42 (v := tr 1210 0) rfl ?_
      refine tm_iload_n dX11_setWaits_45 rfl rfl ?_
      obtain ⟨b7, h⟩ := chk_some h
      refine tm_iald rfl dX11_setWaits_46 (inb_vp b7) ?_
      obtain ⟨b8, h⟩ := chk_some h
      obtain ⟨M9, eM9, h⟩ := bnd_some h
      refine tm_iast rfl dX11_setWaits_47 (inb_vp b8) ?_
      refine tm_nmM eM9 ?_
      obtain ⟨x10, ex10, h⟩ := bnd_some h
      refine tm_iinc (v := x10) (lc' := [(1, ti x10), (0, tr 11 0), (2, ti z2), (3, ti y3)]) dX11_setWaits_48 rfl (by rw [ex10]; rfl) (by decide) rfl ?_
      obtain ⟨x11, ex11, h⟩ := bnd_some h
      refine tm_iinc (v := x11) (lc' := [(3, ti x11), (1, ti x10), (0, tr 11 0), (2, ti z2)]) dX11_setWaits_51 rfl (by rw [ex11]; rfl) (by decide) rfl ?_
      refine tm_goto (tgt := 26) dX11_setWaits_54 (by decide) ?_
      refine tm_lcp [0, 1, 2, 3] rfl ?_
      exact ih x10 x11 M9 _ h J
set_option maxHeartbeats 4000000 in
set_option maxRecDepth 100000 in
theorem okX11_setWaits_l9 {g : tG}  {r : Option tV} {Mz : tM} : ∀ (n : Nat) (y1 : Int32) (y2 : Int32) (M : tM) (w : tM), fX11_setWaits_l9 n y1 y2 M = some w → (∀ (Mw : tM), Mw = w → TW g iX11_setWaits rmX11_setWaits 0 0 r Mz 0 0 63 [(0, tr 11 0)] [] Mw) → TW g iX11_setWaits rmX11_setWaits 0 0 r Mz 0 0 9 [(0, tr 11 0), (1, ti y1), (2, ti y2)] [] M := by
  intro n
  induction n with
  | zero => intro y1 y2 M w h; cases h
  | succ n ih =>
    intro y1 y2 M w h J
    rw [fX11_setWaits_l9] at h
    refine tm_iload_n dX11_setWaits_9 rfl rfl ?_
    refine tm_aload_n dX11_setWaits_10 rfl rfl ?_
    refine tm_get kX11 rfl (j := 2) (by decide) wfX11_202 dX11_setWaits_11 (v := ti (mI M 11 0 2)) rfl ?_
    refine tm_icmp_ge (tgt := 63) dX11_setWaits_14 (by decide) (fun c2 => ?_) (fun c2 => ?_)
    · rw [if_pos c2] at h
      obtain rfl := Option.some.inj h
      refine tm_lcp [0] rfl ?_
      exact J _ rfl
    · rw [if_neg c2] at h
      refine tm_aload_n dX11_setWaits_17 rfl rfl ?_
      refine tm_get kX11 rfl (j := 66) (by decide) wfX11_178 dX11_setWaits_18 (v := tr 1266 0) rfl ?_
      refine tm_iload_n dX11_setWaits_21 rfl rfl ?_
      refine tm_iload_n dX11_setWaits_22 rfl rfl ?_
      obtain ⟨b3, h⟩ := chk_some h
      obtain ⟨M4, eM4, h⟩ := bnd_some h
      refine tm_iast rfl dX11_setWaits_23 (inb_vp b3) ?_
      refine tm_nmM eM4 ?_
      refine tm_iconst (v := 0) dX11_setWaits_24 (by decide) ?_
      refine tm_istore_n (lc' := [(3, ti 0), (0, tr 11 0), (1, ti y1), (2, ti y2)]) dX11_setWaits_25 rfl (by decide) rfl ?_
      obtain ⟨w12, hE13, h⟩ := obind_some h
      refine tm_lcp [0, 1, 2, 3] rfl ?_
      refine okX11_setWaits_l26 y2 FU y1 0 M4 _ hE13 (fun x14 M15 e => ?_)
      subst e
      dsimp only at h
      obtain ⟨x16, ex16, h⟩ := bnd_some h
      refine tm_iinc (v := x16) (lc' := [(2, ti x16), (0, tr 11 0), (1, ti x14)]) dX11_setWaits_57 rfl (by rw [ex16]; rfl) (by decide) rfl ?_
      refine tm_goto (tgt := 9) dX11_setWaits_60 (by decide) ?_
      refine tm_lcp [0, 1, 2] rfl ?_
      exact ih x14 x16 M15 _ h J
set_option maxHeartbeats 4000000 in
set_option maxRecDepth 100000 in
theorem okX11_setWaits_l75 {g : tG} (z2 : Int32) {r : Option tV} {Mz : tM} : ∀ (n : Nat) (y3 : Int32) (M : tM) (w : tM), fX11_setWaits_l75 z2 n y3 M = some w → (∀ (Mw : tM), Mw = w → TW g iX11_setWaits rmX11_setWaits 0 0 r Mz 0 0 136 [(0, tr 11 0), (2, ti z2)] [] Mw) → TW g iX11_setWaits rmX11_setWaits 0 0 r Mz 0 0 75 [(0, tr 11 0), (2, ti z2), (3, ti y3)] [] M := by
  intro n
  induction n with
  | zero => intro y3 M w h; cases h
  | succ n ih =>
    intro y3 M w h J
    rw [fX11_setWaits_l75] at h
    refine tm_iload_n dX11_setWaits_75 rfl rfl ?_
    refine tm_aload_n dX11_setWaits_76 rfl rfl ?_
    refine tm_get kX11 rfl (j := 35) (by decide) wfX11_95 dX11_setWaits_77 (v := tr 1235 0) rfl ?_
    refine tm_iload_n dX11_setWaits_80 rfl rfl ?_
    obtain ⟨b21, h⟩ := chk_some h
    refine tm_iald rfl dX11_setWaits_81 (inb_vp b21) ?_
    refine tm_icmp_ge (tgt := 136) dX11_setWaits_82 (by decide) (fun c22 => ?_) (fun c22 => ?_)
    · rw [if_pos c22] at h
      obtain rfl := Option.some.inj h
      refine tm_lcp [0, 2] rfl ?_
      exact J _ rfl
    · rw [if_neg c22] at h
      refine tm_aload_n dX11_setWaits_85 rfl rfl ?_
      refine tm_aload_n dX11_setWaits_86 rfl rfl ?_
      refine tm_get kX11 rfl (j := 66) (by decide) wfX11_178 dX11_setWaits_87 (v := tr 1266 0) rfl ?_
      refine tm_iload_n dX11_setWaits_90 rfl rfl ?_
      obtain ⟨b23, h⟩ := chk_some h
      refine tm_iald rfl dX11_setWaits_91 (inb_vp b23) ?_
      refine tm_iload_n dX11_setWaits_92 rfl rfl ?_
      refine tm_iadd dX11_setWaits_93 ?_
      refine tm_aload_n dX11_setWaits_94 rfl rfl ?_
      refine tm_get kX11 rfl (j := 66) (by decide) wfX11_178 dX11_setWaits_95 (v := tr 1266 0) rfl ?_
      refine tm_iload_n dX11_setWaits_98 rfl rfl ?_
      obtain ⟨b24, h⟩ := chk_some h
      refine tm_iald rfl dX11_setWaits_99 (inb_vp b24) ?_
      refine tm_iload_n dX11_setWaits_100 rfl rfl ?_
      refine tm_aload_n dX11_setWaits_101 rfl rfl ?_
      refine tm_get kX11 rfl (j := 35) (by decide) wfX11_95 dX11_setWaits_102 (v := tr 1235 0) rfl ?_
      refine tm_iload_n dX11_setWaits_105 rfl rfl ?_
      obtain ⟨b25, h⟩ := chk_some h
      refine tm_iald rfl dX11_setWaits_106 (inb_vp b25) ?_
      refine tm_iadd dX11_setWaits_107 ?_
      refine tm_iconst (v := 1) dX11_setWaits_108 (by decide) ?_
      refine tm_isub dX11_setWaits_109 ?_
      refine tm_aload_n dX11_setWaits_110 rfl rfl ?_
      refine tm_get kX11 rfl (j := 35) (by decide) wfX11_95 dX11_setWaits_111 (v := tr 1235 0) rfl ?_
      refine tm_iload_n dX11_setWaits_114 rfl rfl ?_
      obtain ⟨b26, h⟩ := chk_some h
      refine tm_iald rfl dX11_setWaits_115 (inb_vp b26) ?_
      obtain ⟨b27, h⟩ := chk_some h
      refine tm_irem dX11_setWaits_116 (nz4_ne b27) ?_
      refine tm_iadd dX11_setWaits_117 ?_
      refine tm_iload_n dX11_setWaits_118 rfl rfl ?_
      obtain ⟨x29, hE30, h⟩ := obind_some h
      have J31 : TW g iX11_setWaits rmX11_setWaits 0 0 r Mz 0 0 127 [(0, tr 11 0), (2, ti z2), (3, ti y3)] [ti x29, ti ((mI M 1266 0 (z2.toNatClampNeg)) + (((y3 + (mI M 1235 0 (z2.toNatClampNeg))) - 1) - ((y3 + (mI M 1235 0 (z2.toNatClampNeg))) - 1) / (mI M 1235 0 (z2.toNatClampNeg)) * (mI M 1235 0 (z2.toNatClampNeg)))), ti ((mI M 1266 0 (z2.toNatClampNeg)) + y3), tr 11 0] M := by
        obtain ⟨M33, hc32, h⟩ := obind_some h
        refine tm_callV kX11 rfl (avs := [ti ((mI M 1266 0 (z2.toNatClampNeg)) + y3), ti ((mI M 1266 0 (z2.toNatClampNeg)) + (((y3 + (mI M 1235 0 (z2.toNatClampNeg))) - 1) - ((y3 + (mI M 1235 0 (z2.toNatClampNeg))) - 1) / (mI M 1235 0 (z2.toNatClampNeg)) * (mI M 1235 0 (z2.toNatClampNeg)))), ti x29]) (st := []) (okX11_waits hc32) wcX11_376.1 wcX11_376.2.1 wcX11_376.2.2.1 wcX11_376.2.2.2 ⟨rfl, rfl, Nat.le_of_ble_eq_true rfl, Nat.le_of_ble_eq_true rfl⟩ rfl (Nat.le_of_ble_eq_true rfl) ⟨Nat.zero_le _, Nat.zero_le _⟩ dX11_setWaits_127 ?_
        obtain ⟨x34, ex34, h⟩ := bnd_some h
        refine tm_iinc (v := x34) (lc' := [(3, ti x34), (0, tr 11 0), (2, ti z2)]) dX11_setWaits_130 rfl (by rw [ex34]; rfl) (by decide) rfl ?_
        refine tm_goto (tgt := 75) dX11_setWaits_133 (by decide) ?_
        refine tm_lcp [0, 2, 3] rfl ?_
        exact ih x34 M33 _ h J
      refine tm_if_ne (tgt := 126) dX11_setWaits_119 (by decide) (fun c28 => ?_) (fun c28 => ?_)
      · rw [if_neg c28] at hE30
        refine tm_iconst (v := 0) dX11_setWaits_126 (by decide) ?_
        obtain rfl := Option.some.inj hE30
        refine tm_lcp [0, 2, 3] rfl ?_
        exact J31
      · rw [if_pos c28] at hE30
        refine tm_iconst (v := 1) dX11_setWaits_122 (by decide) ?_
        refine tm_goto (tgt := 127) dX11_setWaits_123 (by decide) ?_
        obtain rfl := Option.some.inj hE30
        refine tm_lcp [0, 2, 3] rfl ?_
        exact J31
set_option maxHeartbeats 4000000 in
set_option maxRecDepth 100000 in
theorem okX11_setWaits_l65 {g : tG}  {r : Option tV} {Mz : tM} : ∀ (n : Nat) (y2 : Int32) (M : tM) (w : tM), fX11_setWaits_l65 n y2 M = some w → (∀ (Mw : tM), Mw = w → TW g iX11_setWaits rmX11_setWaits 0 0 r Mz 0 0 142 [(0, tr 11 0)] [] Mw) → TW g iX11_setWaits rmX11_setWaits 0 0 r Mz 0 0 65 [(0, tr 11 0), (2, ti y2)] [] M := by
  intro n
  induction n with
  | zero => intro y2 M w h; cases h
  | succ n ih =>
    intro y2 M w h J
    rw [fX11_setWaits_l65] at h
    refine tm_iload_n dX11_setWaits_65 rfl rfl ?_
    refine tm_aload_n dX11_setWaits_66 rfl rfl ?_
    refine tm_get kX11 rfl (j := 2) (by decide) wfX11_202 dX11_setWaits_67 (v := ti (mI M 11 0 2)) rfl ?_
    refine tm_icmp_ge (tgt := 142) dX11_setWaits_70 (by decide) (fun c20 => ?_) (fun c20 => ?_)
    · rw [if_pos c20] at h
      obtain rfl := Option.some.inj h
      refine tm_lcp [0] rfl ?_
      exact J _ rfl
    · rw [if_neg c20] at h
      refine tm_iconst (v := 0) dX11_setWaits_73 (by decide) ?_
      refine tm_istore_n (lc' := [(3, ti 0), (0, tr 11 0), (2, ti y2)]) dX11_setWaits_74 rfl (by decide) rfl ?_
      obtain ⟨w35, hE36, h⟩ := obind_some h
      refine tm_lcp [0, 2, 3] rfl ?_
      refine okX11_setWaits_l75 y2 FU 0 M _ hE36 (fun M37 e => ?_)
      subst e
      obtain ⟨x38, ex38, h⟩ := bnd_some h
      refine tm_iinc (v := x38) (lc' := [(2, ti x38), (0, tr 11 0)]) dX11_setWaits_136 rfl (by rw [ex38]; rfl) (by decide) rfl ?_
      refine tm_goto (tgt := 65) dX11_setWaits_139 (by decide) ?_
      refine tm_lcp [0, 2] rfl ?_
      exact ih x38 M37 _ h J
set_option maxHeartbeats 4000000 in
set_option maxRecDepth 100000 in
theorem okX11_setWaits_l165 {g : tG} (z2 : Int32) (z4 : Int32) {r : Option tV} {Mz : tM} : ∀ (n : Nat) (y3 : Int32) (y5 : Int32) (M : tM) (w : tM), fX11_setWaits_l165 z2 z4 n y3 y5 M = some w → (∀ (Mw : tM), Mw = w → TW g iX11_setWaits rmX11_setWaits 0 0 r Mz 0 0 281 [(0, tr 11 0), (2, ti z2)] [] Mw) → TW g iX11_setWaits rmX11_setWaits 0 0 r Mz 0 0 165 [(0, tr 11 0), (2, ti z2), (3, ti y3), (4, ti z4), (5, ti y5)] [] M := by
  intro n
  induction n with
  | zero => intro y3 y5 M w h; cases h
  | succ n ih =>
    intro y3 y5 M w h J
    rw [fX11_setWaits_l165] at h
    refine tm_iload dX11_setWaits_165 rfl ?_
    refine tm_aload_n dX11_setWaits_167 rfl rfl ?_
    refine tm_get kX11 rfl (j := 35) (by decide) wfX11_95 dX11_setWaits_168 (v := tr 1235 0) rfl ?_
    refine tm_aload_n dX11_setWaits_171 rfl rfl ?_
    refine tm_get kX11 rfl (j := 14) (by decide) wfX11_44 dX11_setWaits_172 (v := tr 1214 0) rfl ?_
    refine tm_iload_n dX11_setWaits_175 rfl rfl ?_
    obtain ⟨b45, h⟩ := chk_some h
    refine tm_iald rfl dX11_setWaits_176 (inb_vp b45) ?_
    obtain ⟨b46, h⟩ := chk_some h
    refine tm_iald rfl dX11_setWaits_177 (inb_vp b46) ?_
    refine tm_icmp_ge (tgt := 281) dX11_setWaits_178 (by decide) (fun c47 => ?_) (fun c47 => ?_)
    · rw [if_pos c47] at h
      obtain rfl := Option.some.inj h
      refine tm_lcp [0, 2] rfl ?_
      exact J _ rfl
    · rw [if_neg c47] at h
      refine tm_aload_n dX11_setWaits_181 rfl rfl ?_
      refine tm_get kX11 rfl (j := 16) (by decide) wfX11_50 dX11_setWaits_182 (v := tr 1216 0) rfl ?_
      refine tm_iconst (v := 4) dX11_setWaits_185 (by decide) ?_
      refine tm_iload_n dX11_setWaits_186 rfl rfl ?_
      refine tm_imul dX11_setWaits_187 ?_
      refine tm_iload dX11_setWaits_188 rfl ?_
      refine tm_aload_n dX11_setWaits_190 rfl rfl ?_
      refine tm_get kX11 rfl (j := 5) (by decide) wfX11_20 dX11_setWaits_191 (v := tr 1205 0) rfl ?_
      refine tm_aload_n dX11_setWaits_194 rfl rfl ?_
      refine tm_get kX11 rfl (j := 14) (by decide) wfX11_44 dX11_setWaits_195 (v := tr 1214 0) rfl ?_
      refine tm_iload_n dX11_setWaits_198 rfl rfl ?_
      obtain ⟨b48, h⟩ := chk_some h
      refine tm_iald rfl dX11_setWaits_199 (inb_vp b48) ?_
      obtain ⟨b49, h⟩ := chk_some h
      refine tm_iald rfl dX11_setWaits_200 (inb_vp b49) ?_
      obtain ⟨b50, h⟩ := chk_some h
      refine tm_irem dX11_setWaits_201 (nz4_ne b50) ?_
      refine tm_iadd dX11_setWaits_202 ?_
      obtain ⟨b51, h⟩ := chk_some h
      refine tm_iald rfl dX11_setWaits_203 (inb_vp b51) ?_
      obtain ⟨x52, ex52, h⟩ := bnd_some h
      refine tm_nmI ex52 ?_
      refine tm_istore (lc' := [(6, ti x52), (0, tr 11 0), (2, ti z2), (3, ti y3), (4, ti z4), (5, ti y5)]) dX11_setWaits_204 (by decide) rfl ?_
      refine tm_iload_n dX11_setWaits_206 rfl rfl ?_
      refine tm_iload dX11_setWaits_207 rfl ?_
      refine tm_iadd dX11_setWaits_209 ?_
      obtain ⟨x53, ex53, h⟩ := bnd_some h
      refine tm_nmI ex53 ?_
      refine tm_istore_n (lc' := [(3, ti x53), (6, ti x52), (0, tr 11 0), (2, ti z2), (4, ti z4), (5, ti y5)]) dX11_setWaits_210 rfl (by decide) rfl ?_
      refine tm_iload dX11_setWaits_211 rfl ?_
      obtain ⟨M55, hE56, h⟩ := obind_some h
      have J57 : TW g iX11_setWaits rmX11_setWaits 0 0 r Mz 0 0 275 [(0, tr 11 0), (2, ti z2), (3, ti x53), (4, ti z4), (5, ti y5)] [] M55 := by
        obtain ⟨x68, ex68, h⟩ := bnd_some h
        refine tm_iinc (v := x68) (lc' := [(5, ti x68), (0, tr 11 0), (2, ti z2), (3, ti x53), (4, ti z4)]) dX11_setWaits_275 rfl (by rw [ex68]; rfl) (by decide) rfl ?_
        refine tm_goto (tgt := 165) dX11_setWaits_278 (by decide) ?_
        refine tm_lcp [0, 2, 3, 4, 5] rfl ?_
        exact ih x53 x68 M55 _ h J
      refine tm_if_le (tgt := 275) dX11_setWaits_213 (by decide) (fun c54 => ?_) (fun c54 => ?_)
      · rw [if_pos c54] at hE56
        obtain rfl := Option.some.inj hE56
        refine tm_lcp [0, 2, 3, 4, 5] rfl ?_
        exact J57
      · rw [if_neg c54] at hE56
        refine tm_aload_n dX11_setWaits_216 rfl rfl ?_
        refine tm_iload_n dX11_setWaits_217 rfl rfl ?_
        refine tm_iload_n dX11_setWaits_218 rfl rfl ?_
        obtain ⟨x55, hc56, hE56⟩ := obind_some hE56
        refine tm_callV kX11 rfl (avs := [ti z2, ti x53]) (st := []) (okX11_giver hc56) wcX11_380.1 wcX11_380.2.1 wcX11_380.2.2.1 wcX11_380.2.2.2 ⟨rfl, rfl, Nat.le_of_ble_eq_true rfl, Nat.le_of_ble_eq_true rfl⟩ rfl (Nat.le_of_ble_eq_true rfl) ⟨Nat.zero_le _, Nat.zero_le _⟩ dX11_setWaits_219 ?_
        refine tm_istore (lc' := [(7, ti x55), (3, ti x53), (6, ti x52), (0, tr 11 0), (2, ti z2), (4, ti z4), (5, ti y5)]) dX11_setWaits_222 (by decide) rfl ?_
        refine tm_aload_n dX11_setWaits_224 rfl rfl ?_
        refine tm_aload_n dX11_setWaits_225 rfl rfl ?_
        refine tm_get kX11 rfl (j := 66) (by decide) wfX11_178 dX11_setWaits_226 (v := tr 1266 0) rfl ?_
        refine tm_aload_n dX11_setWaits_229 rfl rfl ?_
        refine tm_get kX11 rfl (j := 14) (by decide) wfX11_44 dX11_setWaits_230 (v := tr 1214 0) rfl ?_
        refine tm_iload_n dX11_setWaits_233 rfl rfl ?_
        obtain ⟨b57, hE56⟩ := chk_some hE56
        refine tm_iald rfl dX11_setWaits_234 (inb_vp b57) ?_
        obtain ⟨b58, hE56⟩ := chk_some hE56
        refine tm_iald rfl dX11_setWaits_235 (inb_vp b58) ?_
        refine tm_iload dX11_setWaits_236 rfl ?_
        refine tm_iadd dX11_setWaits_238 ?_
        refine tm_aload_n dX11_setWaits_239 rfl rfl ?_
        refine tm_get kX11 rfl (j := 66) (by decide) wfX11_178 dX11_setWaits_240 (v := tr 1266 0) rfl ?_
        refine tm_iload dX11_setWaits_243 rfl ?_
        obtain ⟨b59, hE56⟩ := chk_some hE56
        refine tm_iald rfl dX11_setWaits_245 (inb_vp b59) ?_
        refine tm_iload dX11_setWaits_246 rfl ?_
        refine tm_aload_n dX11_setWaits_248 rfl rfl ?_
        refine tm_get kX11 rfl (j := 35) (by decide) wfX11_95 dX11_setWaits_249 (v := tr 1235 0) rfl ?_
        refine tm_iload dX11_setWaits_252 rfl ?_
        obtain ⟨b60, hE56⟩ := chk_some hE56
        refine tm_iald rfl dX11_setWaits_254 (inb_vp b60) ?_
        obtain ⟨x61, hc62, hE56⟩ := obind_some hE56
        refine tm_callS (avs := [ti x55, ti (mI M 1235 0 (z4.toNatClampNeg))]) (st := [ti (mI M 1266 0 (z4.toNatClampNeg)), ti ((mI M 1266 0 ((mI M 1214 0 (z2.toNatClampNeg)).toNatClampNeg)) + y5), tr 11 0]) (okJ9_floorMod_7cf53 hc62) wcX11_371.1 wcX11_371.2.1 wcX11_371.2.2 ⟨rfl, rfl, Nat.le_of_ble_eq_true rfl, Nat.le_of_ble_eq_true rfl⟩ rfl (Nat.le_of_ble_eq_true rfl) ⟨Nat.zero_le _, Nat.zero_le _⟩ dX11_setWaits_255 ?_
        refine tm_iadd dX11_setWaits_258 ?_
        refine tm_iload dX11_setWaits_259 rfl ?_
        refine tm_aload_n dX11_setWaits_261 rfl rfl ?_
        refine tm_get kX11 rfl (j := 35) (by decide) wfX11_95 dX11_setWaits_262 (v := tr 1235 0) rfl ?_
        refine tm_iload dX11_setWaits_265 rfl ?_
        obtain ⟨b63, hE56⟩ := chk_some hE56
        refine tm_iald rfl dX11_setWaits_267 (inb_vp b63) ?_
        obtain ⟨x64, hc65, hE56⟩ := obind_some hE56
        refine tm_callS (avs := [ti x55, ti (mI M 1235 0 (z4.toNatClampNeg))]) (st := [ti ((mI M 1266 0 (z4.toNatClampNeg)) + x61), ti ((mI M 1266 0 ((mI M 1214 0 (z2.toNatClampNeg)).toNatClampNeg)) + y5), tr 11 0]) (okJ9_floorDiv_7cf53 hc65) wcX11_383.1 wcX11_383.2.1 wcX11_383.2.2 ⟨rfl, rfl, Nat.le_of_ble_eq_true rfl, Nat.le_of_ble_eq_true rfl⟩ rfl (Nat.le_of_ble_eq_true rfl) ⟨Nat.zero_le _, Nat.zero_le _⟩ dX11_setWaits_268 ?_
        refine tm_ineg dX11_setWaits_271 ?_
        obtain ⟨M67, hc66, hE56⟩ := obind_some hE56
        refine tm_callV kX11 rfl (avs := [ti ((mI M 1266 0 ((mI M 1214 0 (z2.toNatClampNeg)).toNatClampNeg)) + y5), ti ((mI M 1266 0 (z4.toNatClampNeg)) + x61), ti (-x64)]) (st := []) (okX11_waits hc66) wcX11_376.1 wcX11_376.2.1 wcX11_376.2.2.1 wcX11_376.2.2.2 ⟨rfl, rfl, Nat.le_of_ble_eq_true rfl, Nat.le_of_ble_eq_true rfl⟩ rfl (Nat.le_of_ble_eq_true rfl) ⟨Nat.zero_le _, Nat.zero_le _⟩ dX11_setWaits_272 ?_
        obtain rfl := Option.some.inj hE56
        refine tm_lcp [0, 2, 3, 4, 5] rfl ?_
        exact J57
set_option maxHeartbeats 4000000 in
set_option maxRecDepth 100000 in
theorem okX11_setWaits_l144 {g : tG}  {r : Option tV} {Mz : tM} : ∀ (n : Nat) (y2 : Int32) (M : tM) (w : tM), fX11_setWaits_l144 n y2 M = some w → (∀ (Mw : tM), Mw = w → TW g iX11_setWaits rmX11_setWaits 0 0 r Mz 0 0 287 [] [] Mw) → TW g iX11_setWaits rmX11_setWaits 0 0 r Mz 0 0 144 [(0, tr 11 0), (2, ti y2)] [] M := by
  intro n
  induction n with
  | zero => intro y2 M w h; cases h
  | succ n ih =>
    intro y2 M w h J
    rw [fX11_setWaits_l144] at h
    refine tm_iload_n dX11_setWaits_144 rfl rfl ?_
    refine tm_aload_n dX11_setWaits_145 rfl rfl ?_
    refine tm_get kX11 rfl (j := 12) (by decide) wfX11_209 dX11_setWaits_146 (v := ti (mI M 11 0 12)) rfl ?_
    refine tm_icmp_ge (tgt := 287) dX11_setWaits_149 (by decide) (fun c42 => ?_) (fun c42 => ?_)
    · rw [if_pos c42] at h
      obtain rfl := Option.some.inj h
      refine tm_lcp [] rfl ?_
      exact J _ rfl
    · rw [if_neg c42] at h
      refine tm_iconst (v := 0) dX11_setWaits_152 (by decide) ?_
      refine tm_istore_n (lc' := [(3, ti 0), (0, tr 11 0), (2, ti y2)]) dX11_setWaits_153 rfl (by decide) rfl ?_
      refine tm_aload_n dX11_setWaits_154 rfl rfl ?_
      refine tm_get kX11 rfl (j := 13) (by decide) wfX11_41 dX11_setWaits_155 (v := tr 1213 0) rfl ?_
      refine tm_iload_n dX11_setWaits_158 rfl rfl ?_
      obtain ⟨b43, h⟩ := chk_some h
      refine tm_iald rfl dX11_setWaits_159 (inb_vp b43) ?_
      obtain ⟨x44, ex44, h⟩ := bnd_some h
      refine tm_nmI ex44 ?_
      refine tm_istore (lc' := [(4, ti x44), (3, ti 0), (0, tr 11 0), (2, ti y2)]) dX11_setWaits_160 (by decide) rfl ?_
      refine tm_iconst (v := 0) dX11_setWaits_162 (by decide) ?_
      refine tm_istore (lc' := [(5, ti 0), (4, ti x44), (3, ti 0), (0, tr 11 0), (2, ti y2)]) dX11_setWaits_163 (by decide) rfl ?_
      obtain ⟨w69, hE70, h⟩ := obind_some h
      refine tm_lcp [0, 2, 3, 4, 5] rfl ?_
      refine okX11_setWaits_l165 y2 x44 FU 0 0 M _ hE70 (fun M71 e => ?_)
      subst e
      obtain ⟨x72, ex72, h⟩ := bnd_some h
      refine tm_iinc (v := x72) (lc' := [(2, ti x72), (0, tr 11 0)]) dX11_setWaits_281 rfl (by rw [ex72]; rfl) (by decide) rfl ?_
      refine tm_goto (tgt := 144) dX11_setWaits_284 (by decide) ?_
      refine tm_lcp [0, 2] rfl ?_
      exact ih x72 M71 _ h J
set_option maxHeartbeats 4000000 in
set_option maxRecDepth 100000 in
theorem okX11_setWaits {g : tG}  {M : tM} {Mz : tM} (h : fX11_setWaits  M = some Mz) : TMet g yX11_setWaits (Cond.code yX11_setWaits cX11_setWaits 8 (none) :: tgd) rmX11_setWaits [tr 11 0] M none Mz 0 0 := by
  have key : TW g iX11_setWaits rmX11_setWaits 0 0 none Mz 0 0 0 [(0, tr 11 0)] [] M := by
    rw [fX11_setWaits] at h
    refine tm_aload_n dX11_setWaits_0 rfl rfl ?_
    refine tm_iconst (v := 0) dX11_setWaits_1 (by decide) ?_
    obtain ⟨M1, eM1, h⟩ := bnd_some h
    refine tm_put kX11 rfl (j := 71) (by decide) wfX11_368 rfl dX11_setWaits_2 (fun _ => ⟨rfl, rfl⟩) (tPut_I 0 rfl) ?_
    refine tm_nmM eM1 ?_
    refine tm_iconst (v := 0) dX11_setWaits_5 (by decide) ?_
    refine tm_istore_n (lc' := [(1, ti 0), (0, tr 11 0)]) dX11_setWaits_6 rfl (by decide) rfl ?_
    refine tm_iconst (v := 0) dX11_setWaits_7 (by decide) ?_
    refine tm_istore_n (lc' := [(2, ti 0), (1, ti 0), (0, tr 11 0)]) dX11_setWaits_8 rfl (by decide) rfl ?_
    obtain ⟨w17, hE18, h⟩ := obind_some h
    refine tm_lcp [0, 1, 2] rfl ?_
    refine okX11_setWaits_l9  FU 0 0 M1 _ hE18 (fun M19 e => ?_)
    subst e
    refine tm_iconst (v := 0) dX11_setWaits_63 (by decide) ?_
    refine tm_istore_n (lc' := [(2, ti 0), (0, tr 11 0)]) dX11_setWaits_64 rfl (by decide) rfl ?_
    obtain ⟨w39, hE40, h⟩ := obind_some h
    refine tm_lcp [0, 2] rfl ?_
    refine okX11_setWaits_l65  FU 0 M19 _ hE40 (fun M41 e => ?_)
    subst e
    refine tm_iconst (v := 0) dX11_setWaits_142 (by decide) ?_
    refine tm_istore_n (lc' := [(2, ti 0), (0, tr 11 0)]) dX11_setWaits_143 rfl (by decide) rfl ?_
    obtain ⟨w73, hE74, h⟩ := obind_some h
    refine tm_lcp [0, 2] rfl ?_
    refine okX11_setWaits_l144  FU 0 M41 _ hE74 (fun M75 e => ?_)
    subst e
    obtain rfl := Option.some.inj h
    exact tm_vret rfl dX11_setWaits_287
  exact TMet.of (by decide) (Nat.le_of_ble_eq_true rfl) key
theorem wfX11_193 : Cond.fieldLink RX11 193 "EvenFlowModel" "far" "[J" ∈ tgd := (tgd_t 1297 (by decide +kernel) (by decide +kernel))
theorem wfX11_196 : Cond.fieldLink RX11 196 "EvenFlowModel" "by" "[I" ∈ tgd := (tgd_t 1298 (by decide +kernel) (by decide +kernel))
theorem wfX11_386 : Cond.fieldLink RX11 386 "EvenFlowModel" "beatLower" "J" ∈ tgd := (tgd_t 1300 (by decide +kernel) (by decide +kernel))
theorem wfX11_390 : Cond.fieldLink RX11 390 "EvenFlowModel" "beatUpper" "J" ∈ tgd := (tgd_t 1299 (by decide +kernel) (by decide +kernel))
abbrev iX11_isLonger : tY := (RX11, cX11_isLonger, 11, some .boolean, "isLonger")
abbrev rmX11_isLonger : Room := { frames := 1, cells := 0, slots := 0, locals := 29 }
def fX11_isLonger_l2  : Nat → Int32 → tM → Option (tM)
  | 0, _, _ => none
  | n + 1, y1, M =>
    if (mI M 11 0 36) ≤ y1 then (
    some M
    ) else (
    chk (inb y1 (mN M 1272 0)) <|
    bnd (sL M 1272 0 (y1.toNatClampNeg) 0) fun M3 =>
    chk (inb y1 (mN M3 1273 0)) <|
    bnd (sI M3 1273 0 (y1.toNatClampNeg) (-9)) fun M5 =>
    bnd (y1 + 1) fun x6 =>
    fX11_isLonger_l2 n x6 M5
    )
def fX11_isLonger_l49 (z2 : Int32) : Nat → Int32 → Int32 → tM → Option (Int32 × tM)
  | 0, _, _, _ => none
  | n + 1, y1, y3, M =>
    if (mI M 11 0 71) ≤ y3 then (
    some ((y1, M))
    ) else (
    chk (inb y3 (mN M 1269 0)) <|
    chk (inb (mI M 1269 0 (y3.toNatClampNeg)) (mN M 1272 0)) <|
    chk (inb y3 (mN M 1268 0)) <|
    chk (inb (mI M 1268 0 (y3.toNatClampNeg)) (mN M 1267 0)) <|
    chk (inb y3 (mN M 1270 0)) <|
    bnd (((mL M 1272 0 ((mI M 1269 0 (y3.toNatClampNeg)).toNatClampNeg)) + (((mI M 1267 0 ((mI M 1268 0 (y3.toNatClampNeg)).toNatClampNeg)).toInt64) * (mL M 11 0 75))) - (((mI M 1270 0 (y3.toNatClampNeg)).toInt64) * (mL M 11 0 74))) fun x17 =>
    chk (inb y3 (mN M 1268 0)) <|
    chk (inb (mI M 1268 0 (y3.toNatClampNeg)) (mN M 1272 0)) <|
    Option.bind (α := Int32 × tM) (
    if (lg_cmp x17 (mL M 1272 0 ((mI M 1268 0 (y3.toNatClampNeg)).toNatClampNeg))) ≤ 0 then (
    some ((y1, M))
    ) else (
    chk (inb y3 (mN M 1268 0)) <|
    chk (inb (mI M 1268 0 (y3.toNatClampNeg)) (mN M 1272 0)) <|
    bnd (sL M 1272 0 ((mI M 1268 0 (y3.toNatClampNeg)).toNatClampNeg) x17) fun M23 =>
    chk (inb y3 (mN M23 1268 0)) <|
    chk (inb (mI M23 1268 0 (y3.toNatClampNeg)) (mN M23 1273 0)) <|
    bnd (sI M23 1273 0 ((mI M23 1268 0 (y3.toNatClampNeg)).toNatClampNeg) y3) fun M26 =>
    chk (inb y3 (mN M26 1268 0)) <|
    bnd (mI M26 1268 0 (y3.toNatClampNeg)) fun x28 =>
    some ((x28, M26))
    )
    ) fun (x21, M22) =>
    bnd (y3 + 1) fun x29 =>
    fX11_isLonger_l49 z2 n x21 x29 M22
    )
def fX11_isLonger_l36  : Nat → Int32 → Int32 → tM → Option ((Int32 × tM) ⊕ (Int32 × tM))
  | 0, _, _, _ => none
  | n + 1, y1, y2, M =>
    if (mI M 11 0 36) < y2 then (
    some (Sum.inr ((y1, M)))
    ) else (
    Option.bind (fX11_isLonger_l49 y2 FU (-9) 0 M) fun (x32, M33) =>
    if 0 ≤ x32 then (
    bnd (y2 + 1) fun x35 =>
    fX11_isLonger_l36 n x32 x35 M33
    ) else (
    some (Sum.inl ((0, M33)))
    )
    )
def fX11_isLonger_l172  (M : tM) : Nat → Int32 → Int32 → Option (Int32)
  | 0, _, _ => none
  | n + 1, y2, y3 =>
    if (mI M 11 0 36) ≤ y3 then (
    some y2
    ) else (
    chk (inb y2 (mN M 1273 0)) <|
    chk (inb (mI M 1273 0 (y2.toNatClampNeg)) (mN M 1269 0)) <|
    bnd (mI M 1269 0 ((mI M 1273 0 (y2.toNatClampNeg)).toNatClampNeg)) fun x43 =>
    bnd (y3 + 1) fun x44 =>
    fX11_isLonger_l172 M n x43 x44
    )
def fX11_isLonger_l209 (z2 : Int32) (M : tM) : Nat → Int64 → Int64 → Int32 → Int32 → Option (Int64 × Int64)
  | 0, _, _, _, _ => none
  | n + 1, y3, y5, y7, y8 =>
    if y8 = 0 then (
    some ((y3, y5))
    ) else (
    chk (inb y7 (mN M 1267 0)) <|
    bnd (y3 + ((mI M 1267 0 (y7.toNatClampNeg)).toInt64)) fun x50 =>
    chk (inb y7 (mN M 1273 0)) <|
    chk (inb (mI M 1273 0 (y7.toNatClampNeg)) (mN M 1270 0)) <|
    bnd (y5 + ((mI M 1270 0 ((mI M 1273 0 (y7.toNatClampNeg)).toNatClampNeg)).toInt64)) fun x53 =>
    chk (inb y7 (mN M 1273 0)) <|
    chk (inb (mI M 1273 0 (y7.toNatClampNeg)) (mN M 1269 0)) <|
    bnd (mI M 1269 0 ((mI M 1273 0 (y7.toNatClampNeg)).toNatClampNeg)) fun x56 =>
    Option.bind (α := Int32) (
    if x56 = z2 then (
    some 0
    ) else (
    some 1
    )
    ) fun x58 =>
    fX11_isLonger_l209 z2 M n x50 x53 x56 x58
    )
def fX11_isLonger  (M : tM) : Option (Int32 × tM) :=
  Option.bind (fX11_isLonger_l2 FU 0 M) fun M9 =>
  Option.bind (fX11_isLonger_l36 FU (-9) 0 M9) fun w36 => match w36 with
  | Sum.inl q71 => some q71
  | Sum.inr ((x38, M39)) =>
    Option.bind (fX11_isLonger_l172 M39 FU x38 0) fun x47 =>
    Option.bind (fX11_isLonger_l209 x47 M39 FU 0 0 x47 1) fun (x63, x64) =>
    (fX11_divisor x63 x64 M39).bind fun x65 =>
    chk (nz8 x65) <|
    bnd (sL M39 11 0 74 (x63 / x65)) fun M68 =>
    chk (nz8 x65) <|
    bnd (sL M68 11 0 75 (x64 / x65)) fun M70 =>
    some ((1, M70))
set_option maxHeartbeats 4000000 in
set_option maxRecDepth 100000 in
theorem okX11_isLonger_l2 {g : tG}  {r : Option tV} {Mz : tM} : ∀ (n : Nat) (y1 : Int32) (M : tM) (w : tM), fX11_isLonger_l2 n y1 M = some w → (∀ (Mw : tM), Mw = w → TW g iX11_isLonger rmX11_isLonger 0 0 r Mz 0 0 31 [(0, tr 11 0)] [] Mw) → TW g iX11_isLonger rmX11_isLonger 0 0 r Mz 0 0 2 [(0, tr 11 0), (1, ti y1)] [] M := by
  intro n
  induction n with
  | zero => intro y1 M w h; cases h
  | succ n ih =>
    intro y1 M w h J
    rw [fX11_isLonger_l2] at h
    refine tm_iload_n dX11_isLonger_2 rfl rfl ?_
    refine tm_aload_n dX11_isLonger_3 rfl rfl ?_
    refine tm_get kX11 rfl (j := 36) (by decide) wfX11_273 dX11_isLonger_4 (v := ti (mI M 11 0 36)) rfl ?_
    refine tm_icmp_ge (tgt := 31) dX11_isLonger_7 (by decide) (fun c1 => ?_) (fun c1 => ?_)
    · rw [if_pos c1] at h
      obtain rfl := Option.some.inj h
      refine tm_lcp [0] rfl ?_
      exact J _ rfl
    · rw [if_neg c1] at h
      refine tm_aload_n dX11_isLonger_10 rfl rfl ?_
      refine tm_get kX11 rfl (j := 72) (by decide) wfX11_193 dX11_isLonger_11 (v := tr 1272 0) rfl ?_
      refine tm_iload_n dX11_isLonger_14 rfl rfl ?_
      refine tm_lconst (v := 0) dX11_isLonger_15 (by decide) ?_
      obtain ⟨b2, h⟩ := chk_some h
      obtain ⟨M3, eM3, h⟩ := bnd_some h
      refine tm_last rfl dX11_isLonger_16 (inb_vp b2) ?_
      refine tm_nmM eM3 ?_
      refine tm_aload_n dX11_isLonger_17 rfl rfl ?_
      refine tm_get kX11 rfl (j := 73) (by decide) wfX11_196 dX11_isLonger_18 (v := tr 1273 0) rfl ?_
      refine tm_iload_n dX11_isLonger_21 rfl rfl ?_
      refine tm_bipush (v := (-9)) dX11_isLonger_22 (by decide) ?_
      obtain ⟨b4, h⟩ := chk_some h
      obtain ⟨M5, eM5, h⟩ := bnd_some h
      refine tm_iast rfl dX11_isLonger_24 (inb_vp b4) ?_
      refine tm_nmM eM5 ?_
      obtain ⟨x6, ex6, h⟩ := bnd_some h
      refine tm_iinc (v := x6) (lc' := [(1, ti x6), (0, tr 11 0)]) dX11_isLonger_25 rfl (by rw [ex6]; rfl) (by decide) rfl ?_
      refine tm_goto (tgt := 2) dX11_isLonger_28 (by decide) ?_
      refine tm_lcp [0, 1] rfl ?_
      exact ih x6 M5 _ h J
set_option maxHeartbeats 4000000 in
set_option maxRecDepth 100000 in
theorem okX11_isLonger_l49 {g : tG} (z2 : Int32) {r : Option tV} {Mz : tM} : ∀ (n : Nat) (y1 : Int32) (y3 : Int32) (M : tM) (w : Int32 × tM), fX11_isLonger_l49 z2 n y1 y3 M = some w → (∀ (w1 : Int32) (Mw : tM), (w1, Mw) = w → TW g iX11_isLonger rmX11_isLonger 0 0 r Mz 0 0 156 [(0, tr 11 0), (1, ti w1), (2, ti z2)] [] Mw) → TW g iX11_isLonger rmX11_isLonger 0 0 r Mz 0 0 49 [(0, tr 11 0), (1, ti y1), (2, ti z2), (3, ti y3)] [] M := by
  intro n
  induction n with
  | zero => intro y1 y3 M w h; cases h
  | succ n ih =>
    intro y1 y3 M w h J
    rw [fX11_isLonger_l49] at h
    refine tm_iload_n dX11_isLonger_49 rfl rfl ?_
    refine tm_aload_n dX11_isLonger_50 rfl rfl ?_
    refine tm_get kX11 rfl (j := 71) (by decide) wfX11_368 dX11_isLonger_51 (v := ti (mI M 11 0 71)) rfl ?_
    refine tm_icmp_ge (tgt := 156) dX11_isLonger_54 (by decide) (fun c11 => ?_) (fun c11 => ?_)
    · rw [if_pos c11] at h
      obtain rfl := Option.some.inj h
      refine tm_lcp [0, 1, 2] rfl ?_
      exact J _ _ rfl
    · rw [if_neg c11] at h
      refine tm_aload_n dX11_isLonger_57 rfl rfl ?_
      refine tm_get kX11 rfl (j := 72) (by decide) wfX11_193 dX11_isLonger_58 (v := tr 1272 0) rfl ?_
      refine tm_aload_n dX11_isLonger_61 rfl rfl ?_
      refine tm_get kX11 rfl (j := 69) (by decide) wfX11_187 dX11_isLonger_62 (v := tr 1269 0) rfl ?_
      refine tm_iload_n dX11_isLonger_65 rfl rfl ?_
      obtain ⟨b12, h⟩ := chk_some h
      refine tm_iald rfl dX11_isLonger_66 (inb_vp b12) ?_
      obtain ⟨b13, h⟩ := chk_some h
      refine tm_lald rfl dX11_isLonger_67 (inb_vp b13) ?_
      refine tm_aload_n dX11_isLonger_68 rfl rfl ?_
      refine tm_get kX11 rfl (j := 67) (by decide) wfX11_181 dX11_isLonger_69 (v := tr 1267 0) rfl ?_
      refine tm_aload_n dX11_isLonger_72 rfl rfl ?_
      refine tm_get kX11 rfl (j := 68) (by decide) wfX11_184 dX11_isLonger_73 (v := tr 1268 0) rfl ?_
      refine tm_iload_n dX11_isLonger_76 rfl rfl ?_
      obtain ⟨b14, h⟩ := chk_some h
      refine tm_iald rfl dX11_isLonger_77 (inb_vp b14) ?_
      obtain ⟨b15, h⟩ := chk_some h
      refine tm_iald rfl dX11_isLonger_78 (inb_vp b15) ?_
      refine tm_i2l dX11_isLonger_79 ?_
      refine tm_aload_n dX11_isLonger_80 rfl rfl ?_
      refine tm_get kX11 rfl (j := 75) (by decide) wfX11_386 dX11_isLonger_81 (v := tl (mL M 11 0 75)) rfl ?_
      refine tm_lmul dX11_isLonger_84 ?_
      refine tm_ladd dX11_isLonger_85 ?_
      refine tm_aload_n dX11_isLonger_86 rfl rfl ?_
      refine tm_get kX11 rfl (j := 70) (by decide) wfX11_190 dX11_isLonger_87 (v := tr 1270 0) rfl ?_
      refine tm_iload_n dX11_isLonger_90 rfl rfl ?_
      obtain ⟨b16, h⟩ := chk_some h
      refine tm_iald rfl dX11_isLonger_91 (inb_vp b16) ?_
      refine tm_i2l dX11_isLonger_92 ?_
      refine tm_aload_n dX11_isLonger_93 rfl rfl ?_
      refine tm_get kX11 rfl (j := 74) (by decide) wfX11_390 dX11_isLonger_94 (v := tl (mL M 11 0 74)) rfl ?_
      refine tm_lmul dX11_isLonger_97 ?_
      refine tm_lsub dX11_isLonger_98 ?_
      obtain ⟨x17, ex17, h⟩ := bnd_some h
      refine tm_nmL ex17 ?_
      refine tm_lstore (lc' := [(4, tl x17), (0, tr 11 0), (1, ti y1), (2, ti z2), (3, ti y3)]) dX11_isLonger_99 (by decide) rfl ?_
      refine tm_lload dX11_isLonger_101 rfl ?_
      refine tm_aload_n dX11_isLonger_103 rfl rfl ?_
      refine tm_get kX11 rfl (j := 72) (by decide) wfX11_193 dX11_isLonger_104 (v := tr 1272 0) rfl ?_
      refine tm_aload_n dX11_isLonger_107 rfl rfl ?_
      refine tm_get kX11 rfl (j := 68) (by decide) wfX11_184 dX11_isLonger_108 (v := tr 1268 0) rfl ?_
      refine tm_iload_n dX11_isLonger_111 rfl rfl ?_
      obtain ⟨b18, h⟩ := chk_some h
      refine tm_iald rfl dX11_isLonger_112 (inb_vp b18) ?_
      obtain ⟨b19, h⟩ := chk_some h
      refine tm_lald rfl dX11_isLonger_113 (inb_vp b19) ?_
      refine tm_lcmp dX11_isLonger_114 ?_
      obtain ⟨⟨x21, M22⟩, hE23, h⟩ := obind_some h
      dsimp only at h
      have J24 : TW g iX11_isLonger rmX11_isLonger 0 0 r Mz 0 0 150 [(0, tr 11 0), (1, ti x21), (2, ti z2), (3, ti y3)] [] M22 := by
        obtain ⟨x29, ex29, h⟩ := bnd_some h
        refine tm_iinc (v := x29) (lc' := [(3, ti x29), (0, tr 11 0), (1, ti x21), (2, ti z2)]) dX11_isLonger_150 rfl (by rw [ex29]; rfl) (by decide) rfl ?_
        refine tm_goto (tgt := 49) dX11_isLonger_153 (by decide) ?_
        refine tm_lcp [0, 1, 2, 3] rfl ?_
        exact ih x21 x29 M22 _ h J
      refine tm_if_le (tgt := 150) dX11_isLonger_115 (by decide) (fun c20 => ?_) (fun c20 => ?_)
      · rw [if_pos c20] at hE23
        obtain ⟨rfl, rfl⟩ := pj2 hE23
        refine tm_lcp [0, 1, 2, 3] rfl ?_
        exact J24
      · rw [if_neg c20] at hE23
        refine tm_aload_n dX11_isLonger_118 rfl rfl ?_
        refine tm_get kX11 rfl (j := 72) (by decide) wfX11_193 dX11_isLonger_119 (v := tr 1272 0) rfl ?_
        refine tm_aload_n dX11_isLonger_122 rfl rfl ?_
        refine tm_get kX11 rfl (j := 68) (by decide) wfX11_184 dX11_isLonger_123 (v := tr 1268 0) rfl ?_
        refine tm_iload_n dX11_isLonger_126 rfl rfl ?_
        obtain ⟨b21, hE23⟩ := chk_some hE23
        refine tm_iald rfl dX11_isLonger_127 (inb_vp b21) ?_
        refine tm_lload dX11_isLonger_128 rfl ?_
        obtain ⟨b22, hE23⟩ := chk_some hE23
        obtain ⟨M23, eM23, hE23⟩ := bnd_some hE23
        refine tm_last rfl dX11_isLonger_130 (inb_vp b22) ?_
        refine tm_nmM eM23 ?_
        refine tm_aload_n dX11_isLonger_131 rfl rfl ?_
        refine tm_get kX11 rfl (j := 73) (by decide) wfX11_196 dX11_isLonger_132 (v := tr 1273 0) rfl ?_
        refine tm_aload_n dX11_isLonger_135 rfl rfl ?_
        refine tm_get kX11 rfl (j := 68) (by decide) wfX11_184 dX11_isLonger_136 (v := tr 1268 0) rfl ?_
        refine tm_iload_n dX11_isLonger_139 rfl rfl ?_
        obtain ⟨b24, hE23⟩ := chk_some hE23
        refine tm_iald rfl dX11_isLonger_140 (inb_vp b24) ?_
        refine tm_iload_n dX11_isLonger_141 rfl rfl ?_
        obtain ⟨b25, hE23⟩ := chk_some hE23
        obtain ⟨M26, eM26, hE23⟩ := bnd_some hE23
        refine tm_iast rfl dX11_isLonger_142 (inb_vp b25) ?_
        refine tm_nmM eM26 ?_
        refine tm_aload_n dX11_isLonger_143 rfl rfl ?_
        refine tm_get kX11 rfl (j := 68) (by decide) wfX11_184 dX11_isLonger_144 (v := tr 1268 0) rfl ?_
        refine tm_iload_n dX11_isLonger_147 rfl rfl ?_
        obtain ⟨b27, hE23⟩ := chk_some hE23
        refine tm_iald rfl dX11_isLonger_148 (inb_vp b27) ?_
        obtain ⟨x28, ex28, hE23⟩ := bnd_some hE23
        refine tm_nmI ex28 ?_
        refine tm_istore_n (lc' := [(1, ti x28), (4, tl x17), (0, tr 11 0), (2, ti z2), (3, ti y3)]) dX11_isLonger_149 rfl (by decide) rfl ?_
        obtain ⟨rfl, rfl⟩ := pj2 hE23
        refine tm_lcp [0, 1, 2, 3] rfl ?_
        exact J24
set_option maxHeartbeats 4000000 in
set_option maxRecDepth 100000 in
theorem okX11_isLonger_l36 {g : tG}  {r : Option tV} {Mz : tM} : ∀ (n : Nat) (y1 : Int32) (y2 : Int32) (M : tM) (w : (Int32 × tM) ⊕ (Int32 × tM)), fX11_isLonger_l36 n y1 y2 M = some w → (∀ (w1 : Int32) (Mw : tM), Sum.inr ((w1, Mw)) = w → TW g iX11_isLonger rmX11_isLonger 0 0 r Mz 0 0 168 [(0, tr 11 0), (1, ti w1)] [] Mw) → (∀ (v : Int32) (Mv : tM), Sum.inl ((v, Mv)) = w → r = (some (ti v)) ∧ Mz = Mv) → TW g iX11_isLonger rmX11_isLonger 0 0 r Mz 0 0 36 [(0, tr 11 0), (1, ti y1), (2, ti y2)] [] M := by
  intro n
  induction n with
  | zero => intro y1 y2 M w h; cases h
  | succ n ih =>
    intro y1 y2 M w h J JR
    rw [fX11_isLonger_l36] at h
    refine tm_iload_n dX11_isLonger_36 rfl rfl ?_
    refine tm_aload_n dX11_isLonger_37 rfl rfl ?_
    refine tm_get kX11 rfl (j := 36) (by decide) wfX11_273 dX11_isLonger_38 (v := ti (mI M 11 0 36)) rfl ?_
    refine tm_icmp_gt (tgt := 168) dX11_isLonger_41 (by decide) (fun c10 => ?_) (fun c10 => ?_)
    · rw [if_pos c10] at h
      obtain rfl := Option.some.inj h
      refine tm_lcp [0, 1] rfl ?_
      exact J _ _ rfl
    · rw [if_neg c10] at h
      refine tm_bipush (v := (-9)) dX11_isLonger_44 (by decide) ?_
      refine tm_istore_n (lc' := [(1, ti (-9)), (0, tr 11 0), (2, ti y2)]) dX11_isLonger_46 rfl (by decide) rfl ?_
      refine tm_iconst (v := 0) dX11_isLonger_47 (by decide) ?_
      refine tm_istore_n (lc' := [(3, ti 0), (1, ti (-9)), (0, tr 11 0), (2, ti y2)]) dX11_isLonger_48 rfl (by decide) rfl ?_
      obtain ⟨w30, hE31, h⟩ := obind_some h
      refine tm_lcp [0, 1, 2, 3] rfl ?_
      refine okX11_isLonger_l49 y2 FU (-9) 0 M _ hE31 (fun x32 M33 e => ?_)
      subst e
      dsimp only at h
      refine tm_iload_n dX11_isLonger_156 rfl rfl ?_
      refine tm_if_ge (tgt := 162) dX11_isLonger_157 (by decide) (fun c34 => ?_) (fun c34 => ?_)
      · rw [if_pos c34] at h
        obtain ⟨x35, ex35, h⟩ := bnd_some h
        refine tm_iinc (v := x35) (lc' := [(2, ti x35), (0, tr 11 0), (1, ti x32)]) dX11_isLonger_162 rfl (by rw [ex35]; rfl) (by decide) rfl ?_
        refine tm_goto (tgt := 36) dX11_isLonger_165 (by decide) ?_
        refine tm_lcp [0, 1, 2] rfl ?_
        exact ih x32 x35 M33 _ h J JR
      · rw [if_neg c34] at h
        refine tm_iconst (v := 0) dX11_isLonger_160 (by decide) ?_
        obtain rfl := Option.some.inj h
        obtain ⟨rfl, rfl⟩ := JR _ _ rfl
        exact tm_zret (by decide) rfl dX11_isLonger_161
set_option maxHeartbeats 4000000 in
set_option maxRecDepth 100000 in
theorem okX11_isLonger_l172 {g : tG}  (M : tM) {r : Option tV} {Mz : tM} : ∀ (n : Nat) (y2 : Int32) (y3 : Int32) (w : Int32), fX11_isLonger_l172 M n y2 y3 = some w → (∀ (w2 : Int32), w2 = w → TW g iX11_isLonger rmX11_isLonger 0 0 r Mz 0 0 198 [(0, tr 11 0), (2, ti w2)] [] M) → TW g iX11_isLonger rmX11_isLonger 0 0 r Mz 0 0 172 [(0, tr 11 0), (2, ti y2), (3, ti y3)] [] M := by
  intro n
  induction n with
  | zero => intro y2 y3 w h; cases h
  | succ n ih =>
    intro y2 y3 w h J
    rw [fX11_isLonger_l172] at h
    refine tm_iload_n dX11_isLonger_172 rfl rfl ?_
    refine tm_aload_n dX11_isLonger_173 rfl rfl ?_
    refine tm_get kX11 rfl (j := 36) (by decide) wfX11_273 dX11_isLonger_174 (v := ti (mI M 11 0 36)) rfl ?_
    refine tm_icmp_ge (tgt := 198) dX11_isLonger_177 (by decide) (fun c40 => ?_) (fun c40 => ?_)
    · rw [if_pos c40] at h
      obtain rfl := Option.some.inj h
      refine tm_lcp [0, 2] rfl ?_
      exact J _ rfl
    · rw [if_neg c40] at h
      refine tm_aload_n dX11_isLonger_180 rfl rfl ?_
      refine tm_get kX11 rfl (j := 69) (by decide) wfX11_187 dX11_isLonger_181 (v := tr 1269 0) rfl ?_
      refine tm_aload_n dX11_isLonger_184 rfl rfl ?_
      refine tm_get kX11 rfl (j := 73) (by decide) wfX11_196 dX11_isLonger_185 (v := tr 1273 0) rfl ?_
      refine tm_iload_n dX11_isLonger_188 rfl rfl ?_
      obtain ⟨b41, h⟩ := chk_some h
      refine tm_iald rfl dX11_isLonger_189 (inb_vp b41) ?_
      obtain ⟨b42, h⟩ := chk_some h
      refine tm_iald rfl dX11_isLonger_190 (inb_vp b42) ?_
      obtain ⟨x43, ex43, h⟩ := bnd_some h
      refine tm_nmI ex43 ?_
      refine tm_istore_n (lc' := [(2, ti x43), (0, tr 11 0), (3, ti y3)]) dX11_isLonger_191 rfl (by decide) rfl ?_
      obtain ⟨x44, ex44, h⟩ := bnd_some h
      refine tm_iinc (v := x44) (lc' := [(3, ti x44), (2, ti x43), (0, tr 11 0)]) dX11_isLonger_192 rfl (by rw [ex44]; rfl) (by decide) rfl ?_
      refine tm_goto (tgt := 172) dX11_isLonger_195 (by decide) ?_
      refine tm_lcp [0, 2, 3] rfl ?_
      exact ih x43 x44 _ h J
set_option maxHeartbeats 4000000 in
set_option maxRecDepth 100000 in
theorem okX11_isLonger_l209 {g : tG} (z2 : Int32) (M : tM) {r : Option tV} {Mz : tM} : ∀ (n : Nat) (y3 : Int64) (y5 : Int64) (y7 : Int32) (y8 : Int32) (w : Int64 × Int64), fX11_isLonger_l209 z2 M n y3 y5 y7 y8 = some w → (∀ (w3 : Int64) (w5 : Int64), (w3, w5) = w → TW g iX11_isLonger rmX11_isLonger 0 0 r Mz 0 0 273 [(0, tr 11 0), (3, tl w3), (5, tl w5)] [] M) → TW g iX11_isLonger rmX11_isLonger 0 0 r Mz 0 0 209 [(0, tr 11 0), (2, ti z2), (3, tl y3), (5, tl y5), (7, ti y7), (8, ti y8)] [] M := by
  intro n
  induction n with
  | zero => intro y3 y5 y7 y8 w h; cases h
  | succ n ih =>
    intro y3 y5 y7 y8 w h J
    rw [fX11_isLonger_l209] at h
    refine tm_iload dX11_isLonger_209 rfl ?_
    refine tm_if_eq (tgt := 273) dX11_isLonger_211 (by decide) (fun c48 => ?_) (fun c48 => ?_)
    · rw [if_pos c48] at h
      obtain rfl := Option.some.inj h
      refine tm_lcp [0, 3, 5] rfl ?_
      exact J _ _ rfl
    · rw [if_neg c48] at h
      refine tm_lload_n dX11_isLonger_214 rfl rfl ?_
      refine tm_aload_n dX11_isLonger_215 rfl rfl ?_
      refine tm_get kX11 rfl (j := 67) (by decide) wfX11_181 dX11_isLonger_216 (v := tr 1267 0) rfl ?_
      refine tm_iload dX11_isLonger_219 rfl ?_
      obtain ⟨b49, h⟩ := chk_some h
      refine tm_iald rfl dX11_isLonger_221 (inb_vp b49) ?_
      refine tm_i2l dX11_isLonger_222 ?_
      refine tm_ladd dX11_isLonger_223 ?_
      obtain ⟨x50, ex50, h⟩ := bnd_some h
      refine tm_nmL ex50 ?_
      refine tm_lstore_n (lc' := [(3, tl x50), (0, tr 11 0), (2, ti z2), (5, tl y5), (7, ti y7), (8, ti y8)]) dX11_isLonger_224 rfl (by decide) rfl ?_
      refine tm_lload dX11_isLonger_225 rfl ?_
      refine tm_aload_n dX11_isLonger_227 rfl rfl ?_
      refine tm_get kX11 rfl (j := 70) (by decide) wfX11_190 dX11_isLonger_228 (v := tr 1270 0) rfl ?_
      refine tm_aload_n dX11_isLonger_231 rfl rfl ?_
      refine tm_get kX11 rfl (j := 73) (by decide) wfX11_196 dX11_isLonger_232 (v := tr 1273 0) rfl ?_
      refine tm_iload dX11_isLonger_235 rfl ?_
      obtain ⟨b51, h⟩ := chk_some h
      refine tm_iald rfl dX11_isLonger_237 (inb_vp b51) ?_
      obtain ⟨b52, h⟩ := chk_some h
      refine tm_iald rfl dX11_isLonger_238 (inb_vp b52) ?_
      refine tm_i2l dX11_isLonger_239 ?_
      refine tm_ladd dX11_isLonger_240 ?_
      obtain ⟨x53, ex53, h⟩ := bnd_some h
      refine tm_nmL ex53 ?_
      refine tm_lstore (lc' := [(5, tl x53), (3, tl x50), (0, tr 11 0), (2, ti z2), (7, ti y7), (8, ti y8)]) dX11_isLonger_241 (by decide) rfl ?_
      refine tm_aload_n dX11_isLonger_243 rfl rfl ?_
      refine tm_get kX11 rfl (j := 69) (by decide) wfX11_187 dX11_isLonger_244 (v := tr 1269 0) rfl ?_
      refine tm_aload_n dX11_isLonger_247 rfl rfl ?_
      refine tm_get kX11 rfl (j := 73) (by decide) wfX11_196 dX11_isLonger_248 (v := tr 1273 0) rfl ?_
      refine tm_iload dX11_isLonger_251 rfl ?_
      obtain ⟨b54, h⟩ := chk_some h
      refine tm_iald rfl dX11_isLonger_253 (inb_vp b54) ?_
      obtain ⟨b55, h⟩ := chk_some h
      refine tm_iald rfl dX11_isLonger_254 (inb_vp b55) ?_
      obtain ⟨x56, ex56, h⟩ := bnd_some h
      refine tm_nmI ex56 ?_
      refine tm_istore (lc' := [(7, ti x56), (5, tl x53), (3, tl x50), (0, tr 11 0), (2, ti z2), (8, ti y8)]) dX11_isLonger_255 (by decide) rfl ?_
      refine tm_iload dX11_isLonger_257 rfl ?_
      refine tm_iload_n dX11_isLonger_259 rfl rfl ?_
      obtain ⟨x58, hE59, h⟩ := obind_some h
      have J60 : TW g iX11_isLonger rmX11_isLonger 0 0 r Mz 0 0 268 [(0, tr 11 0), (2, ti z2), (3, tl x50), (5, tl x53), (7, ti x56)] [ti x58] M := by
        refine tm_istore (lc' := [(8, ti x58), (0, tr 11 0), (2, ti z2), (3, tl x50), (5, tl x53), (7, ti x56)]) dX11_isLonger_268 (by decide) rfl ?_
        refine tm_goto (tgt := 209) dX11_isLonger_270 (by decide) ?_
        refine tm_lcp [0, 2, 3, 5, 7, 8] rfl ?_
        exact ih x50 x53 x56 x58 _ h J
      refine tm_icmp_eq (tgt := 267) dX11_isLonger_260 (by decide) (fun c57 => ?_) (fun c57 => ?_)
      · rw [if_pos c57] at hE59
        refine tm_iconst (v := 0) dX11_isLonger_267 (by decide) ?_
        obtain rfl := Option.some.inj hE59
        refine tm_lcp [0, 2, 3, 5, 7] rfl ?_
        exact J60
      · rw [if_neg c57] at hE59
        refine tm_iconst (v := 1) dX11_isLonger_263 (by decide) ?_
        refine tm_goto (tgt := 268) dX11_isLonger_264 (by decide) ?_
        obtain rfl := Option.some.inj hE59
        refine tm_lcp [0, 2, 3, 5, 7] rfl ?_
        exact J60
set_option maxHeartbeats 4000000 in
set_option maxRecDepth 100000 in
theorem okX11_isLonger {g : tG}  {M : tM} {v : Int32} {Mz : tM} (h : fX11_isLonger  M = some ((v, Mz))) : TMet g yX11_isLonger (Cond.code yX11_isLonger cX11_isLonger 11 (some .boolean) :: tgd) rmX11_isLonger [tr 11 0] M (some (ti v)) Mz 0 0 := by
  have key : TW g iX11_isLonger rmX11_isLonger 0 0 (some (ti v)) Mz 0 0 0 [(0, tr 11 0)] [] M := by
    rw [fX11_isLonger] at h
    refine tm_iconst (v := 0) dX11_isLonger_0 (by decide) ?_
    refine tm_istore_n (lc' := [(1, ti 0), (0, tr 11 0)]) dX11_isLonger_1 rfl (by decide) rfl ?_
    obtain ⟨w7, hE8, h⟩ := obind_some h
    refine tm_lcp [0, 1] rfl ?_
    refine okX11_isLonger_l2  FU 0 M _ hE8 (fun M9 e => ?_)
    subst e
    refine tm_bipush (v := (-9)) dX11_isLonger_31 (by decide) ?_
    refine tm_istore_n (lc' := [(1, ti (-9)), (0, tr 11 0)]) dX11_isLonger_33 rfl (by decide) rfl ?_
    refine tm_iconst (v := 0) dX11_isLonger_34 (by decide) ?_
    refine tm_istore_n (lc' := [(2, ti 0), (1, ti (-9)), (0, tr 11 0)]) dX11_isLonger_35 rfl (by decide) rfl ?_
    obtain ⟨w36, hE37, h⟩ := obind_some h
    refine tm_lcp [0, 1, 2] rfl ?_
    refine okX11_isLonger_l36  FU (-9) 0 M9 _ hE37 (fun x38 M39 e => ?_) (fun v72 Mv73 e => ?_)
    · subst e
      dsimp only at h
      refine tm_iload_n dX11_isLonger_168 rfl rfl ?_
      refine tm_istore_n (lc' := [(2, ti x38), (0, tr 11 0), (1, ti x38)]) dX11_isLonger_169 rfl (by decide) rfl ?_
      refine tm_iconst (v := 0) dX11_isLonger_170 (by decide) ?_
      refine tm_istore_n (lc' := [(3, ti 0), (2, ti x38), (0, tr 11 0), (1, ti x38)]) dX11_isLonger_171 rfl (by decide) rfl ?_
      obtain ⟨w45, hE46, h⟩ := obind_some h
      refine tm_lcp [0, 2, 3] rfl ?_
      refine okX11_isLonger_l172 M39 FU x38 0 _ hE46 (fun x47 e => ?_)
      subst e
      refine tm_lconst (v := 0) dX11_isLonger_198 (by decide) ?_
      refine tm_lstore_n (lc' := [(3, tl 0), (0, tr 11 0), (2, ti x47)]) dX11_isLonger_199 rfl (by decide) rfl ?_
      refine tm_lconst (v := 0) dX11_isLonger_200 (by decide) ?_
      refine tm_lstore (lc' := [(5, tl 0), (3, tl 0), (0, tr 11 0), (2, ti x47)]) dX11_isLonger_201 (by decide) rfl ?_
      refine tm_iload_n dX11_isLonger_203 rfl rfl ?_
      refine tm_istore (lc' := [(7, ti x47), (5, tl 0), (3, tl 0), (0, tr 11 0), (2, ti x47)]) dX11_isLonger_204 (by decide) rfl ?_
      refine tm_iconst (v := 1) dX11_isLonger_206 (by decide) ?_
      refine tm_istore (lc' := [(8, ti 1), (7, ti x47), (5, tl 0), (3, tl 0), (0, tr 11 0), (2, ti x47)]) dX11_isLonger_207 (by decide) rfl ?_
      obtain ⟨w61, hE62, h⟩ := obind_some h
      refine tm_lcp [0, 2, 3, 5, 7, 8] rfl ?_
      refine okX11_isLonger_l209 x47 M39 FU 0 0 x47 1 _ hE62 (fun x63 x64 e => ?_)
      subst e
      dsimp only at h
      refine tm_lload_n dX11_isLonger_273 rfl rfl ?_
      refine tm_lload dX11_isLonger_274 rfl ?_
      obtain ⟨x65, hc66, h⟩ := obind_some h
      refine tm_callS (avs := [tl x63, tl x64]) (st := []) (okX11_divisor hc66) wcX11_248.1 wcX11_248.2.1 wcX11_248.2.2 ⟨rfl, rfl, Nat.le_of_ble_eq_true rfl, Nat.le_of_ble_eq_true rfl⟩ rfl (Nat.le_of_ble_eq_true rfl) ⟨Nat.zero_le _, Nat.zero_le _⟩ dX11_isLonger_276 ?_
      refine tm_lstore (lc' := [(9, tl x65), (0, tr 11 0), (3, tl x63), (5, tl x64)]) dX11_isLonger_279 (by decide) rfl ?_
      refine tm_aload_n dX11_isLonger_281 rfl rfl ?_
      refine tm_lload_n dX11_isLonger_282 rfl rfl ?_
      refine tm_lload dX11_isLonger_283 rfl ?_
      obtain ⟨b67, h⟩ := chk_some h
      refine tm_ldiv dX11_isLonger_285 (nz8_ne b67) ?_
      obtain ⟨M68, eM68, h⟩ := bnd_some h
      refine tm_put kX11 rfl (j := 74) (by decide) wfX11_390 rfl dX11_isLonger_286 (fun _ => ⟨rfl, rfl⟩) (tPut_L (x63 / x65) rfl) ?_
      refine tm_nmM eM68 ?_
      refine tm_aload_n dX11_isLonger_289 rfl rfl ?_
      refine tm_lload dX11_isLonger_290 rfl ?_
      refine tm_lload dX11_isLonger_292 rfl ?_
      obtain ⟨b69, h⟩ := chk_some h
      refine tm_ldiv dX11_isLonger_294 (nz8_ne b69) ?_
      obtain ⟨M70, eM70, h⟩ := bnd_some h
      refine tm_put kX11 rfl (j := 75) (by decide) wfX11_386 rfl dX11_isLonger_295 (fun _ => ⟨rfl, rfl⟩) (tPut_L (x64 / x65) rfl) ?_
      refine tm_nmM eM70 ?_
      refine tm_iconst (v := 1) dX11_isLonger_298 (by decide) ?_
      obtain ⟨rfl, rfl⟩ := pj2 h
      exact tm_zret (by decide) rfl dX11_isLonger_299
    · subst e
      obtain ⟨rfl, rfl⟩ := pj2 h
      exact ⟨rfl, rfl⟩
  exact TMet.of (by decide) (Nat.le_of_ble_eq_true rfl) key
