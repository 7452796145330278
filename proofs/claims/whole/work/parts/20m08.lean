theorem wfX11_151 : Cond.fieldLink RX11 151 "EvenFlowModel" "common" "[I" ∈ tgd := (tgd_t 1281 (by decide +kernel) (by decide +kernel))
abbrev iX11_crossing : tY := (RX11, cX11_crossing, 9, some .int, "crossing")
abbrev rmX11_crossing : Room := { frames := 0, cells := 0, slots := 0, locals := 0 }
def fX11_crossing_l24 (z1 : Int32) (z2 : Int32) (z3 : Int32) (z4 : Int32) (z5 : Int32) (M : tM) : Nat → Int32 → Int32 → Option (Int32)
  | 0, _, _ => none
  | n + 1, y6, y8 =>
    if z2 < y8 then (
    some y6
    ) else (
    Option.bind (α := Int32) (
    if y6 = 0 then (
    chk (inb y8 (mN M 1254 0)) <|
    chk (inb z5 (mN M 1213 0)) <|
    if (mI M 1254 0 (y8.toNatClampNeg)) = (mI M 1213 0 (z5.toNatClampNeg)) then (
    some 1
    ) else (
    some 0
    )
    ) else (
    some 1
    )
    ) fun x4 =>
    bnd (y8 + 1) fun x7 =>
    fX11_crossing_l24 z1 z2 z3 z4 z5 M n x4 x7
    )
def fX11_crossing_l70 (z1 : Int32) (z2 : Int32) (z3 : Int32) (z4 : Int32) (z5 : Int32) (z6 : Int32) (M : tM) : Nat → Int32 → Int32 → Option (Int32)
  | 0, _, _ => none
  | n + 1, y7, y8 =>
    if z3 < y8 then (
    some y7
    ) else (
    Option.bind (α := Int32) (
    if y7 = 0 then (
    chk (inb y8 (mN M 1254 0)) <|
    chk (inb z5 (mN M 1214 0)) <|
    if (mI M 1254 0 (y8.toNatClampNeg)) = (mI M 1214 0 (z5.toNatClampNeg)) then (
    some 1
    ) else (
    some 0
    )
    ) else (
    some 1
    )
    ) fun x14 =>
    bnd (y8 + 1) fun x17 =>
    fX11_crossing_l70 z1 z2 z3 z4 z5 z6 M n x14 x17
    )
def fX11_crossing_l6 (z1 : Int32) (z2 : Int32) (z3 : Int32) (M : tM) : Nat → Int32 → Int32 → Option (Int32)
  | 0, _, _ => none
  | n + 1, y4, y5 =>
    if (mI M 11 0 12) ≤ y5 then (
    some y4
    ) else (
    Option.bind (fX11_crossing_l24 z1 z2 z3 y4 y5 M FU 0 z1) fun x10 =>
    bnd (z2 + 1) fun x11 =>
    Option.bind (fX11_crossing_l70 z1 z2 z3 y4 y5 x10 M FU 0 x11) fun x20 =>
    Option.bind (α := Int32) (
    if x10 = 0 then (
    some 0
    ) else (
    if x20 = 0 then (
    some 0
    ) else (
    chk (inb y5 (mN M 1213 0)) <|
    chk (inb (mI M 1213 0 (y5.toNatClampNeg)) (mN M 1235 0)) <|
    chk (inb (4 * y5) (mN M 1215 0)) <|
    chk (inb ((12 * z1) + z3) (mN M 1256 0)) <|
    chk (nz4 (mI M 1256 0 (((12 * z1) + z3).toNatClampNeg))) <|
    chk (inb y5 (mN M 1217 0)) <|
    some ((((mI M 1235 0 ((mI M 1213 0 (y5.toNatClampNeg)).toNatClampNeg)) * (mI M 1215 0 ((4 * y5).toNatClampNeg))) / (mI M 1256 0 (((12 * z1) + z3).toNatClampNeg))) + (mI M 1217 0 (y5.toNatClampNeg)))
    )
    )
    ) fun x22 =>
    bnd (y4 + x22) fun x29 =>
    bnd (y5 + 1) fun x30 =>
    fX11_crossing_l6 z1 z2 z3 M n x29 x30
    )
def fX11_crossing (a1 : Int32) (a2 : Int32) (a3 : Int32) (M : tM) : Option (Int32) :=
  Option.bind (fX11_crossing_l6 a1 a2 a3 M FU 0 0) fun x33 =>
  some x33
set_option maxHeartbeats 4000000 in
set_option maxRecDepth 100000 in
theorem okX11_crossing_l24 {g : tG} (z1 : Int32) (z2 : Int32) (z3 : Int32) (z4 : Int32) (z5 : Int32) (M : tM) {r : Option tV} {Mz : tM} : ∀ (n : Nat) (y6 : Int32) (y8 : Int32) (w : Int32), fX11_crossing_l24 z1 z2 z3 z4 z5 M n y6 y8 = some w → (∀ (w6 : Int32), w6 = w → TW g iX11_crossing rmX11_crossing 0 0 r Mz 0 0 65 [(0, tr 11 0), (1, ti z1), (2, ti z2), (3, ti z3), (4, ti z4), (5, ti z5), (6, ti w6), (7, ti 0)] [] M) → TW g iX11_crossing rmX11_crossing 0 0 r Mz 0 0 24 [(0, tr 11 0), (1, ti z1), (2, ti z2), (3, ti z3), (4, ti z4), (5, ti z5), (6, ti y6), (7, ti 0), (8, ti y8)] [] M := by
  intro n
  induction n with
  | zero => intro y6 y8 w h; cases h
  | succ n ih =>
    intro y6 y8 w h J
    rw [fX11_crossing_l24] at h
    refine tm_iload dX11_crossing_24 rfl ?_
    refine tm_iload_n dX11_crossing_26 rfl rfl ?_
    refine tm_icmp_gt (tgt := 65) dX11_crossing_27 (by decide) (fun c2 => ?_) (fun c2 => ?_)
    · rw [if_pos c2] at h
      obtain rfl := Option.some.inj h
      refine tm_lcp [0, 1, 2, 3, 4, 5, 6, 7] rfl ?_
      exact J _ rfl
    · rw [if_neg c2] at h
      refine tm_iload dX11_crossing_30 rfl ?_
      obtain ⟨x4, hE5, h⟩ := obind_some h
      have J6 : TW g iX11_crossing rmX11_crossing 0 0 r Mz 0 0 57 [(0, tr 11 0), (1, ti z1), (2, ti z2), (3, ti z3), (4, ti z4), (5, ti z5), (7, ti 0), (8, ti y8)] [ti x4] M := by
        refine tm_istore (lc' := [(6, ti x4), (0, tr 11 0), (1, ti z1), (2, ti z2), (3, ti z3), (4, ti z4), (5, ti z5), (7, ti 0), (8, ti y8)]) dX11_crossing_57 (by decide) rfl ?_
        obtain ⟨x7, ex7, h⟩ := bnd_some h
        refine tm_iinc (v := x7) (lc' := [(8, ti x7), (6, ti x4), (0, tr 11 0), (1, ti z1), (2, ti z2), (3, ti z3), (4, ti z4), (5, ti z5), (7, ti 0)]) dX11_crossing_59 rfl (by rw [ex7]; rfl) (by decide) rfl ?_
        refine tm_goto (tgt := 24) dX11_crossing_62 (by decide) ?_
        refine tm_lcp [0, 1, 2, 3, 4, 5, 6, 7, 8] rfl ?_
        exact ih x4 x7 _ h J
      refine tm_if_ne (tgt := 52) dX11_crossing_32 (by decide) (fun c3 => ?_) (fun c3 => ?_)
      · rw [if_neg c3] at hE5
        refine tm_iconst (v := 1) dX11_crossing_52 (by decide) ?_
        refine tm_goto (tgt := 57) dX11_crossing_53 (by decide) ?_
        obtain rfl := Option.some.inj hE5
        refine tm_lcp [0, 1, 2, 3, 4, 5, 7, 8] rfl ?_
        exact J6
      · rw [if_pos c3] at hE5
        refine tm_aload_n dX11_crossing_35 rfl rfl ?_
        refine tm_get kX11 rfl (j := 54) (by decide) wfX11_144 dX11_crossing_36 (v := tr 1254 0) rfl ?_
        refine tm_iload dX11_crossing_39 rfl ?_
        obtain ⟨b4, hE5⟩ := chk_some hE5
        refine tm_iald rfl dX11_crossing_41 (inb_vp b4) ?_
        refine tm_aload_n dX11_crossing_42 rfl rfl ?_
        refine tm_get kX11 rfl (j := 13) (by decide) wfX11_41 dX11_crossing_43 (v := tr 1213 0) rfl ?_
        refine tm_iload dX11_crossing_46 rfl ?_
        obtain ⟨b5, hE5⟩ := chk_some hE5
        refine tm_iald rfl dX11_crossing_48 (inb_vp b5) ?_
        refine tm_icmp_ne (tgt := 56) dX11_crossing_49 (by decide) (fun c6 => ?_) (fun c6 => ?_)
        · rw [if_neg c6] at hE5
          refine tm_iconst (v := 0) dX11_crossing_56 (by decide) ?_
          obtain rfl := Option.some.inj hE5
          refine tm_lcp [0, 1, 2, 3, 4, 5, 7, 8] rfl ?_
          exact J6
        · rw [if_pos c6] at hE5
          refine tm_iconst (v := 1) dX11_crossing_52 (by decide) ?_
          refine tm_goto (tgt := 57) dX11_crossing_53 (by decide) ?_
          obtain rfl := Option.some.inj hE5
          refine tm_lcp [0, 1, 2, 3, 4, 5, 7, 8] rfl ?_
          exact J6
set_option maxHeartbeats 4000000 in
set_option maxRecDepth 100000 in
theorem okX11_crossing_l70 {g : tG} (z1 : Int32) (z2 : Int32) (z3 : Int32) (z4 : Int32) (z5 : Int32) (z6 : Int32) (M : tM) {r : Option tV} {Mz : tM} : ∀ (n : Nat) (y7 : Int32) (y8 : Int32) (w : Int32), fX11_crossing_l70 z1 z2 z3 z4 z5 z6 M n y7 y8 = some w → (∀ (w7 : Int32), w7 = w → TW g iX11_crossing rmX11_crossing 0 0 r Mz 0 0 111 [(0, tr 11 0), (1, ti z1), (2, ti z2), (3, ti z3), (4, ti z4), (5, ti z5), (6, ti z6), (7, ti w7)] [] M) → TW g iX11_crossing rmX11_crossing 0 0 r Mz 0 0 70 [(0, tr 11 0), (1, ti z1), (2, ti z2), (3, ti z3), (4, ti z4), (5, ti z5), (6, ti z6), (7, ti y7), (8, ti y8)] [] M := by
  intro n
  induction n with
  | zero => intro y7 y8 w h; cases h
  | succ n ih =>
    intro y7 y8 w h J
    rw [fX11_crossing_l70] at h
    refine tm_iload dX11_crossing_70 rfl ?_
    refine tm_iload_n dX11_crossing_72 rfl rfl ?_
    refine tm_icmp_gt (tgt := 111) dX11_crossing_73 (by decide) (fun c12 => ?_) (fun c12 => ?_)
    · rw [if_pos c12] at h
      obtain rfl := Option.some.inj h
      refine tm_lcp [0, 1, 2, 3, 4, 5, 6, 7] rfl ?_
      exact J _ rfl
    · rw [if_neg c12] at h
      refine tm_iload dX11_crossing_76 rfl ?_
      obtain ⟨x14, hE15, h⟩ := obind_some h
      have J16 : TW g iX11_crossing rmX11_crossing 0 0 r Mz 0 0 103 [(0, tr 11 0), (1, ti z1), (2, ti z2), (3, ti z3), (4, ti z4), (5, ti z5), (6, ti z6), (8, ti y8)] [ti x14] M := by
        refine tm_istore (lc' := [(7, ti x14), (0, tr 11 0), (1, ti z1), (2, ti z2), (3, ti z3), (4, ti z4), (5, ti z5), (6, ti z6), (8, ti y8)]) dX11_crossing_103 (by decide) rfl ?_
        obtain ⟨x17, ex17, h⟩ := bnd_some h
        refine tm_iinc (v := x17) (lc' := [(8, ti x17), (7, ti x14), (0, tr 11 0), (1, ti z1), (2, ti z2), (3, ti z3), (4, ti z4), (5, ti z5), (6, ti z6)]) dX11_crossing_105 rfl (by rw [ex17]; rfl) (by decide) rfl ?_
        refine tm_goto (tgt := 70) dX11_crossing_108 (by decide) ?_
        refine tm_lcp [0, 1, 2, 3, 4, 5, 6, 7, 8] rfl ?_
        exact ih x14 x17 _ h J
      refine tm_if_ne (tgt := 98) dX11_crossing_78 (by decide) (fun c13 => ?_) (fun c13 => ?_)
      · rw [if_neg c13] at hE15
        refine tm_iconst (v := 1) dX11_crossing_98 (by decide) ?_
        refine tm_goto (tgt := 103) dX11_crossing_99 (by decide) ?_
        obtain rfl := Option.some.inj hE15
        refine tm_lcp [0, 1, 2, 3, 4, 5, 6, 8] rfl ?_
        exact J16
      · rw [if_pos c13] at hE15
        refine tm_aload_n dX11_crossing_81 rfl rfl ?_
        refine tm_get kX11 rfl (j := 54) (by decide) wfX11_144 dX11_crossing_82 (v := tr 1254 0) rfl ?_
        refine tm_iload dX11_crossing_85 rfl ?_
        obtain ⟨b14, hE15⟩ := chk_some hE15
        refine tm_iald rfl dX11_crossing_87 (inb_vp b14) ?_
        refine tm_aload_n dX11_crossing_88 rfl rfl ?_
        refine tm_get kX11 rfl (j := 14) (by decide) wfX11_44 dX11_crossing_89 (v := tr 1214 0) rfl ?_
        refine tm_iload dX11_crossing_92 rfl ?_
        obtain ⟨b15, hE15⟩ := chk_some hE15
        refine tm_iald rfl dX11_crossing_94 (inb_vp b15) ?_
        refine tm_icmp_ne (tgt := 102) dX11_crossing_95 (by decide) (fun c16 => ?_) (fun c16 => ?_)
        · rw [if_neg c16] at hE15
          refine tm_iconst (v := 0) dX11_crossing_102 (by decide) ?_
          obtain rfl := Option.some.inj hE15
          refine tm_lcp [0, 1, 2, 3, 4, 5, 6, 8] rfl ?_
          exact J16
        · rw [if_pos c16] at hE15
          refine tm_iconst (v := 1) dX11_crossing_98 (by decide) ?_
          refine tm_goto (tgt := 103) dX11_crossing_99 (by decide) ?_
          obtain rfl := Option.some.inj hE15
          refine tm_lcp [0, 1, 2, 3, 4, 5, 6, 8] rfl ?_
          exact J16
set_option maxHeartbeats 4000000 in
set_option maxRecDepth 100000 in
theorem okX11_crossing_l6 {g : tG} (z1 : Int32) (z2 : Int32) (z3 : Int32) (M : tM) {r : Option tV} {Mz : tM} : ∀ (n : Nat) (y4 : Int32) (y5 : Int32) (w : Int32), fX11_crossing_l6 z1 z2 z3 M n y4 y5 = some w → (∀ (w4 : Int32), w4 = w → TW g iX11_crossing rmX11_crossing 0 0 r Mz 0 0 178 [(4, ti w4)] [] M) → TW g iX11_crossing rmX11_crossing 0 0 r Mz 0 0 6 [(0, tr 11 0), (1, ti z1), (2, ti z2), (3, ti z3), (4, ti y4), (5, ti y5)] [] M := by
  intro n
  induction n with
  | zero => intro y4 y5 w h; cases h
  | succ n ih =>
    intro y4 y5 w h J
    rw [fX11_crossing_l6] at h
    refine tm_iload dX11_crossing_6 rfl ?_
    refine tm_aload_n dX11_crossing_8 rfl rfl ?_
    refine tm_get kX11 rfl (j := 12) (by decide) wfX11_209 dX11_crossing_9 (v := ti (mI M 11 0 12)) rfl ?_
    refine tm_icmp_ge (tgt := 178) dX11_crossing_12 (by decide) (fun c1 => ?_) (fun c1 => ?_)
    · rw [if_pos c1] at h
      obtain rfl := Option.some.inj h
      refine tm_lcp [4] rfl ?_
      exact J _ rfl
    · rw [if_neg c1] at h
      refine tm_iconst (v := 0) dX11_crossing_15 (by decide) ?_
      refine tm_istore (lc' := [(6, ti 0), (0, tr 11 0), (1, ti z1), (2, ti z2), (3, ti z3), (4, ti y4), (5, ti y5)]) dX11_crossing_16 (by decide) rfl ?_
      refine tm_iconst (v := 0) dX11_crossing_18 (by decide) ?_
      refine tm_istore (lc' := [(7, ti 0), (6, ti 0), (0, tr 11 0), (1, ti z1), (2, ti z2), (3, ti z3), (4, ti y4), (5, ti y5)]) dX11_crossing_19 (by decide) rfl ?_
      refine tm_iload_n dX11_crossing_21 rfl rfl ?_
      refine tm_istore (lc' := [(8, ti z1), (7, ti 0), (6, ti 0), (0, tr 11 0), (1, ti z1), (2, ti z2), (3, ti z3), (4, ti y4), (5, ti y5)]) dX11_crossing_22 (by decide) rfl ?_
      obtain ⟨w8, hE9, h⟩ := obind_some h
      refine tm_lcp [0, 1, 2, 3, 4, 5, 6, 7, 8] rfl ?_
      refine okX11_crossing_l24 z1 z2 z3 y4 y5 M FU 0 z1 _ hE9 (fun x10 e => ?_)
      subst e
      refine tm_iload_n dX11_crossing_65 rfl rfl ?_
      refine tm_iconst (v := 1) dX11_crossing_66 (by decide) ?_
      refine tm_iadd dX11_crossing_67 ?_
      obtain ⟨x11, ex11, h⟩ := bnd_some h
      refine tm_nmI ex11 ?_
      refine tm_istore (lc' := [(8, ti x11), (0, tr 11 0), (1, ti z1), (2, ti z2), (3, ti z3), (4, ti y4), (5, ti y5), (6, ti x10), (7, ti 0)]) dX11_crossing_68 (by decide) rfl ?_
      obtain ⟨w18, hE19, h⟩ := obind_some h
      refine tm_lcp [0, 1, 2, 3, 4, 5, 6, 7, 8] rfl ?_
      refine okX11_crossing_l70 z1 z2 z3 y4 y5 x10 M FU 0 x11 _ hE19 (fun x20 e => ?_)
      subst e
      refine tm_iload dX11_crossing_111 rfl ?_
      refine tm_iload dX11_crossing_113 rfl ?_
      obtain ⟨x22, hE23, h⟩ := obind_some h
      have J24 : TW g iX11_crossing rmX11_crossing 0 0 r Mz 0 0 169 [(0, tr 11 0), (1, ti z1), (2, ti z2), (3, ti z3), (5, ti y5)] [ti x22, ti y4] M := by
        refine tm_iadd dX11_crossing_169 ?_
        obtain ⟨x29, ex29, h⟩ := bnd_some h
        refine tm_nmI ex29 ?_
        refine tm_istore (lc' := [(4, ti x29), (0, tr 11 0), (1, ti z1), (2, ti z2), (3, ti z3), (5, ti y5)]) dX11_crossing_170 (by decide) rfl ?_
        obtain ⟨x30, ex30, h⟩ := bnd_some h
        refine tm_iinc (v := x30) (lc' := [(5, ti x30), (4, ti x29), (0, tr 11 0), (1, ti z1), (2, ti z2), (3, ti z3)]) dX11_crossing_172 rfl (by rw [ex30]; rfl) (by decide) rfl ?_
        refine tm_goto (tgt := 6) dX11_crossing_175 (by decide) ?_
        refine tm_lcp [0, 1, 2, 3, 4, 5] rfl ?_
        exact ih x29 x30 _ h J
      refine tm_if_eq (tgt := 168) dX11_crossing_115 (by decide) (fun c21 => ?_) (fun c21 => ?_)
      · rw [if_pos c21] at hE23
        refine tm_iconst (v := 0) dX11_crossing_168 (by decide) ?_
        obtain rfl := Option.some.inj hE23
        refine tm_lcp [0, 1, 2, 3, 5] rfl ?_
        exact J24
      · rw [if_neg c21] at hE23
        refine tm_iload dX11_crossing_118 rfl ?_
        refine tm_if_eq (tgt := 168) dX11_crossing_120 (by decide) (fun c22 => ?_) (fun c22 => ?_)
        · rw [if_pos c22] at hE23
          refine tm_iconst (v := 0) dX11_crossing_168 (by decide) ?_
          obtain rfl := Option.some.inj hE23
          refine tm_lcp [0, 1, 2, 3, 5] rfl ?_
          exact J24
        · rw [if_neg c22] at hE23
          refine tm_aload_n dX11_crossing_123 rfl rfl ?_
          refine tm_get kX11 rfl (j := 35) (by decide) wfX11_95 dX11_crossing_124 (v := tr 1235 0) rfl ?_
          refine tm_aload_n dX11_crossing_127 rfl rfl ?_
          refine tm_get kX11 rfl (j := 13) (by decide) wfX11_41 dX11_crossing_128 (v := tr 1213 0) rfl ?_
          refine tm_iload dX11_crossing_131 rfl ?_
          obtain ⟨b23, hE23⟩ := chk_some hE23
          refine tm_iald rfl dX11_crossing_133 (inb_vp b23) ?_
          obtain ⟨b24, hE23⟩ := chk_some hE23
          refine tm_iald rfl dX11_crossing_134 (inb_vp b24) ?_
          refine tm_aload_n dX11_crossing_135 rfl rfl ?_
          refine tm_get kX11 rfl (j := 15) (by decide) wfX11_47 dX11_crossing_136 (v := tr 1215 0) rfl ?_
          refine tm_iconst (v := 4) dX11_crossing_139 (by decide) ?_
          refine tm_iload dX11_crossing_140 rfl ?_
          refine tm_imul dX11_crossing_142 ?_
          obtain ⟨b25, hE23⟩ := chk_some hE23
          refine tm_iald rfl dX11_crossing_143 (inb_vp b25) ?_
          refine tm_imul dX11_crossing_144 ?_
          refine tm_aload_n dX11_crossing_145 rfl rfl ?_
          refine tm_get kX11 rfl (j := 56) (by decide) wfX11_151 dX11_crossing_146 (v := tr 1256 0) rfl ?_
          refine tm_bipush (v := 12) dX11_crossing_149 (by decide) ?_
          refine tm_iload_n dX11_crossing_151 rfl rfl ?_
          refine tm_imul dX11_crossing_152 ?_
          refine tm_iload_n dX11_crossing_153 rfl rfl ?_
          refine tm_iadd dX11_crossing_154 ?_
          obtain ⟨b26, hE23⟩ := chk_some hE23
          refine tm_iald rfl dX11_crossing_155 (inb_vp b26) ?_
          obtain ⟨b27, hE23⟩ := chk_some hE23
          refine tm_idiv dX11_crossing_156 (nz4_ne b27) ?_
          refine tm_aload_n dX11_crossing_157 rfl rfl ?_
          refine tm_get kX11 rfl (j := 17) (by decide) wfX11_53 dX11_crossing_158 (v := tr 1217 0) rfl ?_
          refine tm_iload dX11_crossing_161 rfl ?_
          obtain ⟨b28, hE23⟩ := chk_some hE23
          refine tm_iald rfl dX11_crossing_163 (inb_vp b28) ?_
          refine tm_iadd dX11_crossing_164 ?_
          refine tm_goto (tgt := 169) dX11_crossing_165 (by decide) ?_
          obtain rfl := Option.some.inj hE23
          refine tm_lcp [0, 1, 2, 3, 5] rfl ?_
          exact J24
set_option maxHeartbeats 4000000 in
set_option maxRecDepth 100000 in
theorem okX11_crossing {g : tG} {a1 : Int32} {a2 : Int32} {a3 : Int32} {M : tM} {v : Int32} (h : fX11_crossing a1 a2 a3 M = some v) : TMet g yX11_crossing (Cond.code yX11_crossing cX11_crossing 9 (some .int) :: tgd) rmX11_crossing [tr 11 0, ti a1, ti a2, ti a3] M (some (ti v)) M 0 0 := by
  have key : TW g iX11_crossing rmX11_crossing 0 0 (some (ti v)) M 0 0 0 [(0, tr 11 0), (1, ti a1), (2, ti a2), (3, ti a3)] [] M := by
    rw [fX11_crossing] at h
    refine tm_iconst (v := 0) dX11_crossing_0 (by decide) ?_
    refine tm_istore (lc' := [(4, ti 0), (0, tr 11 0), (1, ti a1), (2, ti a2), (3, ti a3)]) dX11_crossing_1 (by decide) rfl ?_
    refine tm_iconst (v := 0) dX11_crossing_3 (by decide) ?_
    refine tm_istore (lc' := [(5, ti 0), (4, ti 0), (0, tr 11 0), (1, ti a1), (2, ti a2), (3, ti a3)]) dX11_crossing_4 (by decide) rfl ?_
    obtain ⟨w31, hE32, h⟩ := obind_some h
    refine tm_lcp [0, 1, 2, 3, 4, 5] rfl ?_
    refine okX11_crossing_l6 a1 a2 a3 M FU 0 0 _ hE32 (fun x33 e => ?_)
    subst e
    refine tm_iload dX11_crossing_178 rfl ?_
    obtain rfl := Option.some.inj h
    exact tm_iret rfl dX11_crossing_180
  exact TMet.of (by decide) (Nat.le_of_ble_eq_true rfl) key
theorem wcX11_345 : tCB RX11 345 yX11_crossing cX11_crossing 9 (some .int) 3 ∧ Cond.methodLink RX11 345 yX11_crossing ∈ tgd ∧ Cond.instanceMethod yX11_crossing ∈ tgd ∧ Cond.selects RX11 yX11_crossing yX11_crossing ∈ tgd := ⟨⟨(tgd_t 1689 (by decide +kernel) (by decide +kernel)), (tgd_t 10 (by decide +kernel) (by decide +kernel)), by decide, by decide +kernel⟩, (tgd_t 1686 (by decide +kernel) (by decide +kernel)), (tgd_t 1688 (by decide +kernel) (by decide +kernel)), (tgd_p 87 (by decide +kernel) (by decide +kernel))⟩
theorem wfX11_154 : Cond.fieldLink RX11 154 "EvenFlowModel" "cost" "[I" ∈ tgd := (tgd_t 1282 (by decide +kernel) (by decide +kernel))
theorem wfX11_157 : Cond.fieldLink RX11 157 "EvenFlowModel" "half" "[I" ∈ tgd := (tgd_t 1283 (by decide +kernel) (by decide +kernel))
abbrev iX11_divide : tY := (RX11, cX11_divide, 6, none, "divide")
abbrev rmX11_divide : Room := { frames := 1, cells := 0, slots := 0, locals := 29 }
def fX11_divide_l44 (z1 : Int32) : Nat → Int32 → tM → Option (tM)
  | 0, _, _ => none
  | n + 1, y2, M =>
    if (mI M 11 0 2) ≤ y2 then (
    some M
    ) else (
    chk (inb (((12 * z1) + y2) - 1) (mN M 1256 0)) <|
    chk (inb y2 (mN M 1254 0)) <|
    chk (inb (mI M 1254 0 (y2.toNatClampNeg)) (mN M 1235 0)) <|
    (fX11_divisor ((mI M 1256 0 ((((12 * z1) + y2) - 1).toNatClampNeg)).toInt64) ((mI M 1235 0 ((mI M 1254 0 (y2.toNatClampNeg)).toNatClampNeg)).toInt64) M).bind fun x13 =>
    chk (inb ((12 * z1) + y2) (mN M 1256 0)) <|
    bnd (sI M 1256 0 (((12 * z1) + y2).toNatClampNeg) (x13.toInt32)) fun M16 =>
    bnd (y2 + 1) fun x17 =>
    fX11_divide_l44 z1 n x17 M16
    )
def fX11_divide_l2  : Nat → Int32 → tM → Option (tM)
  | 0, _, _ => none
  | n + 1, y1, M =>
    if (mI M 11 0 2) ≤ y1 then (
    some M
    ) else (
    chk (inb y1 (mN M 1254 0)) <|
    chk (inb (mI M 1254 0 (y1.toNatClampNeg)) (mN M 1235 0)) <|
    chk (inb (13 * y1) (mN M 1256 0)) <|
    bnd (sI M 1256 0 ((13 * y1).toNatClampNeg) (mI M 1235 0 ((mI M 1254 0 (y1.toNatClampNeg)).toNatClampNeg))) fun M5 =>
    chk (inb (13 * y1) (mN M5 1257 0)) <|
    bnd (sI M5 1257 0 ((13 * y1).toNatClampNeg) 0) fun M7 =>
    bnd (y1 + 1) fun x8 =>
    Option.bind (fX11_divide_l44 y1 FU x8 M7) fun M20 =>
    bnd (y1 + 1) fun x21 =>
    fX11_divide_l2 n x21 M20
    )
def fX11_divide_l147 (z1 : Int32) (z2 : Int32) (z3 : Int32) : Nat → Int32 → tM → Option (tM)
  | 0, _, _ => none
  | n + 1, y4, M =>
    if z3 ≤ y4 then (
    some M
    ) else (
    chk (inb ((12 * z2) + y4) (mN M 1257 0)) <|
    chk (inb ((12 * (y4 + 1)) + z3) (mN M 1257 0)) <|
    (fX11_crossing z2 y4 z3 M).bind fun x33 =>
    bnd (((mI M 1257 0 (((12 * z2) + y4).toNatClampNeg)) + (mI M 1257 0 (((12 * (y4 + 1)) + z3).toNatClampNeg))) + x33) fun x35 =>
    chk (inb ((12 * z2) + z3) (mN M 1258 0)) <|
    Option.bind (α := tM) (
    if (mI M 1258 0 (((12 * z2) + z3).toNatClampNeg)) < 0 then (
    chk (inb ((12 * z2) + z3) (mN M 1258 0)) <|
    bnd (sI M 1258 0 (((12 * z2) + z3).toNatClampNeg) y4) fun M39 =>
    chk (inb ((12 * z2) + z3) (mN M39 1257 0)) <|
    bnd (sI M39 1257 0 (((12 * z2) + z3).toNatClampNeg) x35) fun M41 =>
    some M41
    ) else (
    chk (inb ((12 * z2) + z3) (mN M 1257 0)) <|
    if (mI M 1257 0 (((12 * z2) + z3).toNatClampNeg)) ≤ x35 then (
    some M
    ) else (
    chk (inb ((12 * z2) + z3) (mN M 1258 0)) <|
    bnd (sI M 1258 0 (((12 * z2) + z3).toNatClampNeg) y4) fun M45 =>
    chk (inb ((12 * z2) + z3) (mN M45 1257 0)) <|
    bnd (sI M45 1257 0 (((12 * z2) + z3).toNatClampNeg) x35) fun M47 =>
    some M47
    )
    )
    ) fun M38 =>
    bnd (y4 + 1) fun x48 =>
    fX11_divide_l147 z1 z2 z3 n x48 M38
    )
def fX11_divide_l117 (z1 : Int32) : Nat → Int32 → tM → Option (tM)
  | 0, _, _ => none
  | n + 1, y2, M =>
    if (mI M 11 0 2) ≤ (y2 + z1) then (
    some M
    ) else (
    bnd (y2 + z1) fun x27 =>
    chk (inb ((12 * y2) + x27) (mN M 1258 0)) <|
    bnd (sI M 1258 0 (((12 * y2) + x27).toNatClampNeg) (-9)) fun M29 =>
    Option.bind (fX11_divide_l147 z1 y2 x27 FU y2 M29) fun M51 =>
    bnd (y2 + 1) fun x52 =>
    fX11_divide_l117 z1 n x52 M51
    )
def fX11_divide_l107  : Nat → Int32 → tM → Option (tM)
  | 0, _, _ => none
  | n + 1, y1, M =>
    if (mI M 11 0 2) ≤ y1 then (
    some M
    ) else (
    Option.bind (fX11_divide_l117 y1 FU 0 M) fun M55 =>
    bnd (y1 + 1) fun x56 =>
    fX11_divide_l107 n x56 M55
    )
def fX11_divide  (M : tM) : Option (tM) :=
  Option.bind (fX11_divide_l2 FU 0 M) fun M24 =>
  Option.bind (fX11_divide_l107 FU 1 M24) fun M59 =>
  some M59
set_option maxHeartbeats 4000000 in
set_option maxRecDepth 100000 in
theorem okX11_divide_l44 {g : tG} (z1 : Int32) {r : Option tV} {Mz : tM} : ∀ (n : Nat) (y2 : Int32) (M : tM) (w : tM), fX11_divide_l44 z1 n y2 M = some w → (∀ (Mw : tM), Mw = w → TW g iX11_divide rmX11_divide 0 0 r Mz 0 0 99 [(0, tr 11 0), (1, ti z1)] [] Mw) → TW g iX11_divide rmX11_divide 0 0 r Mz 0 0 44 [(0, tr 11 0), (1, ti z1), (2, ti y2)] [] M := by
  intro n
  induction n with
  | zero => intro y2 M w h; cases h
  | succ n ih =>
    intro y2 M w h J
    rw [fX11_divide_l44] at h
    refine tm_iload_n dX11_divide_44 rfl rfl ?_
    refine tm_aload_n dX11_divide_45 rfl rfl ?_
    refine tm_get kX11 rfl (j := 2) (by decide) wfX11_202 dX11_divide_46 (v := ti (mI M 11 0 2)) rfl ?_
    refine tm_icmp_ge (tgt := 99) dX11_divide_49 (by decide) (fun c9 => ?_) (fun c9 => ?_)
    · rw [if_pos c9] at h
      obtain rfl := Option.some.inj h
      refine tm_lcp [0, 1] rfl ?_
      exact J _ rfl
    · rw [if_neg c9] at h
      refine tm_aload_n dX11_divide_52 rfl rfl ?_
      refine tm_get kX11 rfl (j := 56) (by decide) wfX11_151 dX11_divide_53 (v := tr 1256 0) rfl ?_
      refine tm_bipush (v := 12) dX11_divide_56 (by decide) ?_
      refine tm_iload_n dX11_divide_58 rfl rfl ?_
      refine tm_imul dX11_divide_59 ?_
      refine tm_iload_n dX11_divide_60 rfl rfl ?_
      refine tm_iadd dX11_divide_61 ?_
      refine tm_aload_n dX11_divide_62 rfl rfl ?_
      refine tm_get kX11 rfl (j := 56) (by decide) wfX11_151 dX11_divide_63 (v := tr 1256 0) rfl ?_
      refine tm_bipush (v := 12) dX11_divide_66 (by decide) ?_
      refine tm_iload_n dX11_divide_68 rfl rfl ?_
      refine tm_imul dX11_divide_69 ?_
      refine tm_iload_n dX11_divide_70 rfl rfl ?_
      refine tm_iadd dX11_divide_71 ?_
      refine tm_iconst (v := 1) dX11_divide_72 (by decide) ?_
      refine tm_isub dX11_divide_73 ?_
      obtain ⟨b10, h⟩ := chk_some h
      refine tm_iald rfl dX11_divide_74 (inb_vp b10) ?_
      refine tm_i2l dX11_divide_75 ?_
      refine tm_aload_n dX11_divide_76 rfl rfl ?_
      refine tm_get kX11 rfl (j := 35) (by decide) wfX11_95 dX11_divide_77 (v := tr 1235 0) rfl ?_
      refine tm_aload_n dX11_divide_80 rfl rfl ?_
      refine tm_get kX11 rfl (j := 54) (by decide) wfX11_144 dX11_divide_81 (v := tr 1254 0) rfl ?_
      refine tm_iload_n dX11_divide_84 rfl rfl ?_
      obtain ⟨b11, h⟩ := chk_some h
      refine tm_iald rfl dX11_divide_85 (inb_vp b11) ?_
      obtain ⟨b12, h⟩ := chk_some h
      refine tm_iald rfl dX11_divide_86 (inb_vp b12) ?_
      refine tm_i2l dX11_divide_87 ?_
      obtain ⟨x13, hc14, h⟩ := obind_some h
      refine tm_callS (avs := [tl ((mI M 1256 0 ((((12 * z1) + y2) - 1).toNatClampNeg)).toInt64), tl ((mI M 1235 0 ((mI M 1254 0 (y2.toNatClampNeg)).toNatClampNeg)).toInt64)]) (st := [ti ((12 * z1) + y2), tr 1256 0]) (okX11_divisor hc14) wcX11_248.1 wcX11_248.2.1 wcX11_248.2.2 ⟨rfl, rfl, Nat.le_of_ble_eq_true rfl, Nat.le_of_ble_eq_true rfl⟩ rfl (Nat.le_of_ble_eq_true rfl) ⟨Nat.zero_le _, Nat.zero_le _⟩ dX11_divide_88 ?_
      refine tm_l2i dX11_divide_91 ?_
      obtain ⟨b15, h⟩ := chk_some h
      obtain ⟨M16, eM16, h⟩ := bnd_some h
      refine tm_iast rfl dX11_divide_92 (inb_vp b15) ?_
      refine tm_nmM eM16 ?_
      obtain ⟨x17, ex17, h⟩ := bnd_some h
      refine tm_iinc (v := x17) (lc' := [(2, ti x17), (0, tr 11 0), (1, ti z1)]) dX11_divide_93 rfl (by rw [ex17]; rfl) (by decide) rfl ?_
      refine tm_goto (tgt := 44) dX11_divide_96 (by decide) ?_
      refine tm_lcp [0, 1, 2] rfl ?_
      exact ih x17 M16 _ h J
set_option maxHeartbeats 4000000 in
set_option maxRecDepth 100000 in
theorem okX11_divide_l2 {g : tG}  {r : Option tV} {Mz : tM} : ∀ (n : Nat) (y1 : Int32) (M : tM) (w : tM), fX11_divide_l2 n y1 M = some w → (∀ (Mw : tM), Mw = w → TW g iX11_divide rmX11_divide 0 0 r Mz 0 0 105 [(0, tr 11 0)] [] Mw) → TW g iX11_divide rmX11_divide 0 0 r Mz 0 0 2 [(0, tr 11 0), (1, ti y1)] [] M := by
  intro n
  induction n with
  | zero => intro y1 M w h; cases h
  | succ n ih =>
    intro y1 M w h J
    rw [fX11_divide_l2] at h
    refine tm_iload_n dX11_divide_2 rfl rfl ?_
    refine tm_aload_n dX11_divide_3 rfl rfl ?_
    refine tm_get kX11 rfl (j := 2) (by decide) wfX11_202 dX11_divide_4 (v := ti (mI M 11 0 2)) rfl ?_
    refine tm_icmp_ge (tgt := 105) dX11_divide_7 (by decide) (fun c1 => ?_) (fun c1 => ?_)
    · rw [if_pos c1] at h
      obtain rfl := Option.some.inj h
      refine tm_lcp [0] rfl ?_
      exact J _ rfl
    · rw [if_neg c1] at h
      refine tm_aload_n dX11_divide_10 rfl rfl ?_
      refine tm_get kX11 rfl (j := 56) (by decide) wfX11_151 dX11_divide_11 (v := tr 1256 0) rfl ?_
      refine tm_bipush (v := 13) dX11_divide_14 (by decide) ?_
      refine tm_iload_n dX11_divide_16 rfl rfl ?_
      refine tm_imul dX11_divide_17 ?_
      refine tm_aload_n dX11_divide_18 rfl rfl ?_
      refine tm_get kX11 rfl (j := 35) (by decide) wfX11_95 dX11_divide_19 (v := tr 1235 0) rfl ?_
      refine tm_aload_n dX11_divide_22 rfl rfl ?_
      refine tm_get kX11 rfl (j := 54) (by decide) wfX11_144 dX11_divide_23 (v := tr 1254 0) rfl ?_
      refine tm_iload_n dX11_divide_26 rfl rfl ?_
      obtain ⟨b2, h⟩ := chk_some h
      refine tm_iald rfl dX11_divide_27 (inb_vp b2) ?_
      obtain ⟨b3, h⟩ := chk_some h
      refine tm_iald rfl dX11_divide_28 (inb_vp b3) ?_
      obtain ⟨b4, h⟩ := chk_some h
      obtain ⟨M5, eM5, h⟩ := bnd_some h
      refine tm_iast rfl dX11_divide_29 (inb_vp b4) ?_
      refine tm_nmM eM5 ?_
      refine tm_aload_n dX11_divide_30 rfl rfl ?_
      refine tm_get kX11 rfl (j := 57) (by decide) wfX11_154 dX11_divide_31 (v := tr 1257 0) rfl ?_
      refine tm_bipush (v := 13) dX11_divide_34 (by decide) ?_
      refine tm_iload_n dX11_divide_36 rfl rfl ?_
      refine tm_imul dX11_divide_37 ?_
      refine tm_iconst (v := 0) dX11_divide_38 (by decide) ?_
      obtain ⟨b6, h⟩ := chk_some h
      obtain ⟨M7, eM7, h⟩ := bnd_some h
      refine tm_iast rfl dX11_divide_39 (inb_vp b6) ?_
      refine tm_nmM eM7 ?_
      refine tm_iload_n dX11_divide_40 rfl rfl ?_
      refine tm_iconst (v := 1) dX11_divide_41 (by decide) ?_
      refine tm_iadd dX11_divide_42 ?_
      obtain ⟨x8, ex8, h⟩ := bnd_some h
      refine tm_nmI ex8 ?_
      refine tm_istore_n (lc' := [(2, ti x8), (0, tr 11 0), (1, ti y1)]) dX11_divide_43 rfl (by decide) rfl ?_
      obtain ⟨w18, hE19, h⟩ := obind_some h
      refine tm_lcp [0, 1, 2] rfl ?_
      refine okX11_divide_l44 y1 FU x8 M7 _ hE19 (fun M20 e => ?_)
      subst e
      obtain ⟨x21, ex21, h⟩ := bnd_some h
      refine tm_iinc (v := x21) (lc' := [(1, ti x21), (0, tr 11 0)]) dX11_divide_99 rfl (by rw [ex21]; rfl) (by decide) rfl ?_
      refine tm_goto (tgt := 2) dX11_divide_102 (by decide) ?_
      refine tm_lcp [0, 1] rfl ?_
      exact ih x21 M20 _ h J
set_option maxHeartbeats 4000000 in
set_option maxRecDepth 100000 in
theorem okX11_divide_l147 {g : tG} (z1 : Int32) (z2 : Int32) (z3 : Int32) {r : Option tV} {Mz : tM} : ∀ (n : Nat) (y4 : Int32) (M : tM) (w : tM), fX11_divide_l147 z1 z2 z3 n y4 M = some w → (∀ (Mw : tM), Mw = w → TW g iX11_divide rmX11_divide 0 0 r Mz 0 0 253 [(0, tr 11 0), (1, ti z1), (2, ti z2)] [] Mw) → TW g iX11_divide rmX11_divide 0 0 r Mz 0 0 147 [(0, tr 11 0), (1, ti z1), (2, ti z2), (3, ti z3), (4, ti y4)] [] M := by
  intro n
  induction n with
  | zero => intro y4 M w h; cases h
  | succ n ih =>
    intro y4 M w h J
    rw [fX11_divide_l147] at h
    refine tm_iload dX11_divide_147 rfl ?_
    refine tm_iload_n dX11_divide_149 rfl rfl ?_
    refine tm_icmp_ge (tgt := 253) dX11_divide_150 (by decide) (fun c30 => ?_) (fun c30 => ?_)
    · rw [if_pos c30] at h
      obtain rfl := Option.some.inj h
      refine tm_lcp [0, 1, 2] rfl ?_
      exact J _ rfl
    · rw [if_neg c30] at h
      refine tm_aload_n dX11_divide_153 rfl rfl ?_
      refine tm_get kX11 rfl (j := 57) (by decide) wfX11_154 dX11_divide_154 (v := tr 1257 0) rfl ?_
      refine tm_bipush (v := 12) dX11_divide_157 (by decide) ?_
      refine tm_iload_n dX11_divide_159 rfl rfl ?_
      refine tm_imul dX11_divide_160 ?_
      refine tm_iload dX11_divide_161 rfl ?_
      refine tm_iadd dX11_divide_163 ?_
      obtain ⟨b31, h⟩ := chk_some h
      refine tm_iald rfl dX11_divide_164 (inb_vp b31) ?_
      refine tm_aload_n dX11_divide_165 rfl rfl ?_
      refine tm_get kX11 rfl (j := 57) (by decide) wfX11_154 dX11_divide_166 (v := tr 1257 0) rfl ?_
      refine tm_bipush (v := 12) dX11_divide_169 (by decide) ?_
      refine tm_iload dX11_divide_171 rfl ?_
      refine tm_iconst (v := 1) dX11_divide_173 (by decide) ?_
      refine tm_iadd dX11_divide_174 ?_
      refine tm_imul dX11_divide_175 ?_
      refine tm_iload_n dX11_divide_176 rfl rfl ?_
      refine tm_iadd dX11_divide_177 ?_
      obtain ⟨b32, h⟩ := chk_some h
      refine tm_iald rfl dX11_divide_178 (inb_vp b32) ?_
      refine tm_iadd dX11_divide_179 ?_
      refine tm_aload_n dX11_divide_180 rfl rfl ?_
      refine tm_iload_n dX11_divide_181 rfl rfl ?_
      refine tm_iload dX11_divide_182 rfl ?_
      refine tm_iload_n dX11_divide_184 rfl rfl ?_
      obtain ⟨x33, hc34, h⟩ := obind_some h
      refine tm_callV kX11 rfl (avs := [ti z2, ti y4, ti z3]) (st := [ti ((mI M 1257 0 (((12 * z2) + y4).toNatClampNeg)) + (mI M 1257 0 (((12 * (y4 + 1)) + z3).toNatClampNeg)))]) (okX11_crossing hc34) wcX11_345.1 wcX11_345.2.1 wcX11_345.2.2.1 wcX11_345.2.2.2 ⟨rfl, rfl, Nat.le_of_ble_eq_true rfl, Nat.le_of_ble_eq_true rfl⟩ rfl (Nat.le_of_ble_eq_true rfl) ⟨Nat.zero_le _, Nat.zero_le _⟩ dX11_divide_185 ?_
      refine tm_iadd dX11_divide_188 ?_
      obtain ⟨x35, ex35, h⟩ := bnd_some h
      refine tm_nmI ex35 ?_
      refine tm_istore (lc' := [(5, ti x35), (0, tr 11 0), (1, ti z1), (2, ti z2), (3, ti z3), (4, ti y4)]) dX11_divide_189 (by decide) rfl ?_
      refine tm_aload_n dX11_divide_191 rfl rfl ?_
      refine tm_get kX11 rfl (j := 58) (by decide) wfX11_157 dX11_divide_192 (v := tr 1258 0) rfl ?_
      refine tm_bipush (v := 12) dX11_divide_195 (by decide) ?_
      refine tm_iload_n dX11_divide_197 rfl rfl ?_
      refine tm_imul dX11_divide_198 ?_
      refine tm_iload_n dX11_divide_199 rfl rfl ?_
      refine tm_iadd dX11_divide_200 ?_
      obtain ⟨b36, h⟩ := chk_some h
      refine tm_iald rfl dX11_divide_201 (inb_vp b36) ?_
      obtain ⟨M38, hE39, h⟩ := obind_some h
      have J40 : TW g iX11_divide rmX11_divide 0 0 r Mz 0 0 247 [(0, tr 11 0), (1, ti z1), (2, ti z2), (3, ti z3), (4, ti y4)] [] M38 := by
        obtain ⟨x48, ex48, h⟩ := bnd_some h
        refine tm_iinc (v := x48) (lc' := [(4, ti x48), (0, tr 11 0), (1, ti z1), (2, ti z2), (3, ti z3)]) dX11_divide_247 rfl (by rw [ex48]; rfl) (by decide) rfl ?_
        refine tm_goto (tgt := 147) dX11_divide_250 (by decide) ?_
        refine tm_lcp [0, 1, 2, 3, 4] rfl ?_
        exact ih x48 M38 _ h J
      refine tm_if_lt (tgt := 221) dX11_divide_202 (by decide) (fun c37 => ?_) (fun c37 => ?_)
      · rw [if_pos c37] at hE39
        refine tm_aload_n dX11_divide_221 rfl rfl ?_
        refine tm_get kX11 rfl (j := 58) (by decide) wfX11_157 dX11_divide_222 (v := tr 1258 0) rfl ?_
        refine tm_bipush (v := 12) dX11_divide_225 (by decide) ?_
        refine tm_iload_n dX11_divide_227 rfl rfl ?_
        refine tm_imul dX11_divide_228 ?_
        refine tm_iload_n dX11_divide_229 rfl rfl ?_
        refine tm_iadd dX11_divide_230 ?_
        refine tm_iload dX11_divide_231 rfl ?_
        obtain ⟨b38, hE39⟩ := chk_some hE39
        obtain ⟨M39, eM39, hE39⟩ := bnd_some hE39
        refine tm_iast rfl dX11_divide_233 (inb_vp b38) ?_
        refine tm_nmM eM39 ?_
        refine tm_aload_n dX11_divide_234 rfl rfl ?_
        refine tm_get kX11 rfl (j := 57) (by decide) wfX11_154 dX11_divide_235 (v := tr 1257 0) rfl ?_
        refine tm_bipush (v := 12) dX11_divide_238 (by decide) ?_
        refine tm_iload_n dX11_divide_240 rfl rfl ?_
        refine tm_imul dX11_divide_241 ?_
        refine tm_iload_n dX11_divide_242 rfl rfl ?_
        refine tm_iadd dX11_divide_243 ?_
        refine tm_iload dX11_divide_244 rfl ?_
        obtain ⟨b40, hE39⟩ := chk_some hE39
        obtain ⟨M41, eM41, hE39⟩ := bnd_some hE39
        refine tm_iast rfl dX11_divide_246 (inb_vp b40) ?_
        refine tm_nmM eM41 ?_
        obtain rfl := Option.some.inj hE39
        refine tm_lcp [0, 1, 2, 3, 4] rfl ?_
        exact J40
      · rw [if_neg c37] at hE39
        refine tm_iload dX11_divide_205 rfl ?_
        refine tm_aload_n dX11_divide_207 rfl rfl ?_
        refine tm_get kX11 rfl (j := 57) (by decide) wfX11_154 dX11_divide_208 (v := tr 1257 0) rfl ?_
        refine tm_bipush (v := 12) dX11_divide_211 (by decide) ?_
        refine tm_iload_n dX11_divide_213 rfl rfl ?_
        refine tm_imul dX11_divide_214 ?_
        refine tm_iload_n dX11_divide_215 rfl rfl ?_
        refine tm_iadd dX11_divide_216 ?_
        obtain ⟨b42, hE39⟩ := chk_some hE39
        refine tm_iald rfl dX11_divide_217 (inb_vp b42) ?_
        refine tm_icmp_ge (tgt := 247) dX11_divide_218 (by decide) (fun c43 => ?_) (fun c43 => ?_)
        · rw [if_pos c43] at hE39
          obtain rfl := Option.some.inj hE39
          refine tm_lcp [0, 1, 2, 3, 4] rfl ?_
          exact J40
        · rw [if_neg c43] at hE39
          refine tm_aload_n dX11_divide_221 rfl rfl ?_
          refine tm_get kX11 rfl (j := 58) (by decide) wfX11_157 dX11_divide_222 (v := tr 1258 0) rfl ?_
          refine tm_bipush (v := 12) dX11_divide_225 (by decide) ?_
          refine tm_iload_n dX11_divide_227 rfl rfl ?_
          refine tm_imul dX11_divide_228 ?_
          refine tm_iload_n dX11_divide_229 rfl rfl ?_
          refine tm_iadd dX11_divide_230 ?_
          refine tm_iload dX11_divide_231 rfl ?_
          obtain ⟨b44, hE39⟩ := chk_some hE39
          obtain ⟨M45, eM45, hE39⟩ := bnd_some hE39
          refine tm_iast rfl dX11_divide_233 (inb_vp b44) ?_
          refine tm_nmM eM45 ?_
          refine tm_aload_n dX11_divide_234 rfl rfl ?_
          refine tm_get kX11 rfl (j := 57) (by decide) wfX11_154 dX11_divide_235 (v := tr 1257 0) rfl ?_
          refine tm_bipush (v := 12) dX11_divide_238 (by decide) ?_
          refine tm_iload_n dX11_divide_240 rfl rfl ?_
          refine tm_imul dX11_divide_241 ?_
          refine tm_iload_n dX11_divide_242 rfl rfl ?_
          refine tm_iadd dX11_divide_243 ?_
          refine tm_iload dX11_divide_244 rfl ?_
          obtain ⟨b46, hE39⟩ := chk_some hE39
          obtain ⟨M47, eM47, hE39⟩ := bnd_some hE39
          refine tm_iast rfl dX11_divide_246 (inb_vp b46) ?_
          refine tm_nmM eM47 ?_
          obtain rfl := Option.some.inj hE39
          refine tm_lcp [0, 1, 2, 3, 4] rfl ?_
          exact J40
set_option maxHeartbeats 4000000 in
set_option maxRecDepth 100000 in
theorem okX11_divide_l117 {g : tG} (z1 : Int32) {r : Option tV} {Mz : tM} : ∀ (n : Nat) (y2 : Int32) (M : tM) (w : tM), fX11_divide_l117 z1 n y2 M = some w → (∀ (Mw : tM), Mw = w → TW g iX11_divide rmX11_divide 0 0 r Mz 0 0 259 [(0, tr 11 0), (1, ti z1)] [] Mw) → TW g iX11_divide rmX11_divide 0 0 r Mz 0 0 117 [(0, tr 11 0), (1, ti z1), (2, ti y2)] [] M := by
  intro n
  induction n with
  | zero => intro y2 M w h; cases h
  | succ n ih =>
    intro y2 M w h J
    rw [fX11_divide_l117] at h
    refine tm_iload_n dX11_divide_117 rfl rfl ?_
    refine tm_iload_n dX11_divide_118 rfl rfl ?_
    refine tm_iadd dX11_divide_119 ?_
    refine tm_aload_n dX11_divide_120 rfl rfl ?_
    refine tm_get kX11 rfl (j := 2) (by decide) wfX11_202 dX11_divide_121 (v := ti (mI M 11 0 2)) rfl ?_
    refine tm_icmp_ge (tgt := 259) dX11_divide_124 (by decide) (fun c26 => ?_) (fun c26 => ?_)
    · rw [if_pos c26] at h
      obtain rfl := Option.some.inj h
      refine tm_lcp [0, 1] rfl ?_
      exact J _ rfl
    · rw [if_neg c26] at h
      refine tm_iload_n dX11_divide_127 rfl rfl ?_
      refine tm_iload_n dX11_divide_128 rfl rfl ?_
      refine tm_iadd dX11_divide_129 ?_
      obtain ⟨x27, ex27, h⟩ := bnd_some h
      refine tm_nmI ex27 ?_
      refine tm_istore_n (lc' := [(3, ti x27), (0, tr 11 0), (1, ti z1), (2, ti y2)]) dX11_divide_130 rfl (by decide) rfl ?_
      refine tm_aload_n dX11_divide_131 rfl rfl ?_
      refine tm_get kX11 rfl (j := 58) (by decide) wfX11_157 dX11_divide_132 (v := tr 1258 0) rfl ?_
      refine tm_bipush (v := 12) dX11_divide_135 (by decide) ?_
      refine tm_iload_n dX11_divide_137 rfl rfl ?_
      refine tm_imul dX11_divide_138 ?_
      refine tm_iload_n dX11_divide_139 rfl rfl ?_
      refine tm_iadd dX11_divide_140 ?_
      refine tm_bipush (v := (-9)) dX11_divide_141 (by decide) ?_
      obtain ⟨b28, h⟩ := chk_some h
      obtain ⟨M29, eM29, h⟩ := bnd_some h
      refine tm_iast rfl dX11_divide_143 (inb_vp b28) ?_
      refine tm_nmM eM29 ?_
      refine tm_iload_n dX11_divide_144 rfl rfl ?_
      refine tm_istore (lc' := [(4, ti y2), (3, ti x27), (0, tr 11 0), (1, ti z1), (2, ti y2)]) dX11_divide_145 (by decide) rfl ?_
      obtain ⟨w49, hE50, h⟩ := obind_some h
      refine tm_lcp [0, 1, 2, 3, 4] rfl ?_
      refine okX11_divide_l147 z1 y2 x27 FU y2 M29 _ hE50 (fun M51 e => ?_)
      subst e
      obtain ⟨x52, ex52, h⟩ := bnd_some h
      refine tm_iinc (v := x52) (lc' := [(2, ti x52), (0, tr 11 0), (1, ti z1)]) dX11_divide_253 rfl (by rw [ex52]; rfl) (by decide) rfl ?_
      refine tm_goto (tgt := 117) dX11_divide_256 (by decide) ?_
      refine tm_lcp [0, 1, 2] rfl ?_
      exact ih x52 M51 _ h J
set_option maxHeartbeats 4000000 in
set_option maxRecDepth 100000 in
theorem okX11_divide_l107 {g : tG}  {r : Option tV} {Mz : tM} : ∀ (n : Nat) (y1 : Int32) (M : tM) (w : tM), fX11_divide_l107 n y1 M = some w → (∀ (Mw : tM), Mw = w → TW g iX11_divide rmX11_divide 0 0 r Mz 0 0 265 [] [] Mw) → TW g iX11_divide rmX11_divide 0 0 r Mz 0 0 107 [(0, tr 11 0), (1, ti y1)] [] M := by
  intro n
  induction n with
  | zero => intro y1 M w h; cases h
  | succ n ih =>
    intro y1 M w h J
    rw [fX11_divide_l107] at h
    refine tm_iload_n dX11_divide_107 rfl rfl ?_
    refine tm_aload_n dX11_divide_108 rfl rfl ?_
    refine tm_get kX11 rfl (j := 2) (by decide) wfX11_202 dX11_divide_109 (v := ti (mI M 11 0 2)) rfl ?_
    refine tm_icmp_ge (tgt := 265) dX11_divide_112 (by decide) (fun c25 => ?_) (fun c25 => ?_)
    · rw [if_pos c25] at h
      obtain rfl := Option.some.inj h
      refine tm_lcp [] rfl ?_
      exact J _ rfl
    · rw [if_neg c25] at h
      refine tm_iconst (v := 0) dX11_divide_115 (by decide) ?_
      refine tm_istore_n (lc' := [(2, ti 0), (0, tr 11 0), (1, ti y1)]) dX11_divide_116 rfl (by decide) rfl ?_
      obtain ⟨w53, hE54, h⟩ := obind_some h
      refine tm_lcp [0, 1, 2] rfl ?_
      refine okX11_divide_l117 y1 FU 0 M _ hE54 (fun M55 e => ?_)
      subst e
      obtain ⟨x56, ex56, h⟩ := bnd_some h
      refine tm_iinc (v := x56) (lc' := [(1, ti x56), (0, tr 11 0)]) dX11_divide_259 rfl (by rw [ex56]; rfl) (by decide) rfl ?_
      refine tm_goto (tgt := 107) dX11_divide_262 (by decide) ?_
      refine tm_lcp [0, 1] rfl ?_
      exact ih x56 M55 _ h J
set_option maxHeartbeats 4000000 in
set_option maxRecDepth 100000 in
theorem okX11_divide {g : tG}  {M : tM} {Mz : tM} (h : fX11_divide  M = some Mz) : TMet g yX11_divide (Cond.code yX11_divide cX11_divide 6 (none) :: tgd) rmX11_divide [tr 11 0] M none Mz 0 0 := by
  have key : TW g iX11_divide rmX11_divide 0 0 none Mz 0 0 0 [(0, tr 11 0)] [] M := by
    rw [fX11_divide] at h
    refine tm_iconst (v := 0) dX11_divide_0 (by decide) ?_
    refine tm_istore_n (lc' := [(1, ti 0), (0, tr 11 0)]) dX11_divide_1 rfl (by decide) rfl ?_
    obtain ⟨w22, hE23, h⟩ := obind_some h
    refine tm_lcp [0, 1] rfl ?_
    refine okX11_divide_l2  FU 0 M _ hE23 (fun M24 e => ?_)
    subst e
    refine tm_iconst (v := 1) dX11_divide_105 (by decide) ?_
    refine tm_istore_n (lc' := [(1, ti 1), (0, tr 11 0)]) dX11_divide_106 rfl (by decide) rfl ?_
    obtain ⟨w57, hE58, h⟩ := obind_some h
    refine tm_lcp [0, 1] rfl ?_
    refine okX11_divide_l107  FU 1 M24 _ hE58 (fun M59 e => ?_)
    subst e
    obtain rfl := Option.some.inj h
    exact tm_vret rfl dX11_divide_265
  exact TMet.of (by decide) (Nat.le_of_ble_eq_true rfl) key
theorem wfX11_160 : Cond.fieldLink RX11 160 "EvenFlowModel" "items" "[I" ∈ tgd := (tgd_t 1284 (by decide +kernel) (by decide +kernel))
abbrev iX11_item : tY := (RX11, cX11_item, 2, none, "item")
abbrev rmX11_item : Room := { frames := 0, cells := 0, slots := 0, locals := 0 }
def fX11_item (a1 : Int32) (M : tM) : Option (tM) :=
  chk (inb (mI M 11 0 60) (mN M 1259 0)) <|
  bnd (sI M 1259 0 ((mI M 11 0 60).toNatClampNeg) a1) fun M2 =>
  bnd (sI M2 11 0 60 ((mI M2 11 0 60) + 1)) fun M3 =>
  some M3
set_option maxHeartbeats 4000000 in
set_option maxRecDepth 100000 in
theorem okX11_item {g : tG} {a1 : Int32} {M : tM} {Mz : tM} (h : fX11_item a1 M = some Mz) : TMet g yX11_item (Cond.code yX11_item cX11_item 2 (none) :: tgd) rmX11_item [tr 11 0, ti a1] M none Mz 0 0 := by
  have key : TW g iX11_item rmX11_item 0 0 none Mz 0 0 0 [(0, tr 11 0), (1, ti a1)] [] M := by
    rw [fX11_item] at h
    refine tm_aload_n dX11_item_0 rfl rfl ?_
    refine tm_get kX11 rfl (j := 59) (by decide) wfX11_160 dX11_item_1 (v := tr 1259 0) rfl ?_
    refine tm_aload_n dX11_item_4 rfl rfl ?_
    refine tm_get kX11 rfl (j := 60) (by decide) wfX11_163 dX11_item_5 (v := ti (mI M 11 0 60)) rfl ?_
    refine tm_iload_n dX11_item_8 rfl rfl ?_
    obtain ⟨b1, h⟩ := chk_some h
    obtain ⟨M2, eM2, h⟩ := bnd_some h
    refine tm_iast rfl dX11_item_9 (inb_vp b1) ?_
    refine tm_nmM eM2 ?_
    refine tm_aload_n dX11_item_10 rfl rfl ?_
    refine tm_dup dX11_item_11 rfl ?_
    refine tm_get kX11 rfl (j := 60) (by decide) wfX11_163 dX11_item_12 (v := ti (mI M2 11 0 60)) rfl ?_
    refine tm_iconst (v := 1) dX11_item_15 (by decide) ?_
    refine tm_iadd dX11_item_16 ?_
    obtain ⟨M3, eM3, h⟩ := bnd_some h
    refine tm_put kX11 rfl (j := 60) (by decide) wfX11_163 rfl dX11_item_17 (fun _ => ⟨rfl, rfl⟩) (tPut_I ((mI M2 11 0 60) + 1) rfl) ?_
    refine tm_nmM eM3 ?_
    obtain rfl := Option.some.inj h
    exact tm_vret rfl dX11_item_20
  exact TMet.of (by decide) (Nat.le_of_ble_eq_true rfl) key
theorem wcX11_349 : tCB RX11 349 yX11_item cX11_item 2 (none) 1 ∧ Cond.methodLink RX11 349 yX11_item ∈ tgd ∧ Cond.instanceMethod yX11_item ∈ tgd ∧ Cond.selects RX11 yX11_item yX11_item ∈ tgd := ⟨⟨(tgd_t 1697 (by decide +kernel) (by decide +kernel)), (tgd_t 10 (by decide +kernel) (by decide +kernel)), by decide, by decide +kernel⟩, (tgd_t 1694 (by decide +kernel) (by decide +kernel)), (tgd_t 1696 (by decide +kernel) (by decide +kernel)), (tgd_p 89 (by decide +kernel) (by decide +kernel))⟩
theorem wfX11_166 : Cond.fieldLink RX11 166 "EvenFlowModel" "todo" "[I" ∈ tgd := (tgd_t 1286 (by decide +kernel) (by decide +kernel))
abbrev iX11_write : tY := (RX11, cX11_write, 7, none, "write")
abbrev rmX11_write : Room := { frames := 1, cells := 0, slots := 0, locals := 21 }
def fX11_write_l33  : Nat → Int32 → tM → Option (tM)
  | 0, _, _ => none
  | n + 1, y1, M =>
    if y1 ≤ 0 then (
    some M
    ) else (
    bnd (y1 + (-1)) fun x9 =>
    chk (inb (3 * x9) (mN M 1261 0)) <|
    bnd (mI M 1261 0 ((3 * x9).toNatClampNeg)) fun x11 =>
    chk (inb ((3 * x9) + 1) (mN M 1261 0)) <|
    bnd (mI M 1261 0 (((3 * x9) + 1).toNatClampNeg)) fun x13 =>
    chk (inb ((3 * x9) + 2) (mN M 1261 0)) <|
    bnd (mI M 1261 0 (((3 * x9) + 2).toNatClampNeg)) fun x15 =>
    if 0 ≤ x11 then (
    chk (inb ((12 * x11) + x13) (mN M 1256 0)) <|
    bnd (mI M 1256 0 (((12 * x11) + x13).toNatClampNeg)) fun x18 =>
    chk (nz4 x15) <|
    bnd (x18 / x15) fun x20 =>
    Option.bind (α := tM) (
    if x20 ≤ 1 then (
    some M
    ) else (
    (fX11_item (x20 + 1) M).bind fun M23 =>
    some M23
    )
    ) fun M22 =>
    if x11 = x13 then (
    chk (inb x11 (mN M22 1254 0)) <|
    (fX11_item ((-1) - (mI M22 1254 0 (x11.toNatClampNeg))) M22).bind fun M49 =>
    if x20 ≤ 1 then (
    fX11_write_l33 n x9 M49
    ) else (
    (fX11_item 0 M49).bind fun M52 =>
    fX11_write_l33 n x9 M52
    )
    ) else (
    Option.bind (α := Int32 × tM) (
    if x20 ≤ 1 then (
    some ((x9, M22))
    ) else (
    chk (inb (3 * x9) (mN M22 1261 0)) <|
    bnd (sI M22 1261 0 ((3 * x9).toNatClampNeg) (-1)) fun M28 =>
    bnd (x9 + 1) fun x29 =>
    some ((x29, M28))
    )
    ) fun (x27, M28) =>
    chk (inb ((12 * x11) + x13) (mN M28 1258 0)) <|
    chk (inb (3 * x27) (mN M28 1261 0)) <|
    bnd (sI M28 1261 0 ((3 * x27).toNatClampNeg) ((mI M28 1258 0 (((12 * x11) + x13).toNatClampNeg)) + 1)) fun M33 =>
    chk (inb ((3 * x27) + 1) (mN M33 1261 0)) <|
    bnd (sI M33 1261 0 (((3 * x27) + 1).toNatClampNeg) x13) fun M35 =>
    chk (inb ((3 * x27) + 2) (mN M35 1261 0)) <|
    bnd (sI M35 1261 0 (((3 * x27) + 2).toNatClampNeg) x18) fun M37 =>
    bnd (x27 + 1) fun x38 =>
    chk (inb (3 * x38) (mN M37 1261 0)) <|
    bnd (sI M37 1261 0 ((3 * x38).toNatClampNeg) x11) fun M40 =>
    chk (inb ((12 * x11) + x13) (mN M40 1258 0)) <|
    chk (inb ((3 * x38) + 1) (mN M40 1261 0)) <|
    bnd (sI M40 1261 0 (((3 * x38) + 1).toNatClampNeg) (mI M40 1258 0 (((12 * x11) + x13).toNatClampNeg))) fun M43 =>
    chk (inb ((3 * x38) + 2) (mN M43 1261 0)) <|
    bnd (sI M43 1261 0 (((3 * x38) + 2).toNatClampNeg) x18) fun M45 =>
    bnd (x38 + 1) fun x46 =>
    fX11_write_l33 n x46 M45
    )
    ) else (
    (fX11_item 0 M).bind fun M54 =>
    fX11_write_l33 n x9 M54
    )
    )
def fX11_write  (M : tM) : Option (tM) :=
  bnd (sI M 11 0 60 0) fun M1 =>
  chk (inb 0 (mN M1 1261 0)) <|
  bnd (sI M1 1261 0 ((0 : Int32).toNatClampNeg) 0) fun M3 =>
  chk (inb 1 (mN M3 1261 0)) <|
  bnd (sI M3 1261 0 ((1 : Int32).toNatClampNeg) ((mI M3 11 0 2) - 1)) fun M5 =>
  chk (inb 2 (mN M5 1261 0)) <|
  bnd (sI M5 1261 0 ((2 : Int32).toNatClampNeg) 1) fun M7 =>
  Option.bind (fX11_write_l33 FU 1 M7) fun M57 =>
  some M57
set_option maxHeartbeats 4000000 in
set_option maxRecDepth 100000 in
theorem okX11_write_l33 {g : tG}  {r : Option tV} {Mz : tM} : ∀ (n : Nat) (y1 : Int32) (M : tM) (w : tM), fX11_write_l33 n y1 M = some w → (∀ (Mw : tM), Mw = w → TW g iX11_write rmX11_write 0 0 r Mz 0 0 262 [] [] Mw) → TW g iX11_write rmX11_write 0 0 r Mz 0 0 33 [(0, tr 11 0), (1, ti y1)] [] M := by
  intro n
  induction n with
  | zero => intro y1 M w h; cases h
  | succ n ih =>
    intro y1 M w h J
    rw [fX11_write_l33] at h
    refine tm_iload_n dX11_write_33 rfl rfl ?_
    refine tm_if_le (tgt := 262) dX11_write_34 (by decide) (fun c8 => ?_) (fun c8 => ?_)
    · rw [if_pos c8] at h
      obtain rfl := Option.some.inj h
      refine tm_lcp [] rfl ?_
      exact J _ rfl
    · rw [if_neg c8] at h
      obtain ⟨x9, ex9, h⟩ := bnd_some h
      refine tm_iinc (v := x9) (lc' := [(1, ti x9), (0, tr 11 0)]) dX11_write_37 rfl (by rw [ex9]; rfl) (by decide) rfl ?_
      refine tm_aload_n dX11_write_40 rfl rfl ?_
      refine tm_get kX11 rfl (j := 61) (by decide) wfX11_166 dX11_write_41 (v := tr 1261 0) rfl ?_
      refine tm_iconst (v := 3) dX11_write_44 (by decide) ?_
      refine tm_iload_n dX11_write_45 rfl rfl ?_
      refine tm_imul dX11_write_46 ?_
      obtain ⟨b10, h⟩ := chk_some h
      refine tm_iald rfl dX11_write_47 (inb_vp b10) ?_
      obtain ⟨x11, ex11, h⟩ := bnd_some h
      refine tm_nmI ex11 ?_
      refine tm_istore_n (lc' := [(2, ti x11), (1, ti x9), (0, tr 11 0)]) dX11_write_48 rfl (by decide) rfl ?_
      refine tm_aload_n dX11_write_49 rfl rfl ?_
      refine tm_get kX11 rfl (j := 61) (by decide) wfX11_166 dX11_write_50 (v := tr 1261 0) rfl ?_
      refine tm_iconst (v := 3) dX11_write_53 (by decide) ?_
      refine tm_iload_n dX11_write_54 rfl rfl ?_
      refine tm_imul dX11_write_55 ?_
      refine tm_iconst (v := 1) dX11_write_56 (by decide) ?_
      refine tm_iadd dX11_write_57 ?_
      obtain ⟨b12, h⟩ := chk_some h
      refine tm_iald rfl dX11_write_58 (inb_vp b12) ?_
      obtain ⟨x13, ex13, h⟩ := bnd_some h
      refine tm_nmI ex13 ?_
      refine tm_istore_n (lc' := [(3, ti x13), (2, ti x11), (1, ti x9), (0, tr 11 0)]) dX11_write_59 rfl (by decide) rfl ?_
      refine tm_aload_n dX11_write_60 rfl rfl ?_
      refine tm_get kX11 rfl (j := 61) (by decide) wfX11_166 dX11_write_61 (v := tr 1261 0) rfl ?_
      refine tm_iconst (v := 3) dX11_write_64 (by decide) ?_
      refine tm_iload_n dX11_write_65 rfl rfl ?_
      refine tm_imul dX11_write_66 ?_
      refine tm_iconst (v := 2) dX11_write_67 (by decide) ?_
      refine tm_iadd dX11_write_68 ?_
      obtain ⟨b14, h⟩ := chk_some h
      refine tm_iald rfl dX11_write_69 (inb_vp b14) ?_
      obtain ⟨x15, ex15, h⟩ := bnd_some h
      refine tm_nmI ex15 ?_
      refine tm_istore (lc' := [(4, ti x15), (3, ti x13), (2, ti x11), (1, ti x9), (0, tr 11 0)]) dX11_write_70 (by decide) rfl ?_
      refine tm_iload_n dX11_write_72 rfl rfl ?_
      refine tm_if_ge (tgt := 84) dX11_write_73 (by decide) (fun c16 => ?_) (fun c16 => ?_)
      · rw [if_pos c16] at h
        refine tm_aload_n dX11_write_84 rfl rfl ?_
        refine tm_get kX11 rfl (j := 56) (by decide) wfX11_151 dX11_write_85 (v := tr 1256 0) rfl ?_
        refine tm_bipush (v := 12) dX11_write_88 (by decide) ?_
        refine tm_iload_n dX11_write_90 rfl rfl ?_
        refine tm_imul dX11_write_91 ?_
        refine tm_iload_n dX11_write_92 rfl rfl ?_
        refine tm_iadd dX11_write_93 ?_
        obtain ⟨b17, h⟩ := chk_some h
        refine tm_iald rfl dX11_write_94 (inb_vp b17) ?_
        obtain ⟨x18, ex18, h⟩ := bnd_some h
        refine tm_nmI ex18 ?_
        refine tm_istore (lc' := [(5, ti x18), (4, ti x15), (3, ti x13), (2, ti x11), (1, ti x9), (0, tr 11 0)]) dX11_write_95 (by decide) rfl ?_
        refine tm_iload dX11_write_97 rfl ?_
        refine tm_iload dX11_write_99 rfl ?_
        obtain ⟨b19, h⟩ := chk_some h
        refine tm_idiv dX11_write_101 (nz4_ne b19) ?_
        obtain ⟨x20, ex20, h⟩ := bnd_some h
        refine tm_nmI ex20 ?_
        refine tm_istore (lc' := [(6, ti x20), (5, ti x18), (4, ti x15), (3, ti x13), (2, ti x11), (1, ti x9), (0, tr 11 0)]) dX11_write_102 (by decide) rfl ?_
        refine tm_iload dX11_write_104 rfl ?_
        refine tm_iconst (v := 1) dX11_write_106 (by decide) ?_
        obtain ⟨M22, hE23, h⟩ := obind_some h
        have J24 : TW g iX11_write rmX11_write 0 0 r Mz 0 0 118 [(0, tr 11 0), (1, ti x9), (2, ti x11), (3, ti x13), (5, ti x18), (6, ti x20)] [] M22 := by
          refine tm_iload_n dX11_write_118 rfl rfl ?_
          refine tm_iload_n dX11_write_119 rfl rfl ?_
          refine tm_icmp_ne (tgt := 149) dX11_write_120 (by decide) (fun c25 => ?_) (fun c25 => ?_)
          · rw [if_neg c25] at h
            refine tm_iload dX11_write_149 rfl ?_
            refine tm_iconst (v := 1) dX11_write_151 (by decide) ?_
            obtain ⟨⟨x27, M28⟩, hE29, h⟩ := obind_some h
            dsimp only at h
            have J30 : TW g iX11_write rmX11_write 0 0 r Mz 0 0 167 [(0, tr 11 0), (1, ti x27), (2, ti x11), (3, ti x13), (5, ti x18)] [] M28 := by
              refine tm_aload_n dX11_write_167 rfl rfl ?_
              refine tm_get kX11 rfl (j := 61) (by decide) wfX11_166 dX11_write_168 (v := tr 1261 0) rfl ?_
              refine tm_iconst (v := 3) dX11_write_171 (by decide) ?_
              refine tm_iload_n dX11_write_172 rfl rfl ?_
              refine tm_imul dX11_write_173 ?_
              refine tm_aload_n dX11_write_174 rfl rfl ?_
              refine tm_get kX11 rfl (j := 58) (by decide) wfX11_157 dX11_write_175 (v := tr 1258 0) rfl ?_
              refine tm_bipush (v := 12) dX11_write_178 (by decide) ?_
              refine tm_iload_n dX11_write_180 rfl rfl ?_
              refine tm_imul dX11_write_181 ?_
              refine tm_iload_n dX11_write_182 rfl rfl ?_
              refine tm_iadd dX11_write_183 ?_
              obtain ⟨b31, h⟩ := chk_some h
              refine tm_iald rfl dX11_write_184 (inb_vp b31) ?_
              refine tm_iconst (v := 1) dX11_write_185 (by decide) ?_
              refine tm_iadd dX11_write_186 ?_
              obtain ⟨b32, h⟩ := chk_some h
              obtain ⟨M33, eM33, h⟩ := bnd_some h
              refine tm_iast rfl dX11_write_187 (inb_vp b32) ?_
              refine tm_nmM eM33 ?_
              refine tm_aload_n dX11_write_188 rfl rfl ?_
              refine tm_get kX11 rfl (j := 61) (by decide) wfX11_166 dX11_write_189 (v := tr 1261 0) rfl ?_
              refine tm_iconst (v := 3) dX11_write_192 (by decide) ?_
              refine tm_iload_n dX11_write_193 rfl rfl ?_
              refine tm_imul dX11_write_194 ?_
              refine tm_iconst (v := 1) dX11_write_195 (by decide) ?_
              refine tm_iadd dX11_write_196 ?_
              refine tm_iload_n dX11_write_197 rfl rfl ?_
              obtain ⟨b34, h⟩ := chk_some h
              obtain ⟨M35, eM35, h⟩ := bnd_some h
              refine tm_iast rfl dX11_write_198 (inb_vp b34) ?_
              refine tm_nmM eM35 ?_
              refine tm_aload_n dX11_write_199 rfl rfl ?_
              refine tm_get kX11 rfl (j := 61) (by decide) wfX11_166 dX11_write_200 (v := tr 1261 0) rfl ?_
              refine tm_iconst (v := 3) dX11_write_203 (by decide) ?_
              refine tm_iload_n dX11_write_204 rfl rfl ?_
              refine tm_imul dX11_write_205 ?_
              refine tm_iconst (v := 2) dX11_write_206 (by decide) ?_
              refine tm_iadd dX11_write_207 ?_
              refine tm_iload dX11_write_208 rfl ?_
              obtain ⟨b36, h⟩ := chk_some h
              obtain ⟨M37, eM37, h⟩ := bnd_some h
              refine tm_iast rfl dX11_write_210 (inb_vp b36) ?_
              refine tm_nmM eM37 ?_
              obtain ⟨x38, ex38, h⟩ := bnd_some h
              refine tm_iinc (v := x38) (lc' := [(1, ti x38), (0, tr 11 0), (2, ti x11), (3, ti x13), (5, ti x18)]) dX11_write_211 rfl (by rw [ex38]; rfl) (by decide) rfl ?_
              refine tm_aload_n dX11_write_214 rfl rfl ?_
              refine tm_get kX11 rfl (j := 61) (by decide) wfX11_166 dX11_write_215 (v := tr 1261 0) rfl ?_
              refine tm_iconst (v := 3) dX11_write_218 (by decide) ?_
              refine tm_iload_n dX11_write_219 rfl rfl ?_
              refine tm_imul dX11_write_220 ?_
              refine tm_iload_n dX11_write_221 rfl rfl ?_
              obtain ⟨b39, h⟩ := chk_some h
              obtain ⟨M40, eM40, h⟩ := bnd_some h
              refine tm_iast rfl dX11_write_222 (inb_vp b39) ?_
              refine tm_nmM eM40 ?_
              refine tm_aload_n dX11_write_223 rfl rfl ?_
              refine tm_get kX11 rfl (j := 61) (by decide) wfX11_166 dX11_write_224 (v := tr 1261 0) rfl ?_
              refine tm_iconst (v := 3) dX11_write_227 (by decide) ?_
              refine tm_iload_n dX11_write_228 rfl rfl ?_
              refine tm_imul dX11_write_229 ?_
              refine tm_iconst (v := 1) dX11_write_230 (by decide) ?_
              refine tm_iadd dX11_write_231 ?_
              refine tm_aload_n dX11_write_232 rfl rfl ?_
              refine tm_get kX11 rfl (j := 58) (by decide) wfX11_157 dX11_write_233 (v := tr 1258 0) rfl ?_
              refine tm_bipush (v := 12) dX11_write_236 (by decide) ?_
              refine tm_iload_n dX11_write_238 rfl rfl ?_
              refine tm_imul dX11_write_239 ?_
              refine tm_iload_n dX11_write_240 rfl rfl ?_
              refine tm_iadd dX11_write_241 ?_
              obtain ⟨b41, h⟩ := chk_some h
              refine tm_iald rfl dX11_write_242 (inb_vp b41) ?_
              obtain ⟨b42, h⟩ := chk_some h
              obtain ⟨M43, eM43, h⟩ := bnd_some h
              refine tm_iast rfl dX11_write_243 (inb_vp b42) ?_
              refine tm_nmM eM43 ?_
              refine tm_aload_n dX11_write_244 rfl rfl ?_
              refine tm_get kX11 rfl (j := 61) (by decide) wfX11_166 dX11_write_245 (v := tr 1261 0) rfl ?_
              refine tm_iconst (v := 3) dX11_write_248 (by decide) ?_
              refine tm_iload_n dX11_write_249 rfl rfl ?_
              refine tm_imul dX11_write_250 ?_
              refine tm_iconst (v := 2) dX11_write_251 (by decide) ?_
              refine tm_iadd dX11_write_252 ?_
              refine tm_iload dX11_write_253 rfl ?_
              obtain ⟨b44, h⟩ := chk_some h
              obtain ⟨M45, eM45, h⟩ := bnd_some h
              refine tm_iast rfl dX11_write_255 (inb_vp b44) ?_
              refine tm_nmM eM45 ?_
              obtain ⟨x46, ex46, h⟩ := bnd_some h
              refine tm_iinc (v := x46) (lc' := [(1, ti x46), (0, tr 11 0), (2, ti x11), (3, ti x13), (5, ti x18)]) dX11_write_256 rfl (by rw [ex46]; rfl) (by decide) rfl ?_
              refine tm_goto (tgt := 33) dX11_write_259 (by decide) ?_
              refine tm_lcp [0, 1] rfl ?_
              exact ih x46 M45 _ h J
            refine tm_icmp_le (tgt := 167) dX11_write_152 (by decide) (fun c26 => ?_) (fun c26 => ?_)
            · rw [if_pos c26] at hE29
              obtain ⟨rfl, rfl⟩ := pj2 hE29
              refine tm_lcp [0, 1, 2, 3, 5] rfl ?_
              exact J30
            · rw [if_neg c26] at hE29
              refine tm_aload_n dX11_write_155 rfl rfl ?_
              refine tm_get kX11 rfl (j := 61) (by decide) wfX11_166 dX11_write_156 (v := tr 1261 0) rfl ?_
              refine tm_iconst (v := 3) dX11_write_159 (by decide) ?_
              refine tm_iload_n dX11_write_160 rfl rfl ?_
              refine tm_imul dX11_write_161 ?_
              refine tm_iconst (v := (-1)) dX11_write_162 (by decide) ?_
              obtain ⟨b27, hE29⟩ := chk_some hE29
              obtain ⟨M28, eM28, hE29⟩ := bnd_some hE29
              refine tm_iast rfl dX11_write_163 (inb_vp b27) ?_
              refine tm_nmM eM28 ?_
              obtain ⟨x29, ex29, hE29⟩ := bnd_some hE29
              refine tm_iinc (v := x29) (lc' := [(1, ti x29), (0, tr 11 0), (2, ti x11), (3, ti x13), (5, ti x18), (6, ti x20)]) dX11_write_164 rfl (by rw [ex29]; rfl) (by decide) rfl ?_
              obtain ⟨rfl, rfl⟩ := pj2 hE29
              refine tm_lcp [0, 1, 2, 3, 5] rfl ?_
              exact J30
          · rw [if_pos c25] at h
            refine tm_aload_n dX11_write_123 rfl rfl ?_
            refine tm_iconst (v := (-1)) dX11_write_124 (by decide) ?_
            refine tm_aload_n dX11_write_125 rfl rfl ?_
            refine tm_get kX11 rfl (j := 54) (by decide) wfX11_144 dX11_write_126 (v := tr 1254 0) rfl ?_
            refine tm_iload_n dX11_write_129 rfl rfl ?_
            obtain ⟨b47, h⟩ := chk_some h
            refine tm_iald rfl dX11_write_130 (inb_vp b47) ?_
            refine tm_isub dX11_write_131 ?_
            obtain ⟨M49, hc48, h⟩ := obind_some h
            refine tm_callV kX11 rfl (avs := [ti ((-1) - (mI M22 1254 0 (x11.toNatClampNeg)))]) (st := []) (okX11_item hc48) wcX11_349.1 wcX11_349.2.1 wcX11_349.2.2.1 wcX11_349.2.2.2 ⟨rfl, rfl, Nat.le_of_ble_eq_true rfl, Nat.le_of_ble_eq_true rfl⟩ rfl (Nat.le_of_ble_eq_true rfl) ⟨Nat.zero_le _, Nat.zero_le _⟩ dX11_write_132 ?_
            refine tm_iload dX11_write_135 rfl ?_
            refine tm_iconst (v := 1) dX11_write_137 (by decide) ?_
            refine tm_icmp_le (tgt := 33) dX11_write_138 (by decide) (fun c50 => ?_) (fun c50 => ?_)
            · rw [if_pos c50] at h
              refine tm_lcp [0, 1] rfl ?_
              exact ih x9 M49 _ h J
            · rw [if_neg c50] at h
              refine tm_aload_n dX11_write_141 rfl rfl ?_
              refine tm_iconst (v := 0) dX11_write_142 (by decide) ?_
              obtain ⟨M52, hc51, h⟩ := obind_some h
              refine tm_callV kX11 rfl (avs := [ti 0]) (st := []) (okX11_item hc51) wcX11_349.1 wcX11_349.2.1 wcX11_349.2.2.1 wcX11_349.2.2.2 ⟨rfl, rfl, Nat.le_of_ble_eq_true rfl, Nat.le_of_ble_eq_true rfl⟩ rfl (Nat.le_of_ble_eq_true rfl) ⟨Nat.zero_le _, Nat.zero_le _⟩ dX11_write_143 ?_
              refine tm_goto (tgt := 33) dX11_write_146 (by decide) ?_
              refine tm_lcp [0, 1] rfl ?_
              exact ih x9 M52 _ h J
        refine tm_icmp_le (tgt := 118) dX11_write_107 (by decide) (fun c21 => ?_) (fun c21 => ?_)
        · rw [if_pos c21] at hE23
          obtain rfl := Option.some.inj hE23
          refine tm_lcp [0, 1, 2, 3, 5, 6] rfl ?_
          exact J24
        · rw [if_neg c21] at hE23
          refine tm_aload_n dX11_write_110 rfl rfl ?_
          refine tm_iload dX11_write_111 rfl ?_
          refine tm_iconst (v := 1) dX11_write_113 (by decide) ?_
          refine tm_iadd dX11_write_114 ?_
          obtain ⟨M23, hc22, hE23⟩ := obind_some hE23
          refine tm_callV kX11 rfl (avs := [ti (x20 + 1)]) (st := []) (okX11_item hc22) wcX11_349.1 wcX11_349.2.1 wcX11_349.2.2.1 wcX11_349.2.2.2 ⟨rfl, rfl, Nat.le_of_ble_eq_true rfl, Nat.le_of_ble_eq_true rfl⟩ rfl (Nat.le_of_ble_eq_true rfl) ⟨Nat.zero_le _, Nat.zero_le _⟩ dX11_write_115 ?_
          obtain rfl := Option.some.inj hE23
          refine tm_lcp [0, 1, 2, 3, 5, 6] rfl ?_
          exact J24
      · rw [if_neg c16] at h
        refine tm_aload_n dX11_write_76 rfl rfl ?_
        refine tm_iconst (v := 0) dX11_write_77 (by decide) ?_
        obtain ⟨M54, hc53, h⟩ := obind_some h
        refine tm_callV kX11 rfl (avs := [ti 0]) (st := []) (okX11_item hc53) wcX11_349.1 wcX11_349.2.1 wcX11_349.2.2.1 wcX11_349.2.2.2 ⟨rfl, rfl, Nat.le_of_ble_eq_true rfl, Nat.le_of_ble_eq_true rfl⟩ rfl (Nat.le_of_ble_eq_true rfl) ⟨Nat.zero_le _, Nat.zero_le _⟩ dX11_write_78 ?_
        refine tm_goto (tgt := 33) dX11_write_81 (by decide) ?_
        refine tm_lcp [0, 1] rfl ?_
        exact ih x9 M54 _ h J
set_option maxHeartbeats 4000000 in
set_option maxRecDepth 100000 in
theorem okX11_write {g : tG}  {M : tM} {Mz : tM} (h : fX11_write  M = some Mz) : TMet g yX11_write (Cond.code yX11_write cX11_write 7 (none) :: tgd) rmX11_write [tr 11 0] M none Mz 0 0 := by
  have key : TW g iX11_write rmX11_write 0 0 none Mz 0 0 0 [(0, tr 11 0)] [] M := by
    rw [fX11_write] at h
    refine tm_aload_n dX11_write_0 rfl rfl ?_
    refine tm_iconst (v := 0) dX11_write_1 (by decide) ?_
    obtain ⟨M1, eM1, h⟩ := bnd_some h
    refine tm_put kX11 rfl (j := 60) (by decide) wfX11_163 rfl dX11_write_2 (fun _ => ⟨rfl, rfl⟩) (tPut_I 0 rfl) ?_
    refine tm_nmM eM1 ?_
    refine tm_iconst (v := 1) dX11_write_5 (by decide) ?_
    refine tm_istore_n (lc' := [(1, ti 1), (0, tr 11 0)]) dX11_write_6 rfl (by decide) rfl ?_
    refine tm_aload_n dX11_write_7 rfl rfl ?_
    refine tm_get kX11 rfl (j := 61) (by decide) wfX11_166 dX11_write_8 (v := tr 1261 0) rfl ?_
    refine tm_iconst (v := 0) dX11_write_11 (by decide) ?_
    refine tm_iconst (v := 0) dX11_write_12 (by decide) ?_
    obtain ⟨b2, h⟩ := chk_some h
    obtain ⟨M3, eM3, h⟩ := bnd_some h
    refine tm_iast rfl dX11_write_13 (inb_vp b2) ?_
    refine tm_nmM eM3 ?_
    refine tm_aload_n dX11_write_14 rfl rfl ?_
    refine tm_get kX11 rfl (j := 61) (by decide) wfX11_166 dX11_write_15 (v := tr 1261 0) rfl ?_
    refine tm_iconst (v := 1) dX11_write_18 (by decide) ?_
    refine tm_aload_n dX11_write_19 rfl rfl ?_
    refine tm_get kX11 rfl (j := 2) (by decide) wfX11_202 dX11_write_20 (v := ti (mI M3 11 0 2)) rfl ?_
    refine tm_iconst (v := 1) dX11_write_23 (by decide) ?_
    refine tm_isub dX11_write_24 ?_
    obtain ⟨b4, h⟩ := chk_some h
    obtain ⟨M5, eM5, h⟩ := bnd_some h
    refine tm_iast rfl dX11_write_25 (inb_vp b4) ?_
    refine tm_nmM eM5 ?_
    refine tm_aload_n dX11_write_26 rfl rfl ?_
    refine tm_get kX11 rfl (j := 61) (by decide) wfX11_166 dX11_write_27 (v := tr 1261 0) rfl ?_
    refine tm_iconst (v := 2) dX11_write_30 (by decide) ?_
    refine tm_iconst (v := 1) dX11_write_31 (by decide) ?_
    obtain ⟨b6, h⟩ := chk_some h
    obtain ⟨M7, eM7, h⟩ := bnd_some h
    refine tm_iast rfl dX11_write_32 (inb_vp b6) ?_
    refine tm_nmM eM7 ?_
    obtain ⟨w55, hE56, h⟩ := obind_some h
    refine tm_lcp [0, 1] rfl ?_
    refine okX11_write_l33  FU 1 M7 _ hE56 (fun M57 e => ?_)
    subst e
    obtain rfl := Option.some.inj h
    exact tm_vret rfl dX11_write_262
  exact TMet.of (by decide) (Nat.le_of_ble_eq_true rfl) key
