theorem wconstlX11_276 : Cond.constantLong RX11 276 1000 ∈ tgd := (tgd_t 1571 (by decide +kernel) (by decide +kernel))
theorem wconstlX11_278 : Cond.constantLong RX11 278 1001 ∈ tgd := (tgd_t 1572 (by decide +kernel) (by decide +kernel))
theorem wfX11_95 : Cond.fieldLink RX11 95 "EvenFlowModel" "firings" "[I" ∈ tgd := (tgd_t 1260 (by decide +kernel) (by decide +kernel))
theorem wfX11_273 : Cond.fieldLink RX11 273 "EvenFlowModel" "total" "I" ∈ tgd := (tgd_t 1261 (by decide +kernel) (by decide +kernel))
abbrev iX11_counts : tY := (RX11, cX11_counts, 7, some .int, "counts")
abbrev rmX11_counts : Room := { frames := 1, cells := 0, slots := 0, locals := 29 }
def fX11_counts_l22 (z1 : Int32) (z2 : Int32) (M : tM) : Nat → Int64 → Int32 → Option (Int64)
  | 0, _, _ => none
  | n + 1, y3, y5 =>
    if (mI M 11 0 2) ≤ y5 then (
    some y3
    ) else (
    if 0 < (lg_cmp y3 1000) then (
    some y3
    ) else (
    chk (inb y5 (mN M 1232 0)) <|
    chk (inb z2 (mN M 1232 0)) <|
    Option.bind (α := Int64) (
    if (mI M 1232 0 (y5.toNatClampNeg)) = (mI M 1232 0 (z2.toNatClampNeg)) then (
    chk (inb y5 (mN M 1234 0)) <|
    (fX11_divisor y3 (mL M 1234 0 (y5.toNatClampNeg)) M).bind fun x9 =>
    chk (nz8 x9) <|
    chk (inb y5 (mN M 1234 0)) <|
    some ((y3 / x9) * (mL M 1234 0 (y5.toNatClampNeg)))
    ) else (
    some y3
    )
    ) fun x8 =>
    bnd (y5 + 1) fun x13 =>
    fX11_counts_l22 z1 z2 M n x8 x13
    )
    )
def fX11_counts_l9  : Nat → Int32 → Int32 → tM → Option (Int32 × tM)
  | 0, _, _, _ => none
  | n + 1, y1, y2, M =>
    if (mI M 11 0 2) ≤ y2 then (
    some ((y1, M))
    ) else (
    Option.bind (fX11_counts_l22 y1 y2 M FU 1 0) fun x16 =>
    Option.bind (α := Int64) (
    if 0 < (lg_cmp x16 1000) then (
    some 1001
    ) else (
    chk (inb y2 (mN M 1233 0)) <|
    chk (inb y2 (mN M 1234 0)) <|
    chk (nz8 (mL M 1234 0 (y2.toNatClampNeg))) <|
    chk (inb y2 (mN M 1205 0)) <|
    some (((x16 * (mL M 1233 0 (y2.toNatClampNeg))) / (mL M 1234 0 (y2.toNatClampNeg))) * ((mI M 1205 0 (y2.toNatClampNeg)).toInt64))
    )
    ) fun x18 =>
    Option.bind (α := Int32) (
    if y1 = 0 then (
    some 0
    ) else (
    if 0 < (lg_cmp x18 1000) then (
    some 0
    ) else (
    some 1
    )
    )
    ) fun x23 =>
    Option.bind (α := Int32) (
    if x23 = 0 then (
    some 0
    ) else (
    some (x18.toInt32)
    )
    ) fun x27 =>
    chk (inb y2 (mN M 1235 0)) <|
    bnd (sI M 1235 0 (y2.toNatClampNeg) x27) fun M31 =>
    chk (inb y2 (mN M31 1235 0)) <|
    bnd (sI M31 11 0 36 ((mI M31 11 0 36) + (mI M31 1235 0 (y2.toNatClampNeg)))) fun M33 =>
    bnd (y2 + 1) fun x34 =>
    fX11_counts_l9 n x23 x34 M33
    )
def fX11_counts  (M : tM) : Option (Int32 × tM) :=
  bnd (sI M 11 0 36 0) fun M1 =>
  Option.bind (fX11_counts_l9 FU 1 0 M1) fun (x37, M38) =>
  if x37 = 0 then (
  some (((-6), M38))
  ) else (
  if 2000 < (mI M38 11 0 36) then (
  some (((-6), M38))
  ) else (
  some ((1, M38))
  )
  )
set_option maxHeartbeats 4000000 in
set_option maxRecDepth 100000 in
theorem okX11_counts_l22 {g : tG} (z1 : Int32) (z2 : Int32) (M : tM) {r : Option tV} {Mz : tM} : ∀ (n : Nat) (y3 : Int64) (y5 : Int32) (w : Int64), fX11_counts_l22 z1 z2 M n y3 y5 = some w → (∀ (w3 : Int64), w3 = w → TW g iX11_counts rmX11_counts 0 0 r Mz 0 0 87 [(0, tr 11 0), (1, ti z1), (2, ti z2), (3, tl w3)] [] M) → TW g iX11_counts rmX11_counts 0 0 r Mz 0 0 22 [(0, tr 11 0), (1, ti z1), (2, ti z2), (3, tl y3), (5, ti y5)] [] M := by
  intro n
  induction n with
  | zero => intro y3 y5 w h; cases h
  | succ n ih =>
    intro y3 y5 w h J
    rw [fX11_counts_l22] at h
    refine tm_iload dX11_counts_22 rfl ?_
    refine tm_aload_n dX11_counts_24 rfl rfl ?_
    refine tm_get kX11 rfl (j := 2) (by decide) wfX11_202 dX11_counts_25 (v := ti (mI M 11 0 2)) rfl ?_
    refine tm_icmp_ge (tgt := 87) dX11_counts_28 (by decide) (fun c3 => ?_) (fun c3 => ?_)
    · rw [if_pos c3] at h
      obtain rfl := Option.some.inj h
      refine tm_lcp [0, 1, 2, 3] rfl ?_
      exact J _ rfl
    · rw [if_neg c3] at h
      refine tm_lload_n dX11_counts_31 rfl rfl ?_
      refine tm_ldc2 (v := 1000) dX11_counts_32 wconstlX11_276 ?_
      refine tm_lcmp dX11_counts_35 ?_
      refine tm_if_gt (tgt := 87) dX11_counts_36 (by decide) (fun c4 => ?_) (fun c4 => ?_)
      · rw [if_pos c4] at h
        obtain rfl := Option.some.inj h
        refine tm_lcp [0, 1, 2, 3] rfl ?_
        exact J _ rfl
      · rw [if_neg c4] at h
        refine tm_aload_n dX11_counts_39 rfl rfl ?_
        refine tm_get kX11 rfl (j := 32) (by decide) wfX11_86 dX11_counts_40 (v := tr 1232 0) rfl ?_
        refine tm_iload dX11_counts_43 rfl ?_
        obtain ⟨b5, h⟩ := chk_some h
        refine tm_iald rfl dX11_counts_45 (inb_vp b5) ?_
        refine tm_aload_n dX11_counts_46 rfl rfl ?_
        refine tm_get kX11 rfl (j := 32) (by decide) wfX11_86 dX11_counts_47 (v := tr 1232 0) rfl ?_
        refine tm_iload_n dX11_counts_50 rfl rfl ?_
        obtain ⟨b6, h⟩ := chk_some h
        refine tm_iald rfl dX11_counts_51 (inb_vp b6) ?_
        obtain ⟨x8, hE9, h⟩ := obind_some h
        have J10 : TW g iX11_counts rmX11_counts 0 0 r Mz 0 0 80 [(0, tr 11 0), (1, ti z1), (2, ti z2), (5, ti y5)] [tl x8] M := by
          refine tm_lstore_n (lc' := [(3, tl x8), (0, tr 11 0), (1, ti z1), (2, ti z2), (5, ti y5)]) dX11_counts_80 rfl (by decide) rfl ?_
          obtain ⟨x13, ex13, h⟩ := bnd_some h
          refine tm_iinc (v := x13) (lc' := [(5, ti x13), (3, tl x8), (0, tr 11 0), (1, ti z1), (2, ti z2)]) dX11_counts_81 rfl (by rw [ex13]; rfl) (by decide) rfl ?_
          refine tm_goto (tgt := 22) dX11_counts_84 (by decide) ?_
          refine tm_lcp [0, 1, 2, 3, 5] rfl ?_
          exact ih x8 x13 _ h J
        refine tm_icmp_ne (tgt := 79) dX11_counts_52 (by decide) (fun c7 => ?_) (fun c7 => ?_)
        · rw [if_neg c7] at hE9
          refine tm_lload_n dX11_counts_79 rfl rfl ?_
          obtain rfl := Option.some.inj hE9
          refine tm_lcp [0, 1, 2, 5] rfl ?_
          exact J10
        · rw [if_pos c7] at hE9
          refine tm_lload_n dX11_counts_55 rfl rfl ?_
          refine tm_lload_n dX11_counts_56 rfl rfl ?_
          refine tm_aload_n dX11_counts_57 rfl rfl ?_
          refine tm_get kX11 rfl (j := 34) (by decide) wfX11_92 dX11_counts_58 (v := tr 1234 0) rfl ?_
          refine tm_iload dX11_counts_61 rfl ?_
          obtain ⟨b8, hE9⟩ := chk_some hE9
          refine tm_lald rfl dX11_counts_63 (inb_vp b8) ?_
          obtain ⟨x9, hc10, hE9⟩ := obind_some hE9
          refine tm_callS (avs := [tl y3, tl (mL M 1234 0 (y5.toNatClampNeg))]) (st := [tl y3]) (okX11_divisor hc10) wcX11_248.1 wcX11_248.2.1 wcX11_248.2.2 ⟨rfl, rfl, Nat.le_of_ble_eq_true rfl, Nat.le_of_ble_eq_true rfl⟩ rfl (Nat.le_of_ble_eq_true rfl) ⟨Nat.zero_le _, Nat.zero_le _⟩ dX11_counts_64 ?_
          obtain ⟨b11, hE9⟩ := chk_some hE9
          refine tm_ldiv dX11_counts_67 (nz8_ne b11) ?_
          refine tm_aload_n dX11_counts_68 rfl rfl ?_
          refine tm_get kX11 rfl (j := 34) (by decide) wfX11_92 dX11_counts_69 (v := tr 1234 0) rfl ?_
          refine tm_iload dX11_counts_72 rfl ?_
          obtain ⟨b12, hE9⟩ := chk_some hE9
          refine tm_lald rfl dX11_counts_74 (inb_vp b12) ?_
          refine tm_lmul dX11_counts_75 ?_
          refine tm_goto (tgt := 80) dX11_counts_76 (by decide) ?_
          obtain rfl := Option.some.inj hE9
          refine tm_lcp [0, 1, 2, 5] rfl ?_
          exact J10
set_option maxHeartbeats 4000000 in
set_option maxRecDepth 100000 in
theorem okX11_counts_l9 {g : tG}  {r : Option tV} {Mz : tM} : ∀ (n : Nat) (y1 : Int32) (y2 : Int32) (M : tM) (w : Int32 × tM), fX11_counts_l9 n y1 y2 M = some w → (∀ (w1 : Int32) (Mw : tM), (w1, Mw) = w → TW g iX11_counts rmX11_counts 0 0 r Mz 0 0 183 [(0, tr 11 0), (1, ti w1)] [] Mw) → TW g iX11_counts rmX11_counts 0 0 r Mz 0 0 9 [(0, tr 11 0), (1, ti y1), (2, ti y2)] [] M := by
  intro n
  induction n with
  | zero => intro y1 y2 M w h; cases h
  | succ n ih =>
    intro y1 y2 M w h J
    rw [fX11_counts_l9] at h
    refine tm_iload_n dX11_counts_9 rfl rfl ?_
    refine tm_aload_n dX11_counts_10 rfl rfl ?_
    refine tm_get kX11 rfl (j := 2) (by decide) wfX11_202 dX11_counts_11 (v := ti (mI M 11 0 2)) rfl ?_
    refine tm_icmp_ge (tgt := 183) dX11_counts_14 (by decide) (fun c2 => ?_) (fun c2 => ?_)
    · rw [if_pos c2] at h
      obtain rfl := Option.some.inj h
      refine tm_lcp [0, 1] rfl ?_
      exact J _ _ rfl
    · rw [if_neg c2] at h
      refine tm_lconst (v := 1) dX11_counts_17 (by decide) ?_
      refine tm_lstore_n (lc' := [(3, tl 1), (0, tr 11 0), (1, ti y1), (2, ti y2)]) dX11_counts_18 rfl (by decide) rfl ?_
      refine tm_iconst (v := 0) dX11_counts_19 (by decide) ?_
      refine tm_istore (lc' := [(5, ti 0), (3, tl 1), (0, tr 11 0), (1, ti y1), (2, ti y2)]) dX11_counts_20 (by decide) rfl ?_
      obtain ⟨w14, hE15, h⟩ := obind_some h
      refine tm_lcp [0, 1, 2, 3, 5] rfl ?_
      refine okX11_counts_l22 y1 y2 M FU 1 0 _ hE15 (fun x16 e => ?_)
      subst e
      refine tm_lload_n dX11_counts_87 rfl rfl ?_
      refine tm_ldc2 (v := 1000) dX11_counts_88 wconstlX11_276 ?_
      refine tm_lcmp dX11_counts_91 ?_
      obtain ⟨x18, hE19, h⟩ := obind_some h
      have J20 : TW g iX11_counts rmX11_counts 0 0 r Mz 0 0 124 [(0, tr 11 0), (1, ti y1), (2, ti y2)] [tl x18] M := by
        refine tm_lstore (lc' := [(5, tl x18), (0, tr 11 0), (1, ti y1), (2, ti y2)]) dX11_counts_124 (by decide) rfl ?_
        refine tm_iload_n dX11_counts_126 rfl rfl ?_
        obtain ⟨x23, hE24, h⟩ := obind_some h
        have J25 : TW g iX11_counts rmX11_counts 0 0 r Mz 0 0 144 [(0, tr 11 0), (2, ti y2), (5, tl x18)] [ti x23] M := by
          refine tm_istore_n (lc' := [(1, ti x23), (0, tr 11 0), (2, ti y2), (5, tl x18)]) dX11_counts_144 rfl (by decide) rfl ?_
          refine tm_aload_n dX11_counts_145 rfl rfl ?_
          refine tm_get kX11 rfl (j := 35) (by decide) wfX11_95 dX11_counts_146 (v := tr 1235 0) rfl ?_
          refine tm_iload_n dX11_counts_149 rfl rfl ?_
          refine tm_iload_n dX11_counts_150 rfl rfl ?_
          obtain ⟨x27, hE28, h⟩ := obind_some h
          have J29 : TW g iX11_counts rmX11_counts 0 0 r Mz 0 0 161 [(0, tr 11 0), (1, ti x23), (2, ti y2)] [ti x27, ti y2, tr 1235 0] M := by
            obtain ⟨b30, h⟩ := chk_some h
            obtain ⟨M31, eM31, h⟩ := bnd_some h
            refine tm_iast rfl dX11_counts_161 (inb_vp b30) ?_
            refine tm_nmM eM31 ?_
            refine tm_aload_n dX11_counts_162 rfl rfl ?_
            refine tm_dup dX11_counts_163 rfl ?_
            refine tm_get kX11 rfl (j := 36) (by decide) wfX11_273 dX11_counts_164 (v := ti (mI M31 11 0 36)) rfl ?_
            refine tm_aload_n dX11_counts_167 rfl rfl ?_
            refine tm_get kX11 rfl (j := 35) (by decide) wfX11_95 dX11_counts_168 (v := tr 1235 0) rfl ?_
            refine tm_iload_n dX11_counts_171 rfl rfl ?_
            obtain ⟨b32, h⟩ := chk_some h
            refine tm_iald rfl dX11_counts_172 (inb_vp b32) ?_
            refine tm_iadd dX11_counts_173 ?_
            obtain ⟨M33, eM33, h⟩ := bnd_some h
            refine tm_put kX11 rfl (j := 36) (by decide) wfX11_273 rfl dX11_counts_174 (fun _ => ⟨rfl, rfl⟩) (tPut_I ((mI M31 11 0 36) + (mI M31 1235 0 (y2.toNatClampNeg))) rfl) ?_
            refine tm_nmM eM33 ?_
            obtain ⟨x34, ex34, h⟩ := bnd_some h
            refine tm_iinc (v := x34) (lc' := [(2, ti x34), (0, tr 11 0), (1, ti x23)]) dX11_counts_177 rfl (by rw [ex34]; rfl) (by decide) rfl ?_
            refine tm_goto (tgt := 9) dX11_counts_180 (by decide) ?_
            refine tm_lcp [0, 1, 2] rfl ?_
            exact ih x23 x34 M33 _ h J
          refine tm_if_eq (tgt := 160) dX11_counts_151 (by decide) (fun c26 => ?_) (fun c26 => ?_)
          · rw [if_pos c26] at hE28
            refine tm_iconst (v := 0) dX11_counts_160 (by decide) ?_
            obtain rfl := Option.some.inj hE28
            refine tm_lcp [0, 1, 2] rfl ?_
            exact J29
          · rw [if_neg c26] at hE28
            refine tm_lload dX11_counts_154 rfl ?_
            refine tm_l2i dX11_counts_156 ?_
            refine tm_goto (tgt := 161) dX11_counts_157 (by decide) ?_
            obtain rfl := Option.some.inj hE28
            refine tm_lcp [0, 1, 2] rfl ?_
            exact J29
        refine tm_if_eq (tgt := 143) dX11_counts_127 (by decide) (fun c22 => ?_) (fun c22 => ?_)
        · rw [if_pos c22] at hE24
          refine tm_iconst (v := 0) dX11_counts_143 (by decide) ?_
          obtain rfl := Option.some.inj hE24
          refine tm_lcp [0, 2, 5] rfl ?_
          exact J25
        · rw [if_neg c22] at hE24
          refine tm_lload dX11_counts_130 rfl ?_
          refine tm_ldc2 (v := 1000) dX11_counts_132 wconstlX11_276 ?_
          refine tm_lcmp dX11_counts_135 ?_
          refine tm_if_gt (tgt := 143) dX11_counts_136 (by decide) (fun c23 => ?_) (fun c23 => ?_)
          · rw [if_pos c23] at hE24
            refine tm_iconst (v := 0) dX11_counts_143 (by decide) ?_
            obtain rfl := Option.some.inj hE24
            refine tm_lcp [0, 2, 5] rfl ?_
            exact J25
          · rw [if_neg c23] at hE24
            refine tm_iconst (v := 1) dX11_counts_139 (by decide) ?_
            refine tm_goto (tgt := 144) dX11_counts_140 (by decide) ?_
            obtain rfl := Option.some.inj hE24
            refine tm_lcp [0, 2, 5] rfl ?_
            exact J25
      refine tm_if_gt (tgt := 121) dX11_counts_92 (by decide) (fun c17 => ?_) (fun c17 => ?_)
      · rw [if_pos c17] at hE19
        refine tm_ldc2 (v := 1001) dX11_counts_121 wconstlX11_278 ?_
        obtain rfl := Option.some.inj hE19
        refine tm_lcp [0, 1, 2] rfl ?_
        exact J20
      · rw [if_neg c17] at hE19
        refine tm_lload_n dX11_counts_95 rfl rfl ?_
        refine tm_aload_n dX11_counts_96 rfl rfl ?_
        refine tm_get kX11 rfl (j := 33) (by decide) wfX11_89 dX11_counts_97 (v := tr 1233 0) rfl ?_
        refine tm_iload_n dX11_counts_100 rfl rfl ?_
        obtain ⟨b18, hE19⟩ := chk_some hE19
        refine tm_lald rfl dX11_counts_101 (inb_vp b18) ?_
        refine tm_lmul dX11_counts_102 ?_
        refine tm_aload_n dX11_counts_103 rfl rfl ?_
        refine tm_get kX11 rfl (j := 34) (by decide) wfX11_92 dX11_counts_104 (v := tr 1234 0) rfl ?_
        refine tm_iload_n dX11_counts_107 rfl rfl ?_
        obtain ⟨b19, hE19⟩ := chk_some hE19
        refine tm_lald rfl dX11_counts_108 (inb_vp b19) ?_
        obtain ⟨b20, hE19⟩ := chk_some hE19
        refine tm_ldiv dX11_counts_109 (nz8_ne b20) ?_
        refine tm_aload_n dX11_counts_110 rfl rfl ?_
        refine tm_get kX11 rfl (j := 5) (by decide) wfX11_20 dX11_counts_111 (v := tr 1205 0) rfl ?_
        refine tm_iload_n dX11_counts_114 rfl rfl ?_
        obtain ⟨b21, hE19⟩ := chk_some hE19
        refine tm_iald rfl dX11_counts_115 (inb_vp b21) ?_
        refine tm_i2l dX11_counts_116 ?_
        refine tm_lmul dX11_counts_117 ?_
        refine tm_goto (tgt := 124) dX11_counts_118 (by decide) ?_
        obtain rfl := Option.some.inj hE19
        refine tm_lcp [0, 1, 2] rfl ?_
        exact J20
set_option maxHeartbeats 4000000 in
set_option maxRecDepth 100000 in
theorem okX11_counts {g : tG}  {M : tM} {v : Int32} {Mz : tM} (h : fX11_counts  M = some ((v, Mz))) : TMet g yX11_counts (Cond.code yX11_counts cX11_counts 7 (some .int) :: tgd) rmX11_counts [tr 11 0] M (some (ti v)) Mz 0 0 := by
  have key : TW g iX11_counts rmX11_counts 0 0 (some (ti v)) Mz 0 0 0 [(0, tr 11 0)] [] M := by
    rw [fX11_counts] at h
    refine tm_aload_n dX11_counts_0 rfl rfl ?_
    refine tm_iconst (v := 0) dX11_counts_1 (by decide) ?_
    obtain ⟨M1, eM1, h⟩ := bnd_some h
    refine tm_put kX11 rfl (j := 36) (by decide) wfX11_273 rfl dX11_counts_2 (fun _ => ⟨rfl, rfl⟩) (tPut_I 0 rfl) ?_
    refine tm_nmM eM1 ?_
    refine tm_iconst (v := 1) dX11_counts_5 (by decide) ?_
    refine tm_istore_n (lc' := [(1, ti 1), (0, tr 11 0)]) dX11_counts_6 rfl (by decide) rfl ?_
    refine tm_iconst (v := 0) dX11_counts_7 (by decide) ?_
    refine tm_istore_n (lc' := [(2, ti 0), (1, ti 1), (0, tr 11 0)]) dX11_counts_8 rfl (by decide) rfl ?_
    obtain ⟨w35, hE36, h⟩ := obind_some h
    refine tm_lcp [0, 1, 2] rfl ?_
    refine okX11_counts_l9  FU 1 0 M1 _ hE36 (fun x37 M38 e => ?_)
    subst e
    dsimp only at h
    refine tm_iload_n dX11_counts_183 rfl rfl ?_
    refine tm_if_eq (tgt := 201) dX11_counts_184 (by decide) (fun c39 => ?_) (fun c39 => ?_)
    · rw [if_pos c39] at h
      refine tm_bipush (v := (-6)) dX11_counts_201 (by decide) ?_
      obtain ⟨rfl, rfl⟩ := pj2 h
      exact tm_iret rfl dX11_counts_203
    · rw [if_neg c39] at h
      refine tm_aload_n dX11_counts_187 rfl rfl ?_
      refine tm_get kX11 rfl (j := 36) (by decide) wfX11_273 dX11_counts_188 (v := ti (mI M38 11 0 36)) rfl ?_
      refine tm_sipush (v := 2000) dX11_counts_191 (by decide) ?_
      refine tm_icmp_gt (tgt := 201) dX11_counts_194 (by decide) (fun c40 => ?_) (fun c40 => ?_)
      · rw [if_pos c40] at h
        refine tm_bipush (v := (-6)) dX11_counts_201 (by decide) ?_
        obtain ⟨rfl, rfl⟩ := pj2 h
        exact tm_iret rfl dX11_counts_203
      · rw [if_neg c40] at h
        refine tm_iconst (v := 1) dX11_counts_197 (by decide) ?_
        refine tm_goto (tgt := 203) dX11_counts_198 (by decide) ?_
        obtain ⟨rfl, rfl⟩ := pj2 h
        exact tm_iret rfl dX11_counts_203
  exact TMet.of (by decide) (Nat.le_of_ble_eq_true rfl) key
theorem wcX11_261 : tCB RX11 261 yX11_sum cX11_sum 6 (some .int) 3 ∧ Cond.methodLink RX11 261 yX11_sum ∈ tgd ∧ Cond.instanceMethod yX11_sum ∈ tgd ∧ Cond.selects RX11 yX11_sum yX11_sum ∈ tgd := ⟨⟨(tgd_t 1554 (by decide +kernel) (by decide +kernel)), (tgd_t 10 (by decide +kernel) (by decide +kernel)), by decide, by decide +kernel⟩, (tgd_t 1551 (by decide +kernel) (by decide +kernel)), (tgd_t 1553 (by decide +kernel) (by decide +kernel)), (tgd_p 63 (by decide +kernel) (by decide +kernel))⟩
theorem wcX11_265 : tCB RX11 265 yX11_isTied cX11_isTied 22 (some .boolean) 4 ∧ Cond.methodLink RX11 265 yX11_isTied ∈ tgd ∧ Cond.instanceMethod yX11_isTied ∈ tgd ∧ Cond.selects RX11 yX11_isTied yX11_isTied ∈ tgd := ⟨⟨(tgd_t 1558 (by decide +kernel) (by decide +kernel)), (tgd_t 10 (by decide +kernel) (by decide +kernel)), by decide, by decide +kernel⟩, (tgd_t 1555 (by decide +kernel) (by decide +kernel)), (tgd_t 1557 (by decide +kernel) (by decide +kernel)), (tgd_p 64 (by decide +kernel) (by decide +kernel))⟩
theorem wcX11_269 : tCB RX11 269 yX11_counts cX11_counts 7 (some .int) 0 ∧ Cond.methodLink RX11 269 yX11_counts ∈ tgd ∧ Cond.instanceMethod yX11_counts ∈ tgd ∧ Cond.selects RX11 yX11_counts yX11_counts ∈ tgd := ⟨⟨(tgd_t 1570 (by decide +kernel) (by decide +kernel)), (tgd_t 10 (by decide +kernel) (by decide +kernel)), by decide, by decide +kernel⟩, (tgd_t 1567 (by decide +kernel) (by decide +kernel)), (tgd_t 1569 (by decide +kernel) (by decide +kernel)), (tgd_p 66 (by decide +kernel) (by decide +kernel))⟩
theorem wfX11_258 : Cond.fieldLink RX11 258 "EvenFlowModel" "unevenAt" "I" ∈ tgd := (tgd_t 1262 (by decide +kernel) (by decide +kernel))
abbrev iX11_balance : tY := (RX11, cX11_balance, 7, some .int, "balance")
abbrev rmX11_balance : Room := { frames := 3, cells := 0, slots := 0, locals := 98 }
def fX11_balance_l8  : Nat → Int32 → tM → Option (tM)
  | 0, _, _ => none
  | n + 1, y1, M =>
    if (mI M 11 0 2) ≤ y1 then (
    some M
    ) else (
    chk (inb y1 (mN M 1232 0)) <|
    bnd (sI M 1232 0 (y1.toNatClampNeg) y1) fun M4 =>
    chk (inb y1 (mN M4 1233 0)) <|
    bnd (sL M4 1233 0 (y1.toNatClampNeg) 1) fun M6 =>
    chk (inb y1 (mN M6 1234 0)) <|
    bnd (sL M6 1234 0 (y1.toNatClampNeg) 1) fun M8 =>
    bnd (y1 + 1) fun x9 =>
    fX11_balance_l8 n x9 M8
    )
def fX11_balance_l45  : Nat → Int32 → tM → Option ((Int32 × tM) ⊕ (tM))
  | 0, _, _ => none
  | n + 1, y1, M =>
    if (mI M 11 0 12) ≤ y1 then (
    some (Sum.inr M)
    ) else (
    chk (inb y1 (mN M 1213 0)) <|
    bnd (mI M 1213 0 (y1.toNatClampNeg)) fun x15 =>
    chk (inb y1 (mN M 1214 0)) <|
    bnd (mI M 1214 0 (y1.toNatClampNeg)) fun x17 =>
    (fX11_sum 1215 0 y1 x15 M).bind fun x18 =>
    (fX11_sum 1216 0 y1 x17 M).bind fun x20 =>
    if x18 = 0 then (
    if x20 = 0 then (
    bnd (y1 + 1) fun x106 =>
    fX11_balance_l45 n x106 M
    ) else (
    Option.bind (α := Int32) (
    if x18 ≤ 0 then (
    some 0
    ) else (
    if x20 ≤ 0 then (
    some 0
    ) else (
    some 1
    )
    )
    ) fun x66 =>
    if x66 = 0 then (
    if x66 = 0 then (
    if x66 = 0 then (
    bnd (sI M 11 0 37 y1) fun M73 =>
    some (Sum.inl (((-9), M73)))
    ) else (
    bnd (y1 + 1) fun x72 =>
    fX11_balance_l45 n x72 M
    )
    ) else (
    (fX11_isTied x15 x18 x17 x20 M).bind fun (x74, M76) =>
    if x74 = 0 then (
    some (Sum.inl (((-6), M76)))
    ) else (
    if x66 = 0 then (
    bnd (sI M76 11 0 37 y1) fun M80 =>
    some (Sum.inl (((-9), M80)))
    ) else (
    bnd (y1 + 1) fun x79 =>
    fX11_balance_l45 n x79 M76
    )
    )
    )
    ) else (
    chk (inb x15 (mN M 1232 0)) <|
    chk (inb x17 (mN M 1232 0)) <|
    if (mI M 1232 0 (x15.toNatClampNeg)) = (mI M 1232 0 (x17.toNatClampNeg)) then (
    chk (inb x15 (mN M 1233 0)) <|
    chk (inb x17 (mN M 1234 0)) <|
    chk (inb x17 (mN M 1233 0)) <|
    chk (inb x15 (mN M 1234 0)) <|
    Option.bind (α := Int32) (
    if (lg_cmp (((mL M 1233 0 (x15.toNatClampNeg)) * (x18.toInt64)) * (mL M 1234 0 (x17.toNatClampNeg))) (((mL M 1233 0 (x17.toNatClampNeg)) * (x20.toInt64)) * (mL M 1234 0 (x15.toNatClampNeg)))) = 0 then (
    some 1
    ) else (
    some 0
    )
    ) fun x100 =>
    if x100 = 0 then (
    bnd (sI M 11 0 37 y1) fun M105 =>
    some (Sum.inl (((-9), M105)))
    ) else (
    bnd (y1 + 1) fun x104 =>
    fX11_balance_l45 n x104 M
    )
    ) else (
    if x66 = 0 then (
    if x66 = 0 then (
    bnd (sI M 11 0 37 y1) fun M87 =>
    some (Sum.inl (((-9), M87)))
    ) else (
    bnd (y1 + 1) fun x86 =>
    fX11_balance_l45 n x86 M
    )
    ) else (
    (fX11_isTied x15 x18 x17 x20 M).bind fun (x88, M90) =>
    if x88 = 0 then (
    some (Sum.inl (((-6), M90)))
    ) else (
    if x66 = 0 then (
    bnd (sI M90 11 0 37 y1) fun M94 =>
    some (Sum.inl (((-9), M94)))
    ) else (
    bnd (y1 + 1) fun x93 =>
    fX11_balance_l45 n x93 M90
    )
    )
    )
    )
    )
    )
    ) else (
    Option.bind (α := Int32) (
    if x18 ≤ 0 then (
    some 0
    ) else (
    if x20 ≤ 0 then (
    some 0
    ) else (
    some 1
    )
    )
    ) fun x24 =>
    if x24 = 0 then (
    if x24 = 0 then (
    if x24 = 0 then (
    bnd (sI M 11 0 37 y1) fun M31 =>
    some (Sum.inl (((-9), M31)))
    ) else (
    bnd (y1 + 1) fun x30 =>
    fX11_balance_l45 n x30 M
    )
    ) else (
    (fX11_isTied x15 x18 x17 x20 M).bind fun (x32, M34) =>
    if x32 = 0 then (
    some (Sum.inl (((-6), M34)))
    ) else (
    if x24 = 0 then (
    bnd (sI M34 11 0 37 y1) fun M38 =>
    some (Sum.inl (((-9), M38)))
    ) else (
    bnd (y1 + 1) fun x37 =>
    fX11_balance_l45 n x37 M34
    )
    )
    )
    ) else (
    chk (inb x15 (mN M 1232 0)) <|
    chk (inb x17 (mN M 1232 0)) <|
    if (mI M 1232 0 (x15.toNatClampNeg)) = (mI M 1232 0 (x17.toNatClampNeg)) then (
    chk (inb x15 (mN M 1233 0)) <|
    chk (inb x17 (mN M 1234 0)) <|
    chk (inb x17 (mN M 1233 0)) <|
    chk (inb x15 (mN M 1234 0)) <|
    Option.bind (α := Int32) (
    if (lg_cmp (((mL M 1233 0 (x15.toNatClampNeg)) * (x18.toInt64)) * (mL M 1234 0 (x17.toNatClampNeg))) (((mL M 1233 0 (x17.toNatClampNeg)) * (x20.toInt64)) * (mL M 1234 0 (x15.toNatClampNeg)))) = 0 then (
    some 1
    ) else (
    some 0
    )
    ) fun x58 =>
    if x58 = 0 then (
    bnd (sI M 11 0 37 y1) fun M63 =>
    some (Sum.inl (((-9), M63)))
    ) else (
    bnd (y1 + 1) fun x62 =>
    fX11_balance_l45 n x62 M
    )
    ) else (
    if x24 = 0 then (
    if x24 = 0 then (
    bnd (sI M 11 0 37 y1) fun M45 =>
    some (Sum.inl (((-9), M45)))
    ) else (
    bnd (y1 + 1) fun x44 =>
    fX11_balance_l45 n x44 M
    )
    ) else (
    (fX11_isTied x15 x18 x17 x20 M).bind fun (x46, M48) =>
    if x46 = 0 then (
    some (Sum.inl (((-6), M48)))
    ) else (
    if x24 = 0 then (
    bnd (sI M48 11 0 37 y1) fun M52 =>
    some (Sum.inl (((-9), M52)))
    ) else (
    bnd (y1 + 1) fun x51 =>
    fX11_balance_l45 n x51 M48
    )
    )
    )
    )
    )
    )
    )
def fX11_balance  (M : tM) : Option (Int32 × tM) :=
  bnd (sI M 11 0 37 (-9)) fun M1 =>
  Option.bind (fX11_balance_l8 FU 0 M1) fun M12 =>
  Option.bind (fX11_balance_l45 FU 0 M12) fun w107 => match w107 with
  | Sum.inl q113 => some q113
  | Sum.inr M109 =>
    (fX11_counts M109).bind fun (x110, M112) =>
    some ((x110, M112))
set_option maxHeartbeats 4000000 in
set_option maxRecDepth 100000 in
theorem okX11_balance_l8 {g : tG}  {r : Option tV} {Mz : tM} : ∀ (n : Nat) (y1 : Int32) (M : tM) (w : tM), fX11_balance_l8 n y1 M = some w → (∀ (Mw : tM), Mw = w → TW g iX11_balance rmX11_balance 0 0 r Mz 0 0 43 [(0, tr 11 0)] [] Mw) → TW g iX11_balance rmX11_balance 0 0 r Mz 0 0 8 [(0, tr 11 0), (1, ti y1)] [] M := by
  intro n
  induction n with
  | zero => intro y1 M w h; cases h
  | succ n ih =>
    intro y1 M w h J
    rw [fX11_balance_l8] at h
    refine tm_iload_n dX11_balance_8 rfl rfl ?_
    refine tm_aload_n dX11_balance_9 rfl rfl ?_
    refine tm_get kX11 rfl (j := 2) (by decide) wfX11_202 dX11_balance_10 (v := ti (mI M 11 0 2)) rfl ?_
    refine tm_icmp_ge (tgt := 43) dX11_balance_13 (by decide) (fun c2 => ?_) (fun c2 => ?_)
    · rw [if_pos c2] at h
      obtain rfl := Option.some.inj h
      refine tm_lcp [0] rfl ?_
      exact J _ rfl
    · rw [if_neg c2] at h
      refine tm_aload_n dX11_balance_16 rfl rfl ?_
      refine tm_get kX11 rfl (j := 32) (by decide) wfX11_86 dX11_balance_17 (v := tr 1232 0) rfl ?_
      refine tm_iload_n dX11_balance_20 rfl rfl ?_
      refine tm_iload_n dX11_balance_21 rfl rfl ?_
      obtain ⟨b3, h⟩ := chk_some h
      obtain ⟨M4, eM4, h⟩ := bnd_some h
      refine tm_iast rfl dX11_balance_22 (inb_vp b3) ?_
      refine tm_nmM eM4 ?_
      refine tm_aload_n dX11_balance_23 rfl rfl ?_
      refine tm_get kX11 rfl (j := 33) (by decide) wfX11_89 dX11_balance_24 (v := tr 1233 0) rfl ?_
      refine tm_iload_n dX11_balance_27 rfl rfl ?_
      refine tm_lconst (v := 1) dX11_balance_28 (by decide) ?_
      obtain ⟨b5, h⟩ := chk_some h
      obtain ⟨M6, eM6, h⟩ := bnd_some h
      refine tm_last rfl dX11_balance_29 (inb_vp b5) ?_
      refine tm_nmM eM6 ?_
      refine tm_aload_n dX11_balance_30 rfl rfl ?_
      refine tm_get kX11 rfl (j := 34) (by decide) wfX11_92 dX11_balance_31 (v := tr 1234 0) rfl ?_
      refine tm_iload_n dX11_balance_34 rfl rfl ?_
      refine tm_lconst (v := 1) dX11_balance_35 (by decide) ?_
      obtain ⟨b7, h⟩ := chk_some h
      obtain ⟨M8, eM8, h⟩ := bnd_some h
      refine tm_last rfl dX11_balance_36 (inb_vp b7) ?_
      refine tm_nmM eM8 ?_
      obtain ⟨x9, ex9, h⟩ := bnd_some h
      refine tm_iinc (v := x9) (lc' := [(1, ti x9), (0, tr 11 0)]) dX11_balance_37 rfl (by rw [ex9]; rfl) (by decide) rfl ?_
      refine tm_goto (tgt := 8) dX11_balance_40 (by decide) ?_
      refine tm_lcp [0, 1] rfl ?_
      exact ih x9 M8 _ h J
set_option maxHeartbeats 4000000 in
set_option maxRecDepth 100000 in
theorem okX11_balance_l45 {g : tG}  {r : Option tV} {Mz : tM} : ∀ (n : Nat) (y1 : Int32) (M : tM) (w : (Int32 × tM) ⊕ (tM)), fX11_balance_l45 n y1 M = some w → (∀ (Mw : tM), Sum.inr Mw = w → TW g iX11_balance rmX11_balance 0 0 r Mz 0 0 229 [(0, tr 11 0)] [] Mw) → (∀ (v : Int32) (Mv : tM), Sum.inl ((v, Mv)) = w → r = (some (ti v)) ∧ Mz = Mv) → TW g iX11_balance rmX11_balance 0 0 r Mz 0 0 45 [(0, tr 11 0), (1, ti y1)] [] M := by
  intro n
  induction n with
  | zero => intro y1 M w h; cases h
  | succ n ih =>
    intro y1 M w h J JR
    rw [fX11_balance_l45] at h
    refine tm_iload_n dX11_balance_45 rfl rfl ?_
    refine tm_aload_n dX11_balance_46 rfl rfl ?_
    refine tm_get kX11 rfl (j := 12) (by decide) wfX11_209 dX11_balance_47 (v := ti (mI M 11 0 12)) rfl ?_
    refine tm_icmp_ge (tgt := 229) dX11_balance_50 (by decide) (fun c13 => ?_) (fun c13 => ?_)
    · rw [if_pos c13] at h
      obtain rfl := Option.some.inj h
      refine tm_lcp [0] rfl ?_
      exact J _ rfl
    · rw [if_neg c13] at h
      refine tm_aload_n dX11_balance_53 rfl rfl ?_
      refine tm_get kX11 rfl (j := 13) (by decide) wfX11_41 dX11_balance_54 (v := tr 1213 0) rfl ?_
      refine tm_iload_n dX11_balance_57 rfl rfl ?_
      obtain ⟨b14, h⟩ := chk_some h
      refine tm_iald rfl dX11_balance_58 (inb_vp b14) ?_
      obtain ⟨x15, ex15, h⟩ := bnd_some h
      refine tm_nmI ex15 ?_
      refine tm_istore_n (lc' := [(2, ti x15), (0, tr 11 0), (1, ti y1)]) dX11_balance_59 rfl (by decide) rfl ?_
      refine tm_aload_n dX11_balance_60 rfl rfl ?_
      refine tm_get kX11 rfl (j := 14) (by decide) wfX11_44 dX11_balance_61 (v := tr 1214 0) rfl ?_
      refine tm_iload_n dX11_balance_64 rfl rfl ?_
      obtain ⟨b16, h⟩ := chk_some h
      refine tm_iald rfl dX11_balance_65 (inb_vp b16) ?_
      obtain ⟨x17, ex17, h⟩ := bnd_some h
      refine tm_nmI ex17 ?_
      refine tm_istore_n (lc' := [(3, ti x17), (2, ti x15), (0, tr 11 0), (1, ti y1)]) dX11_balance_66 rfl (by decide) rfl ?_
      refine tm_aload_n dX11_balance_67 rfl rfl ?_
      refine tm_aload_n dX11_balance_68 rfl rfl ?_
      refine tm_get kX11 rfl (j := 15) (by decide) wfX11_47 dX11_balance_69 (v := tr 1215 0) rfl ?_
      refine tm_iload_n dX11_balance_72 rfl rfl ?_
      refine tm_iload_n dX11_balance_73 rfl rfl ?_
      obtain ⟨x18, hc19, h⟩ := obind_some h
      refine tm_callV kX11 rfl (avs := [tr 1215 0, ti y1, ti x15]) (st := []) (okX11_sum hc19) wcX11_261.1 wcX11_261.2.1 wcX11_261.2.2.1 wcX11_261.2.2.2 ⟨rfl, rfl, Nat.le_of_ble_eq_true rfl, Nat.le_of_ble_eq_true rfl⟩ rfl (Nat.le_of_ble_eq_true rfl) ⟨Nat.zero_le _, Nat.zero_le _⟩ dX11_balance_74 ?_
      refine tm_istore (lc' := [(4, ti x18), (3, ti x17), (2, ti x15), (0, tr 11 0), (1, ti y1)]) dX11_balance_77 (by decide) rfl ?_
      refine tm_aload_n dX11_balance_79 rfl rfl ?_
      refine tm_aload_n dX11_balance_80 rfl rfl ?_
      refine tm_get kX11 rfl (j := 16) (by decide) wfX11_50 dX11_balance_81 (v := tr 1216 0) rfl ?_
      refine tm_iload_n dX11_balance_84 rfl rfl ?_
      refine tm_iload_n dX11_balance_85 rfl rfl ?_
      obtain ⟨x20, hc21, h⟩ := obind_some h
      refine tm_callV kX11 rfl (avs := [tr 1216 0, ti y1, ti x17]) (st := []) (okX11_sum hc21) wcX11_261.1 wcX11_261.2.1 wcX11_261.2.2.1 wcX11_261.2.2.2 ⟨rfl, rfl, Nat.le_of_ble_eq_true rfl, Nat.le_of_ble_eq_true rfl⟩ rfl (Nat.le_of_ble_eq_true rfl) ⟨Nat.zero_le _, Nat.zero_le _⟩ dX11_balance_86 ?_
      refine tm_istore (lc' := [(5, ti x20), (4, ti x18), (3, ti x17), (2, ti x15), (0, tr 11 0), (1, ti y1)]) dX11_balance_89 (by decide) rfl ?_
      refine tm_iload dX11_balance_91 rfl ?_
      refine tm_if_ne (tgt := 104) dX11_balance_93 (by decide) (fun c22 => ?_) (fun c22 => ?_)
      · rw [if_neg c22] at h
        refine tm_iload dX11_balance_104 rfl ?_
        obtain ⟨x24, hE25, h⟩ := obind_some h
        have J26 : TW g iX11_balance rmX11_balance 0 0 r Mz 0 0 119 [(0, tr 11 0), (1, ti y1), (2, ti x15), (3, ti x17), (4, ti x18), (5, ti x20)] [ti x24] M := by
          refine tm_istore (lc' := [(6, ti x24), (0, tr 11 0), (1, ti y1), (2, ti x15), (3, ti x17), (4, ti x18), (5, ti x20)]) dX11_balance_119 (by decide) rfl ?_
          refine tm_iload dX11_balance_121 rfl ?_
          refine tm_if_eq (tgt := 189) dX11_balance_123 (by decide) (fun c27 => ?_) (fun c27 => ?_)
          · rw [if_pos c27] at h
            refine tm_iload dX11_balance_189 rfl ?_
            refine tm_if_eq (tgt := 210) dX11_balance_191 (by decide) (fun c28 => ?_) (fun c28 => ?_)
            · rw [if_pos c28] at h
              refine tm_iload dX11_balance_210 rfl ?_
              refine tm_if_ne (tgt := 223) dX11_balance_212 (by decide) (fun c29 => ?_) (fun c29 => ?_)
              · rw [if_neg c29] at h
                obtain ⟨x30, ex30, h⟩ := bnd_some h
                refine tm_iinc (v := x30) (lc' := [(1, ti x30), (6, ti x24), (0, tr 11 0), (2, ti x15), (3, ti x17), (4, ti x18), (5, ti x20)]) dX11_balance_223 rfl (by rw [ex30]; rfl) (by decide) rfl ?_
                refine tm_goto (tgt := 45) dX11_balance_226 (by decide) ?_
                refine tm_lcp [0, 1] rfl ?_
                exact ih x30 M _ h J JR
              · rw [if_pos c29] at h
                refine tm_aload_n dX11_balance_215 rfl rfl ?_
                refine tm_iload_n dX11_balance_216 rfl rfl ?_
                obtain ⟨M31, eM31, h⟩ := bnd_some h
                refine tm_put kX11 rfl (j := 37) (by decide) wfX11_258 rfl dX11_balance_217 (fun _ => ⟨rfl, rfl⟩) (tPut_I y1 rfl) ?_
                refine tm_nmM eM31 ?_
                refine tm_bipush (v := (-9)) dX11_balance_220 (by decide) ?_
                obtain rfl := Option.some.inj h
                obtain ⟨rfl, rfl⟩ := JR _ _ rfl
                exact tm_iret rfl dX11_balance_222
            · rw [if_neg c28] at h
              refine tm_aload_n dX11_balance_194 rfl rfl ?_
              refine tm_iload_n dX11_balance_195 rfl rfl ?_
              refine tm_iload dX11_balance_196 rfl ?_
              refine tm_iload_n dX11_balance_198 rfl rfl ?_
              refine tm_iload dX11_balance_199 rfl ?_
              obtain ⟨⟨x32, M34⟩, hc33, h⟩ := obind_some h
              dsimp only at h
              refine tm_callV kX11 rfl (avs := [ti x15, ti x18, ti x17, ti x20]) (st := []) (okX11_isTied hc33) wcX11_265.1 wcX11_265.2.1 wcX11_265.2.2.1 wcX11_265.2.2.2 ⟨rfl, rfl, Nat.le_of_ble_eq_true rfl, Nat.le_of_ble_eq_true rfl⟩ rfl (Nat.le_of_ble_eq_true rfl) ⟨Nat.zero_le _, Nat.zero_le _⟩ dX11_balance_201 ?_
              refine tm_if_ne (tgt := 210) dX11_balance_204 (by decide) (fun c35 => ?_) (fun c35 => ?_)
              · rw [if_neg c35] at h
                refine tm_iload dX11_balance_210 rfl ?_
                refine tm_if_ne (tgt := 223) dX11_balance_212 (by decide) (fun c36 => ?_) (fun c36 => ?_)
                · rw [if_neg c36] at h
                  obtain ⟨x37, ex37, h⟩ := bnd_some h
                  refine tm_iinc (v := x37) (lc' := [(1, ti x37), (6, ti x24), (0, tr 11 0), (2, ti x15), (3, ti x17), (4, ti x18), (5, ti x20)]) dX11_balance_223 rfl (by rw [ex37]; rfl) (by decide) rfl ?_
                  refine tm_goto (tgt := 45) dX11_balance_226 (by decide) ?_
                  refine tm_lcp [0, 1] rfl ?_
                  exact ih x37 M34 _ h J JR
                · rw [if_pos c36] at h
                  refine tm_aload_n dX11_balance_215 rfl rfl ?_
                  refine tm_iload_n dX11_balance_216 rfl rfl ?_
                  obtain ⟨M38, eM38, h⟩ := bnd_some h
                  refine tm_put kX11 rfl (j := 37) (by decide) wfX11_258 rfl dX11_balance_217 (fun _ => ⟨rfl, rfl⟩) (tPut_I y1 rfl) ?_
                  refine tm_nmM eM38 ?_
                  refine tm_bipush (v := (-9)) dX11_balance_220 (by decide) ?_
                  obtain rfl := Option.some.inj h
                  obtain ⟨rfl, rfl⟩ := JR _ _ rfl
                  exact tm_iret rfl dX11_balance_222
              · rw [if_pos c35] at h
                refine tm_bipush (v := (-6)) dX11_balance_207 (by decide) ?_
                obtain rfl := Option.some.inj h
                obtain ⟨rfl, rfl⟩ := JR _ _ rfl
                exact tm_iret rfl dX11_balance_209
          · rw [if_neg c27] at h
            refine tm_aload_n dX11_balance_126 rfl rfl ?_
            refine tm_get kX11 rfl (j := 32) (by decide) wfX11_86 dX11_balance_127 (v := tr 1232 0) rfl ?_
            refine tm_iload_n dX11_balance_130 rfl rfl ?_
            obtain ⟨b39, h⟩ := chk_some h
            refine tm_iald rfl dX11_balance_131 (inb_vp b39) ?_
            refine tm_aload_n dX11_balance_132 rfl rfl ?_
            refine tm_get kX11 rfl (j := 32) (by decide) wfX11_86 dX11_balance_133 (v := tr 1232 0) rfl ?_
            refine tm_iload_n dX11_balance_136 rfl rfl ?_
            obtain ⟨b40, h⟩ := chk_some h
            refine tm_iald rfl dX11_balance_137 (inb_vp b40) ?_
            refine tm_icmp_ne (tgt := 189) dX11_balance_138 (by decide) (fun c41 => ?_) (fun c41 => ?_)
            · rw [if_neg c41] at h
              refine tm_iload dX11_balance_189 rfl ?_
              refine tm_if_eq (tgt := 210) dX11_balance_191 (by decide) (fun c42 => ?_) (fun c42 => ?_)
              · rw [if_pos c42] at h
                refine tm_iload dX11_balance_210 rfl ?_
                refine tm_if_ne (tgt := 223) dX11_balance_212 (by decide) (fun c43 => ?_) (fun c43 => ?_)
                · rw [if_neg c43] at h
                  obtain ⟨x44, ex44, h⟩ := bnd_some h
                  refine tm_iinc (v := x44) (lc' := [(1, ti x44), (6, ti x24), (0, tr 11 0), (2, ti x15), (3, ti x17), (4, ti x18), (5, ti x20)]) dX11_balance_223 rfl (by rw [ex44]; rfl) (by decide) rfl ?_
                  refine tm_goto (tgt := 45) dX11_balance_226 (by decide) ?_
                  refine tm_lcp [0, 1] rfl ?_
                  exact ih x44 M _ h J JR
                · rw [if_pos c43] at h
                  refine tm_aload_n dX11_balance_215 rfl rfl ?_
                  refine tm_iload_n dX11_balance_216 rfl rfl ?_
                  obtain ⟨M45, eM45, h⟩ := bnd_some h
                  refine tm_put kX11 rfl (j := 37) (by decide) wfX11_258 rfl dX11_balance_217 (fun _ => ⟨rfl, rfl⟩) (tPut_I y1 rfl) ?_
                  refine tm_nmM eM45 ?_
                  refine tm_bipush (v := (-9)) dX11_balance_220 (by decide) ?_
                  obtain rfl := Option.some.inj h
                  obtain ⟨rfl, rfl⟩ := JR _ _ rfl
                  exact tm_iret rfl dX11_balance_222
              · rw [if_neg c42] at h
                refine tm_aload_n dX11_balance_194 rfl rfl ?_
                refine tm_iload_n dX11_balance_195 rfl rfl ?_
                refine tm_iload dX11_balance_196 rfl ?_
                refine tm_iload_n dX11_balance_198 rfl rfl ?_
                refine tm_iload dX11_balance_199 rfl ?_
                obtain ⟨⟨x46, M48⟩, hc47, h⟩ := obind_some h
                dsimp only at h
                refine tm_callV kX11 rfl (avs := [ti x15, ti x18, ti x17, ti x20]) (st := []) (okX11_isTied hc47) wcX11_265.1 wcX11_265.2.1 wcX11_265.2.2.1 wcX11_265.2.2.2 ⟨rfl, rfl, Nat.le_of_ble_eq_true rfl, Nat.le_of_ble_eq_true rfl⟩ rfl (Nat.le_of_ble_eq_true rfl) ⟨Nat.zero_le _, Nat.zero_le _⟩ dX11_balance_201 ?_
                refine tm_if_ne (tgt := 210) dX11_balance_204 (by decide) (fun c49 => ?_) (fun c49 => ?_)
                · rw [if_neg c49] at h
                  refine tm_iload dX11_balance_210 rfl ?_
                  refine tm_if_ne (tgt := 223) dX11_balance_212 (by decide) (fun c50 => ?_) (fun c50 => ?_)
                  · rw [if_neg c50] at h
                    obtain ⟨x51, ex51, h⟩ := bnd_some h
                    refine tm_iinc (v := x51) (lc' := [(1, ti x51), (6, ti x24), (0, tr 11 0), (2, ti x15), (3, ti x17), (4, ti x18), (5, ti x20)]) dX11_balance_223 rfl (by rw [ex51]; rfl) (by decide) rfl ?_
                    refine tm_goto (tgt := 45) dX11_balance_226 (by decide) ?_
                    refine tm_lcp [0, 1] rfl ?_
                    exact ih x51 M48 _ h J JR
                  · rw [if_pos c50] at h
                    refine tm_aload_n dX11_balance_215 rfl rfl ?_
                    refine tm_iload_n dX11_balance_216 rfl rfl ?_
                    obtain ⟨M52, eM52, h⟩ := bnd_some h
                    refine tm_put kX11 rfl (j := 37) (by decide) wfX11_258 rfl dX11_balance_217 (fun _ => ⟨rfl, rfl⟩) (tPut_I y1 rfl) ?_
                    refine tm_nmM eM52 ?_
                    refine tm_bipush (v := (-9)) dX11_balance_220 (by decide) ?_
                    obtain rfl := Option.some.inj h
                    obtain ⟨rfl, rfl⟩ := JR _ _ rfl
                    exact tm_iret rfl dX11_balance_222
                · rw [if_pos c49] at h
                  refine tm_bipush (v := (-6)) dX11_balance_207 (by decide) ?_
                  obtain rfl := Option.some.inj h
                  obtain ⟨rfl, rfl⟩ := JR _ _ rfl
                  exact tm_iret rfl dX11_balance_209
            · rw [if_pos c41] at h
              refine tm_aload_n dX11_balance_141 rfl rfl ?_
              refine tm_get kX11 rfl (j := 33) (by decide) wfX11_89 dX11_balance_142 (v := tr 1233 0) rfl ?_
              refine tm_iload_n dX11_balance_145 rfl rfl ?_
              obtain ⟨b53, h⟩ := chk_some h
              refine tm_lald rfl dX11_balance_146 (inb_vp b53) ?_
              refine tm_iload dX11_balance_147 rfl ?_
              refine tm_i2l dX11_balance_149 ?_
              refine tm_lmul dX11_balance_150 ?_
              refine tm_aload_n dX11_balance_151 rfl rfl ?_
              refine tm_get kX11 rfl (j := 34) (by decide) wfX11_92 dX11_balance_152 (v := tr 1234 0) rfl ?_
              refine tm_iload_n dX11_balance_155 rfl rfl ?_
              obtain ⟨b54, h⟩ := chk_some h
              refine tm_lald rfl dX11_balance_156 (inb_vp b54) ?_
              refine tm_lmul dX11_balance_157 ?_
              refine tm_aload_n dX11_balance_158 rfl rfl ?_
              refine tm_get kX11 rfl (j := 33) (by decide) wfX11_89 dX11_balance_159 (v := tr 1233 0) rfl ?_
              refine tm_iload_n dX11_balance_162 rfl rfl ?_
              obtain ⟨b55, h⟩ := chk_some h
              refine tm_lald rfl dX11_balance_163 (inb_vp b55) ?_
              refine tm_iload dX11_balance_164 rfl ?_
              refine tm_i2l dX11_balance_166 ?_
              refine tm_lmul dX11_balance_167 ?_
              refine tm_aload_n dX11_balance_168 rfl rfl ?_
              refine tm_get kX11 rfl (j := 34) (by decide) wfX11_92 dX11_balance_169 (v := tr 1234 0) rfl ?_
              refine tm_iload_n dX11_balance_172 rfl rfl ?_
              obtain ⟨b56, h⟩ := chk_some h
              refine tm_lald rfl dX11_balance_173 (inb_vp b56) ?_
              refine tm_lmul dX11_balance_174 ?_
              refine tm_lcmp dX11_balance_175 ?_
              obtain ⟨x58, hE59, h⟩ := obind_some h
              have J60 : TW g iX11_balance rmX11_balance 0 0 r Mz 0 0 184 [(0, tr 11 0), (1, ti y1)] [ti x58] M := by
                refine tm_istore (lc' := [(6, ti x58), (0, tr 11 0), (1, ti y1)]) dX11_balance_184 (by decide) rfl ?_
                refine tm_goto (tgt := 210) dX11_balance_186 (by decide) ?_
                refine tm_iload dX11_balance_210 rfl ?_
                refine tm_if_ne (tgt := 223) dX11_balance_212 (by decide) (fun c61 => ?_) (fun c61 => ?_)
                · rw [if_neg c61] at h
                  obtain ⟨x62, ex62, h⟩ := bnd_some h
                  refine tm_iinc (v := x62) (lc' := [(1, ti x62), (6, ti x58), (0, tr 11 0)]) dX11_balance_223 rfl (by rw [ex62]; rfl) (by decide) rfl ?_
                  refine tm_goto (tgt := 45) dX11_balance_226 (by decide) ?_
                  refine tm_lcp [0, 1] rfl ?_
                  exact ih x62 M _ h J JR
                · rw [if_pos c61] at h
                  refine tm_aload_n dX11_balance_215 rfl rfl ?_
                  refine tm_iload_n dX11_balance_216 rfl rfl ?_
                  obtain ⟨M63, eM63, h⟩ := bnd_some h
                  refine tm_put kX11 rfl (j := 37) (by decide) wfX11_258 rfl dX11_balance_217 (fun _ => ⟨rfl, rfl⟩) (tPut_I y1 rfl) ?_
                  refine tm_nmM eM63 ?_
                  refine tm_bipush (v := (-9)) dX11_balance_220 (by decide) ?_
                  obtain rfl := Option.some.inj h
                  obtain ⟨rfl, rfl⟩ := JR _ _ rfl
                  exact tm_iret rfl dX11_balance_222
              refine tm_if_ne (tgt := 183) dX11_balance_176 (by decide) (fun c57 => ?_) (fun c57 => ?_)
              · rw [if_neg c57] at hE59
                refine tm_iconst (v := 0) dX11_balance_183 (by decide) ?_
                obtain rfl := Option.some.inj hE59
                refine tm_lcp [0, 1] rfl ?_
                exact J60
              · rw [if_pos c57] at hE59
                refine tm_iconst (v := 1) dX11_balance_179 (by decide) ?_
                refine tm_goto (tgt := 184) dX11_balance_180 (by decide) ?_
                obtain rfl := Option.some.inj hE59
                refine tm_lcp [0, 1] rfl ?_
                exact J60
        refine tm_if_le (tgt := 118) dX11_balance_106 (by decide) (fun c23 => ?_) (fun c23 => ?_)
        · rw [if_pos c23] at hE25
          refine tm_iconst (v := 0) dX11_balance_118 (by decide) ?_
          obtain rfl := Option.some.inj hE25
          refine tm_lcp [0, 1, 2, 3, 4, 5] rfl ?_
          exact J26
        · rw [if_neg c23] at hE25
          refine tm_iload dX11_balance_109 rfl ?_
          refine tm_if_le (tgt := 118) dX11_balance_111 (by decide) (fun c24 => ?_) (fun c24 => ?_)
          · rw [if_pos c24] at hE25
            refine tm_iconst (v := 0) dX11_balance_118 (by decide) ?_
            obtain rfl := Option.some.inj hE25
            refine tm_lcp [0, 1, 2, 3, 4, 5] rfl ?_
            exact J26
          · rw [if_neg c24] at hE25
            refine tm_iconst (v := 1) dX11_balance_114 (by decide) ?_
            refine tm_goto (tgt := 119) dX11_balance_115 (by decide) ?_
            obtain rfl := Option.some.inj hE25
            refine tm_lcp [0, 1, 2, 3, 4, 5] rfl ?_
            exact J26
      · rw [if_pos c22] at h
        refine tm_iload dX11_balance_96 rfl ?_
        refine tm_if_ne (tgt := 104) dX11_balance_98 (by decide) (fun c64 => ?_) (fun c64 => ?_)
        · rw [if_neg c64] at h
          refine tm_iload dX11_balance_104 rfl ?_
          obtain ⟨x66, hE67, h⟩ := obind_some h
          have J68 : TW g iX11_balance rmX11_balance 0 0 r Mz 0 0 119 [(0, tr 11 0), (1, ti y1), (2, ti x15), (3, ti x17), (4, ti x18), (5, ti x20)] [ti x66] M := by
            refine tm_istore (lc' := [(6, ti x66), (0, tr 11 0), (1, ti y1), (2, ti x15), (3, ti x17), (4, ti x18), (5, ti x20)]) dX11_balance_119 (by decide) rfl ?_
            refine tm_iload dX11_balance_121 rfl ?_
            refine tm_if_eq (tgt := 189) dX11_balance_123 (by decide) (fun c69 => ?_) (fun c69 => ?_)
            · rw [if_pos c69] at h
              refine tm_iload dX11_balance_189 rfl ?_
              refine tm_if_eq (tgt := 210) dX11_balance_191 (by decide) (fun c70 => ?_) (fun c70 => ?_)
              · rw [if_pos c70] at h
                refine tm_iload dX11_balance_210 rfl ?_
                refine tm_if_ne (tgt := 223) dX11_balance_212 (by decide) (fun c71 => ?_) (fun c71 => ?_)
                · rw [if_neg c71] at h
                  obtain ⟨x72, ex72, h⟩ := bnd_some h
                  refine tm_iinc (v := x72) (lc' := [(1, ti x72), (6, ti x66), (0, tr 11 0), (2, ti x15), (3, ti x17), (4, ti x18), (5, ti x20)]) dX11_balance_223 rfl (by rw [ex72]; rfl) (by decide) rfl ?_
                  refine tm_goto (tgt := 45) dX11_balance_226 (by decide) ?_
                  refine tm_lcp [0, 1] rfl ?_
                  exact ih x72 M _ h J JR
                · rw [if_pos c71] at h
                  refine tm_aload_n dX11_balance_215 rfl rfl ?_
                  refine tm_iload_n dX11_balance_216 rfl rfl ?_
                  obtain ⟨M73, eM73, h⟩ := bnd_some h
                  refine tm_put kX11 rfl (j := 37) (by decide) wfX11_258 rfl dX11_balance_217 (fun _ => ⟨rfl, rfl⟩) (tPut_I y1 rfl) ?_
                  refine tm_nmM eM73 ?_
                  refine tm_bipush (v := (-9)) dX11_balance_220 (by decide) ?_
                  obtain rfl := Option.some.inj h
                  obtain ⟨rfl, rfl⟩ := JR _ _ rfl
                  exact tm_iret rfl dX11_balance_222
              · rw [if_neg c70] at h
                refine tm_aload_n dX11_balance_194 rfl rfl ?_
                refine tm_iload_n dX11_balance_195 rfl rfl ?_
                refine tm_iload dX11_balance_196 rfl ?_
                refine tm_iload_n dX11_balance_198 rfl rfl ?_
                refine tm_iload dX11_balance_199 rfl ?_
                obtain ⟨⟨x74, M76⟩, hc75, h⟩ := obind_some h
                dsimp only at h
                refine tm_callV kX11 rfl (avs := [ti x15, ti x18, ti x17, ti x20]) (st := []) (okX11_isTied hc75) wcX11_265.1 wcX11_265.2.1 wcX11_265.2.2.1 wcX11_265.2.2.2 ⟨rfl, rfl, Nat.le_of_ble_eq_true rfl, Nat.le_of_ble_eq_true rfl⟩ rfl (Nat.le_of_ble_eq_true rfl) ⟨Nat.zero_le _, Nat.zero_le _⟩ dX11_balance_201 ?_
                refine tm_if_ne (tgt := 210) dX11_balance_204 (by decide) (fun c77 => ?_) (fun c77 => ?_)
                · rw [if_neg c77] at h
                  refine tm_iload dX11_balance_210 rfl ?_
                  refine tm_if_ne (tgt := 223) dX11_balance_212 (by decide) (fun c78 => ?_) (fun c78 => ?_)
                  · rw [if_neg c78] at h
                    obtain ⟨x79, ex79, h⟩ := bnd_some h
                    refine tm_iinc (v := x79) (lc' := [(1, ti x79), (6, ti x66), (0, tr 11 0), (2, ti x15), (3, ti x17), (4, ti x18), (5, ti x20)]) dX11_balance_223 rfl (by rw [ex79]; rfl) (by decide) rfl ?_
                    refine tm_goto (tgt := 45) dX11_balance_226 (by decide) ?_
                    refine tm_lcp [0, 1] rfl ?_
                    exact ih x79 M76 _ h J JR
                  · rw [if_pos c78] at h
                    refine tm_aload_n dX11_balance_215 rfl rfl ?_
                    refine tm_iload_n dX11_balance_216 rfl rfl ?_
                    obtain ⟨M80, eM80, h⟩ := bnd_some h
                    refine tm_put kX11 rfl (j := 37) (by decide) wfX11_258 rfl dX11_balance_217 (fun _ => ⟨rfl, rfl⟩) (tPut_I y1 rfl) ?_
                    refine tm_nmM eM80 ?_
                    refine tm_bipush (v := (-9)) dX11_balance_220 (by decide) ?_
                    obtain rfl := Option.some.inj h
                    obtain ⟨rfl, rfl⟩ := JR _ _ rfl
                    exact tm_iret rfl dX11_balance_222
                · rw [if_pos c77] at h
                  refine tm_bipush (v := (-6)) dX11_balance_207 (by decide) ?_
                  obtain rfl := Option.some.inj h
                  obtain ⟨rfl, rfl⟩ := JR _ _ rfl
                  exact tm_iret rfl dX11_balance_209
            · rw [if_neg c69] at h
              refine tm_aload_n dX11_balance_126 rfl rfl ?_
              refine tm_get kX11 rfl (j := 32) (by decide) wfX11_86 dX11_balance_127 (v := tr 1232 0) rfl ?_
              refine tm_iload_n dX11_balance_130 rfl rfl ?_
              obtain ⟨b81, h⟩ := chk_some h
              refine tm_iald rfl dX11_balance_131 (inb_vp b81) ?_
              refine tm_aload_n dX11_balance_132 rfl rfl ?_
              refine tm_get kX11 rfl (j := 32) (by decide) wfX11_86 dX11_balance_133 (v := tr 1232 0) rfl ?_
              refine tm_iload_n dX11_balance_136 rfl rfl ?_
              obtain ⟨b82, h⟩ := chk_some h
              refine tm_iald rfl dX11_balance_137 (inb_vp b82) ?_
              refine tm_icmp_ne (tgt := 189) dX11_balance_138 (by decide) (fun c83 => ?_) (fun c83 => ?_)
              · rw [if_neg c83] at h
                refine tm_iload dX11_balance_189 rfl ?_
                refine tm_if_eq (tgt := 210) dX11_balance_191 (by decide) (fun c84 => ?_) (fun c84 => ?_)
                · rw [if_pos c84] at h
                  refine tm_iload dX11_balance_210 rfl ?_
                  refine tm_if_ne (tgt := 223) dX11_balance_212 (by decide) (fun c85 => ?_) (fun c85 => ?_)
                  · rw [if_neg c85] at h
                    obtain ⟨x86, ex86, h⟩ := bnd_some h
                    refine tm_iinc (v := x86) (lc' := [(1, ti x86), (6, ti x66), (0, tr 11 0), (2, ti x15), (3, ti x17), (4, ti x18), (5, ti x20)]) dX11_balance_223 rfl (by rw [ex86]; rfl) (by decide) rfl ?_
                    refine tm_goto (tgt := 45) dX11_balance_226 (by decide) ?_
                    refine tm_lcp [0, 1] rfl ?_
                    exact ih x86 M _ h J JR
                  · rw [if_pos c85] at h
                    refine tm_aload_n dX11_balance_215 rfl rfl ?_
                    refine tm_iload_n dX11_balance_216 rfl rfl ?_
                    obtain ⟨M87, eM87, h⟩ := bnd_some h
                    refine tm_put kX11 rfl (j := 37) (by decide) wfX11_258 rfl dX11_balance_217 (fun _ => ⟨rfl, rfl⟩) (tPut_I y1 rfl) ?_
                    refine tm_nmM eM87 ?_
                    refine tm_bipush (v := (-9)) dX11_balance_220 (by decide) ?_
                    obtain rfl := Option.some.inj h
                    obtain ⟨rfl, rfl⟩ := JR _ _ rfl
                    exact tm_iret rfl dX11_balance_222
                · rw [if_neg c84] at h
                  refine tm_aload_n dX11_balance_194 rfl rfl ?_
                  refine tm_iload_n dX11_balance_195 rfl rfl ?_
                  refine tm_iload dX11_balance_196 rfl ?_
                  refine tm_iload_n dX11_balance_198 rfl rfl ?_
                  refine tm_iload dX11_balance_199 rfl ?_
                  obtain ⟨⟨x88, M90⟩, hc89, h⟩ := obind_some h
                  dsimp only at h
                  refine tm_callV kX11 rfl (avs := [ti x15, ti x18, ti x17, ti x20]) (st := []) (okX11_isTied hc89) wcX11_265.1 wcX11_265.2.1 wcX11_265.2.2.1 wcX11_265.2.2.2 ⟨rfl, rfl, Nat.le_of_ble_eq_true rfl, Nat.le_of_ble_eq_true rfl⟩ rfl (Nat.le_of_ble_eq_true rfl) ⟨Nat.zero_le _, Nat.zero_le _⟩ dX11_balance_201 ?_
                  refine tm_if_ne (tgt := 210) dX11_balance_204 (by decide) (fun c91 => ?_) (fun c91 => ?_)
                  · rw [if_neg c91] at h
                    refine tm_iload dX11_balance_210 rfl ?_
                    refine tm_if_ne (tgt := 223) dX11_balance_212 (by decide) (fun c92 => ?_) (fun c92 => ?_)
                    · rw [if_neg c92] at h
                      obtain ⟨x93, ex93, h⟩ := bnd_some h
                      refine tm_iinc (v := x93) (lc' := [(1, ti x93), (6, ti x66), (0, tr 11 0), (2, ti x15), (3, ti x17), (4, ti x18), (5, ti x20)]) dX11_balance_223 rfl (by rw [ex93]; rfl) (by decide) rfl ?_
                      refine tm_goto (tgt := 45) dX11_balance_226 (by decide) ?_
                      refine tm_lcp [0, 1] rfl ?_
                      exact ih x93 M90 _ h J JR
                    · rw [if_pos c92] at h
                      refine tm_aload_n dX11_balance_215 rfl rfl ?_
                      refine tm_iload_n dX11_balance_216 rfl rfl ?_
                      obtain ⟨M94, eM94, h⟩ := bnd_some h
                      refine tm_put kX11 rfl (j := 37) (by decide) wfX11_258 rfl dX11_balance_217 (fun _ => ⟨rfl, rfl⟩) (tPut_I y1 rfl) ?_
                      refine tm_nmM eM94 ?_
                      refine tm_bipush (v := (-9)) dX11_balance_220 (by decide) ?_
                      obtain rfl := Option.some.inj h
                      obtain ⟨rfl, rfl⟩ := JR _ _ rfl
                      exact tm_iret rfl dX11_balance_222
                  · rw [if_pos c91] at h
                    refine tm_bipush (v := (-6)) dX11_balance_207 (by decide) ?_
                    obtain rfl := Option.some.inj h
                    obtain ⟨rfl, rfl⟩ := JR _ _ rfl
                    exact tm_iret rfl dX11_balance_209
              · rw [if_pos c83] at h
                refine tm_aload_n dX11_balance_141 rfl rfl ?_
                refine tm_get kX11 rfl (j := 33) (by decide) wfX11_89 dX11_balance_142 (v := tr 1233 0) rfl ?_
                refine tm_iload_n dX11_balance_145 rfl rfl ?_
                obtain ⟨b95, h⟩ := chk_some h
                refine tm_lald rfl dX11_balance_146 (inb_vp b95) ?_
                refine tm_iload dX11_balance_147 rfl ?_
                refine tm_i2l dX11_balance_149 ?_
                refine tm_lmul dX11_balance_150 ?_
                refine tm_aload_n dX11_balance_151 rfl rfl ?_
                refine tm_get kX11 rfl (j := 34) (by decide) wfX11_92 dX11_balance_152 (v := tr 1234 0) rfl ?_
                refine tm_iload_n dX11_balance_155 rfl rfl ?_
                obtain ⟨b96, h⟩ := chk_some h
                refine tm_lald rfl dX11_balance_156 (inb_vp b96) ?_
                refine tm_lmul dX11_balance_157 ?_
                refine tm_aload_n dX11_balance_158 rfl rfl ?_
                refine tm_get kX11 rfl (j := 33) (by decide) wfX11_89 dX11_balance_159 (v := tr 1233 0) rfl ?_
                refine tm_iload_n dX11_balance_162 rfl rfl ?_
                obtain ⟨b97, h⟩ := chk_some h
                refine tm_lald rfl dX11_balance_163 (inb_vp b97) ?_
                refine tm_iload dX11_balance_164 rfl ?_
                refine tm_i2l dX11_balance_166 ?_
                refine tm_lmul dX11_balance_167 ?_
                refine tm_aload_n dX11_balance_168 rfl rfl ?_
                refine tm_get kX11 rfl (j := 34) (by decide) wfX11_92 dX11_balance_169 (v := tr 1234 0) rfl ?_
                refine tm_iload_n dX11_balance_172 rfl rfl ?_
                obtain ⟨b98, h⟩ := chk_some h
                refine tm_lald rfl dX11_balance_173 (inb_vp b98) ?_
                refine tm_lmul dX11_balance_174 ?_
                refine tm_lcmp dX11_balance_175 ?_
                obtain ⟨x100, hE101, h⟩ := obind_some h
                have J102 : TW g iX11_balance rmX11_balance 0 0 r Mz 0 0 184 [(0, tr 11 0), (1, ti y1)] [ti x100] M := by
                  refine tm_istore (lc' := [(6, ti x100), (0, tr 11 0), (1, ti y1)]) dX11_balance_184 (by decide) rfl ?_
                  refine tm_goto (tgt := 210) dX11_balance_186 (by decide) ?_
                  refine tm_iload dX11_balance_210 rfl ?_
                  refine tm_if_ne (tgt := 223) dX11_balance_212 (by decide) (fun c103 => ?_) (fun c103 => ?_)
                  · rw [if_neg c103] at h
                    obtain ⟨x104, ex104, h⟩ := bnd_some h
                    refine tm_iinc (v := x104) (lc' := [(1, ti x104), (6, ti x100), (0, tr 11 0)]) dX11_balance_223 rfl (by rw [ex104]; rfl) (by decide) rfl ?_
                    refine tm_goto (tgt := 45) dX11_balance_226 (by decide) ?_
                    refine tm_lcp [0, 1] rfl ?_
                    exact ih x104 M _ h J JR
                  · rw [if_pos c103] at h
                    refine tm_aload_n dX11_balance_215 rfl rfl ?_
                    refine tm_iload_n dX11_balance_216 rfl rfl ?_
                    obtain ⟨M105, eM105, h⟩ := bnd_some h
                    refine tm_put kX11 rfl (j := 37) (by decide) wfX11_258 rfl dX11_balance_217 (fun _ => ⟨rfl, rfl⟩) (tPut_I y1 rfl) ?_
                    refine tm_nmM eM105 ?_
                    refine tm_bipush (v := (-9)) dX11_balance_220 (by decide) ?_
                    obtain rfl := Option.some.inj h
                    obtain ⟨rfl, rfl⟩ := JR _ _ rfl
                    exact tm_iret rfl dX11_balance_222
                refine tm_if_ne (tgt := 183) dX11_balance_176 (by decide) (fun c99 => ?_) (fun c99 => ?_)
                · rw [if_neg c99] at hE101
                  refine tm_iconst (v := 0) dX11_balance_183 (by decide) ?_
                  obtain rfl := Option.some.inj hE101
                  refine tm_lcp [0, 1] rfl ?_
                  exact J102
                · rw [if_pos c99] at hE101
                  refine tm_iconst (v := 1) dX11_balance_179 (by decide) ?_
                  refine tm_goto (tgt := 184) dX11_balance_180 (by decide) ?_
                  obtain rfl := Option.some.inj hE101
                  refine tm_lcp [0, 1] rfl ?_
                  exact J102
          refine tm_if_le (tgt := 118) dX11_balance_106 (by decide) (fun c65 => ?_) (fun c65 => ?_)
          · rw [if_pos c65] at hE67
            refine tm_iconst (v := 0) dX11_balance_118 (by decide) ?_
            obtain rfl := Option.some.inj hE67
            refine tm_lcp [0, 1, 2, 3, 4, 5] rfl ?_
            exact J68
          · rw [if_neg c65] at hE67
            refine tm_iload dX11_balance_109 rfl ?_
            refine tm_if_le (tgt := 118) dX11_balance_111 (by decide) (fun c66 => ?_) (fun c66 => ?_)
            · rw [if_pos c66] at hE67
              refine tm_iconst (v := 0) dX11_balance_118 (by decide) ?_
              obtain rfl := Option.some.inj hE67
              refine tm_lcp [0, 1, 2, 3, 4, 5] rfl ?_
              exact J68
            · rw [if_neg c66] at hE67
              refine tm_iconst (v := 1) dX11_balance_114 (by decide) ?_
              refine tm_goto (tgt := 119) dX11_balance_115 (by decide) ?_
              obtain rfl := Option.some.inj hE67
              refine tm_lcp [0, 1, 2, 3, 4, 5] rfl ?_
              exact J68
        · rw [if_pos c64] at h
          refine tm_goto (tgt := 223) dX11_balance_101 (by decide) ?_
          obtain ⟨x106, ex106, h⟩ := bnd_some h
          refine tm_iinc (v := x106) (lc' := [(1, ti x106), (5, ti x20), (4, ti x18), (3, ti x17), (2, ti x15), (0, tr 11 0)]) dX11_balance_223 rfl (by rw [ex106]; rfl) (by decide) rfl ?_
          refine tm_goto (tgt := 45) dX11_balance_226 (by decide) ?_
          refine tm_lcp [0, 1] rfl ?_
          exact ih x106 M _ h J JR
set_option maxHeartbeats 4000000 in
set_option maxRecDepth 100000 in
theorem okX11_balance {g : tG}  {M : tM} {v : Int32} {Mz : tM} (h : fX11_balance  M = some ((v, Mz))) : TMet g yX11_balance (Cond.code yX11_balance cX11_balance 7 (some .int) :: tgd) rmX11_balance [tr 11 0] M (some (ti v)) Mz 0 0 := by
  have key : TW g iX11_balance rmX11_balance 0 0 (some (ti v)) Mz 0 0 0 [(0, tr 11 0)] [] M := by
    rw [fX11_balance] at h
    refine tm_aload_n dX11_balance_0 rfl rfl ?_
    refine tm_bipush (v := (-9)) dX11_balance_1 (by decide) ?_
    obtain ⟨M1, eM1, h⟩ := bnd_some h
    refine tm_put kX11 rfl (j := 37) (by decide) wfX11_258 rfl dX11_balance_3 (fun _ => ⟨rfl, rfl⟩) (tPut_I (-9) rfl) ?_
    refine tm_nmM eM1 ?_
    refine tm_iconst (v := 0) dX11_balance_6 (by decide) ?_
    refine tm_istore_n (lc' := [(1, ti 0), (0, tr 11 0)]) dX11_balance_7 rfl (by decide) rfl ?_
    obtain ⟨w10, hE11, h⟩ := obind_some h
    refine tm_lcp [0, 1] rfl ?_
    refine okX11_balance_l8  FU 0 M1 _ hE11 (fun M12 e => ?_)
    subst e
    refine tm_iconst (v := 0) dX11_balance_43 (by decide) ?_
    refine tm_istore_n (lc' := [(1, ti 0), (0, tr 11 0)]) dX11_balance_44 rfl (by decide) rfl ?_
    obtain ⟨w107, hE108, h⟩ := obind_some h
    refine tm_lcp [0, 1] rfl ?_
    refine okX11_balance_l45  FU 0 M12 _ hE108 (fun M109 e => ?_) (fun v114 Mv115 e => ?_)
    · subst e
      dsimp only at h
      refine tm_aload_n dX11_balance_229 rfl rfl ?_
      obtain ⟨⟨x110, M112⟩, hc111, h⟩ := obind_some h
      dsimp only at h
      refine tm_callV kX11 rfl (avs := []) (st := []) (okX11_counts hc111) wcX11_269.1 wcX11_269.2.1 wcX11_269.2.2.1 wcX11_269.2.2.2 ⟨rfl, rfl, Nat.le_of_ble_eq_true rfl, Nat.le_of_ble_eq_true rfl⟩ rfl (Nat.le_of_ble_eq_true rfl) ⟨Nat.zero_le _, Nat.zero_le _⟩ dX11_balance_230 ?_
      obtain ⟨rfl, rfl⟩ := pj2 h
      exact tm_iret rfl dX11_balance_233
    · subst e
      obtain ⟨rfl, rfl⟩ := pj2 h
      exact ⟨rfl, rfl⟩
  exact TMet.of (by decide) (Nat.le_of_ble_eq_true rfl) key
