theorem wconstlX1_132 : Cond.constantLong RX1 132 1000 ∈ tgd := (tgd_t 741 (by decide +kernel) (by decide +kernel))
abbrev iX1_fewestRows : tY := (RX1, cX1_fewestRows, 7, some .long, "fewestRows")
abbrev rmX1_fewestRows : Room := { frames := 1, cells := 0, slots := 0, locals := 26 }
def fX1_fewestRows_l5 (z1 : Int32) (M : tM) : Nat → Int64 → Int32 → Option (Int64)
  | 0, _, _ => none
  | n + 1, y2, y4 =>
    if (mI M 1 0 2) ≤ y4 then (
    some y2
    ) else (
    if 0 < (lg_cmp y2 1000) then (
    some y2
    ) else (
    chk (inb y4 (mN M 208 0)) <|
    Option.bind (α := Int64) (
    if (mI M 208 0 (y4.toNatClampNeg)) = z1 then (
    (fX1_proportion z1 y4 M).bind fun x5 =>
    (fX10_commonDivisor y2 x5 M).bind fun x7 =>
    chk (nz8 x7) <|
    bnd ((y2 / x7) * x5) fun x10 =>
    some x10
    ) else (
    some y2
    )
    ) fun x5 =>
    bnd (y4 + 1) fun x11 =>
    fX1_fewestRows_l5 z1 M n x5 x11
    )
    )
def fX1_fewestRows (a1 : Int32) (M : tM) : Option (Int64) :=
  Option.bind (fX1_fewestRows_l5 a1 M FU 1 0) fun x14 =>
  some x14
set_option maxHeartbeats 4000000 in
set_option maxRecDepth 100000 in
theorem okX1_fewestRows_l5 {g : tG} (z1 : Int32) (M : tM) {r : Option tV} {Mz : tM} : ∀ (n : Nat) (y2 : Int64) (y4 : Int32) (w : Int64), fX1_fewestRows_l5 z1 M n y2 y4 = some w → (∀ (w2 : Int64), w2 = w → TW g iX1_fewestRows rmX1_fewestRows 0 0 r Mz 0 0 60 [(2, tl w2)] [] M) → TW g iX1_fewestRows rmX1_fewestRows 0 0 r Mz 0 0 5 [(0, tr 1 0), (1, ti z1), (2, tl y2), (4, ti y4)] [] M := by
  intro n
  induction n with
  | zero => intro y2 y4 w h; cases h
  | succ n ih =>
    intro y2 y4 w h J
    rw [fX1_fewestRows_l5] at h
    refine tm_iload dX1_fewestRows_5 rfl ?_
    refine tm_aload_n dX1_fewestRows_7 rfl rfl ?_
    refine tm_get kX1 rfl (j := 2) (by decide) wfX1_35 dX1_fewestRows_8 (v := ti (mI M 1 0 2)) rfl ?_
    refine tm_icmp_ge (tgt := 60) dX1_fewestRows_11 (by decide) (fun c1 => ?_) (fun c1 => ?_)
    · rw [if_pos c1] at h
      obtain rfl := Option.some.inj h
      refine tm_lcp [2] rfl ?_
      exact J _ rfl
    · rw [if_neg c1] at h
      refine tm_lload_n dX1_fewestRows_14 rfl rfl ?_
      refine tm_ldc2 (v := 1000) dX1_fewestRows_15 wconstlX1_132 ?_
      refine tm_lcmp dX1_fewestRows_18 ?_
      refine tm_if_gt (tgt := 60) dX1_fewestRows_19 (by decide) (fun c2 => ?_) (fun c2 => ?_)
      · rw [if_pos c2] at h
        obtain rfl := Option.some.inj h
        refine tm_lcp [2] rfl ?_
        exact J _ rfl
      · rw [if_neg c2] at h
        refine tm_aload_n dX1_fewestRows_22 rfl rfl ?_
        refine tm_get kX1 rfl (j := 8) (by decide) wfX1_27 dX1_fewestRows_23 (v := tr 208 0) rfl ?_
        refine tm_iload dX1_fewestRows_26 rfl ?_
        replace h := chk_some h
        obtain ⟨b3, h⟩ := h
        refine tm_iald rfl dX1_fewestRows_28 (inb_vp b3) ?_
        refine tm_iload_n dX1_fewestRows_29 rfl rfl ?_
        replace h := obind_some h
        obtain ⟨x5, hE6, h⟩ := h
        have J7 : TW g iX1_fewestRows rmX1_fewestRows 0 0 r Mz 0 0 54 [(0, tr 1 0), (1, ti z1), (2, tl x5), (4, ti y4)] [] M := by
          replace h := bnd_some h
          obtain ⟨x11, ex11, h⟩ := h
          refine tm_iinc (v := x11) (lc' := [(4, ti x11), (0, tr 1 0), (1, ti z1), (2, tl x5)]) dX1_fewestRows_54 rfl (by rw [ex11]; rfl) (by decide) rfl ?_
          refine tm_goto (tgt := 5) dX1_fewestRows_57 (by decide) ?_
          refine tm_lcp [0, 1, 2, 4] rfl ?_
          exact ih x5 x11 _ h J
        refine tm_icmp_ne (tgt := 54) dX1_fewestRows_30 (by decide) (fun c4 => ?_) (fun c4 => ?_)
        · rw [if_neg c4] at hE6
          obtain rfl := Option.some.inj hE6
          refine tm_lcp [0, 1, 2, 4] rfl ?_
          exact J7
        · rw [if_pos c4] at hE6
          refine tm_aload_n dX1_fewestRows_33 rfl rfl ?_
          refine tm_iload_n dX1_fewestRows_34 rfl rfl ?_
          refine tm_iload dX1_fewestRows_35 rfl ?_
          replace hE6 := obind_some hE6
          obtain ⟨x5, hc6, hE6⟩ := hE6
          refine tm_callV kX1 rfl (avs := [ti z1, ti y4]) (st := []) (okX1_proportion hc6) wcX1_114.1 wcX1_114.2.1 wcX1_114.2.2.1 wcX1_114.2.2.2 ⟨rfl, rfl, Nat.le_of_ble_eq_true rfl, Nat.le_of_ble_eq_true rfl⟩ rfl (Nat.le_of_ble_eq_true rfl) ⟨Nat.zero_le _, Nat.zero_le _⟩ dX1_fewestRows_37 ?_
          refine tm_lstore (lc' := [(5, tl x5), (0, tr 1 0), (1, ti z1), (2, tl y2), (4, ti y4)]) dX1_fewestRows_40 (by decide) rfl ?_
          refine tm_lload_n dX1_fewestRows_42 rfl rfl ?_
          refine tm_lload_n dX1_fewestRows_43 rfl rfl ?_
          refine tm_lload dX1_fewestRows_44 rfl ?_
          replace hE6 := obind_some hE6
          obtain ⟨x7, hc8, hE6⟩ := hE6
          refine tm_callSN (avs := [tl y2, tl x5]) (st := [tl y2]) (okX10_commonDivisor hc8) wcX1_122.1 wcX1_122.2.1 wcX1_122.2.2 ⟨rfl, rfl, Nat.le_of_ble_eq_true rfl, Nat.le_of_ble_eq_true rfl⟩ rfl (Nat.le_of_ble_eq_true rfl) ⟨Nat.zero_le _, Nat.zero_le _⟩ dX1_fewestRows_46 ?_
          replace hE6 := chk_some hE6
          obtain ⟨b9, hE6⟩ := hE6
          refine tm_ldiv dX1_fewestRows_49 (nz8_ne b9) ?_
          refine tm_lload dX1_fewestRows_50 rfl ?_
          refine tm_lmul dX1_fewestRows_52 ?_
          replace hE6 := bnd_some hE6
          obtain ⟨x10, ex10, hE6⟩ := hE6
          refine tm_nmL ex10 ?_
          refine tm_lstore_n (lc' := [(2, tl x10), (5, tl x5), (0, tr 1 0), (1, ti z1), (4, ti y4)]) dX1_fewestRows_53 rfl (by decide) rfl ?_
          obtain rfl := Option.some.inj hE6
          refine tm_lcp [0, 1, 2, 4] rfl ?_
          exact J7
set_option maxHeartbeats 4000000 in
set_option maxRecDepth 100000 in
theorem okX1_fewestRows {g : tG} {a1 : Int32} {M : tM} {v : Int64} (h : fX1_fewestRows a1 M = some v) : TMet g yX1_fewestRows (Cond.code yX1_fewestRows cX1_fewestRows 7 (some .long) :: tgd) rmX1_fewestRows [tr 1 0, ti a1] M (some (tl v)) M 0 0 := by
  have key : TW g iX1_fewestRows rmX1_fewestRows 0 0 (some (tl v)) M 0 0 0 [(0, tr 1 0), (1, ti a1)] [] M := by
    rw [fX1_fewestRows] at h
    refine tm_lconst (v := 1) dX1_fewestRows_0 (by decide) ?_
    refine tm_lstore_n (lc' := [(2, tl 1), (0, tr 1 0), (1, ti a1)]) dX1_fewestRows_1 rfl (by decide) rfl ?_
    refine tm_iconst (v := 0) dX1_fewestRows_2 (by decide) ?_
    refine tm_istore (lc' := [(4, ti 0), (2, tl 1), (0, tr 1 0), (1, ti a1)]) dX1_fewestRows_3 (by decide) rfl ?_
    replace h := obind_some h
    obtain ⟨w12, hE13, h⟩ := h
    refine tm_lcp [0, 1, 2, 4] rfl ?_
    refine okX1_fewestRows_l5 a1 M FU 1 0 _ hE13 (fun x14 e => ?_)
    subst e
    refine tm_lload_n dX1_fewestRows_60 rfl rfl ?_
    obtain rfl := Option.some.inj h
    exact tm_lret rfl dX1_fewestRows_61
  exact TMet.of (by decide) (Nat.le_of_ble_eq_true rfl) key
theorem wcX1_138 : tCB RX1 138 yJ9_max_f86c9 cJ9_max_f86c9 4 (some .long) 2 ∧ Cond.methodLink RX1 138 yJ9_max_f86c9 ∈ tgd ∧ Cond.static yJ9_max_f86c9 ∈ tgd := ⟨⟨(tgd_t 748 (by decide +kernel) (by decide +kernel)), (tgd_t 12 (by decide +kernel) (by decide +kernel)), by decide, by decide +kernel⟩, (tgd_t 746 (by decide +kernel) (by decide +kernel)), (tgd_t 747 (by decide +kernel) (by decide +kernel))⟩
theorem wfX1_80 : Cond.fieldLink RX1 80 "EvenFlow$Graph" "inRound" "I" ∈ tgd := (tgd_t 65 (by decide +kernel) (by decide +kernel))
theorem wfX1_143 : Cond.fieldLink RX1 143 "EvenFlow$Part" "phases" "I" ∈ tgd := (tgd_t 419 (by decide +kernel) (by decide +kernel))
theorem wfX1_146 : Cond.fieldLink RX1 146 "EvenFlow$Part" "inRound" "I" ∈ tgd := (tgd_t 430 (by decide +kernel) (by decide +kernel))
abbrev iX1_spreadRows : tY := (RX1, cX1_spreadRows, 7, some .boolean, "spreadRows")
abbrev rmX1_spreadRows : Room := { frames := 1, cells := 0, slots := 0, locals := 23 }
def fX1_spreadRows_l3 (z1 : Int32) (z2 : Int64) : Nat → Int32 → tM → Option ((Int32 × tM) ⊕ (tM))
  | 0, _, _ => none
  | n + 1, y4, M =>
    if (mI M 1 0 2) ≤ y4 then (
    some (Sum.inr M)
    ) else (
    chk (inb y4 (mN M 208 0)) <|
    if (mI M 208 0 (y4.toNatClampNeg)) = z1 then (
    (fX1_proportion y4 z1 M).bind fun x5 =>
    (fX1_proportion z1 y4 M).bind fun x7 =>
    (fJ9_max_f86c9 x7 1 M).bind fun x9 =>
    chk (nz8 x9) <|
    chk (inb y4 (mN M 200 0)) <|
    bnd (mR M 200 0 (y4.toNatClampNeg)) fun r13 =>
    Option.bind r13 fun i14 =>
    bnd (((z2 * x5) / x9) * ((mI M 7 i14 3).toInt64)) fun x15 =>
    if (lg_cmp x15 1000) ≤ 0 then (
    chk (inb y4 (mN M 200 0)) <|
    bnd (mR M 200 0 (y4.toNatClampNeg)) fun r18 =>
    Option.bind r18 fun i19 =>
    bnd (sI M 7 i19 6 (x15.toInt32)) fun M20 =>
    bnd (sI M20 1 0 4 ((mI M20 1 0 4) + (x15.toInt32))) fun M21 =>
    bnd (y4 + 1) fun x22 =>
    fX1_spreadRows_l3 z1 z2 n x22 M21
    ) else (
    some (Sum.inl ((0, M)))
    )
    ) else (
    bnd (y4 + 1) fun x4 =>
    fX1_spreadRows_l3 z1 z2 n x4 M
    )
    )
def fX1_spreadRows (a1 : Int32) (a2 : Int64) (M : tM) : Option (Int32 × tM) :=
  Option.bind (fX1_spreadRows_l3 a1 a2 FU 0 M) fun w23 => match w23 with
  | Sum.inl q26 => some q26
  | Sum.inr M25 =>
    some ((1, M25))
set_option maxHeartbeats 4000000 in
set_option maxRecDepth 100000 in
theorem okX1_spreadRows_l3 {g : tG} (z1 : Int32) (z2 : Int64) {r : Option tV} {Mz : tM} : ∀ (n : Nat) (y4 : Int32) (M : tM) (w : (Int32 × tM) ⊕ (tM)), fX1_spreadRows_l3 z1 z2 n y4 M = some w → (∀ (Mw : tM), Sum.inr Mw = w → TW g iX1_spreadRows rmX1_spreadRows 0 0 r Mz 0 0 100 [] [] Mw) → (∀ (v : Int32) (Mv : tM), Sum.inl ((v, Mv)) = w → r = (some (ti v)) ∧ Mz = Mv) → TW g iX1_spreadRows rmX1_spreadRows 0 0 r Mz 0 0 3 [(0, tr 1 0), (1, ti z1), (2, tl z2), (4, ti y4)] [] M := by
  intro n
  induction n with
  | zero => intro y4 M w h; cases h
  | succ n ih =>
    intro y4 M w h J JR
    rw [fX1_spreadRows_l3] at h
    refine tm_iload dX1_spreadRows_3 rfl ?_
    refine tm_aload_n dX1_spreadRows_5 rfl rfl ?_
    refine tm_get kX1 rfl (j := 2) (by decide) wfX1_35 dX1_spreadRows_6 (v := ti (mI M 1 0 2)) rfl ?_
    refine tm_icmp_ge (tgt := 100) dX1_spreadRows_9 (by decide) (fun c1 => ?_) (fun c1 => ?_)
    · rw [if_pos c1] at h
      obtain rfl := Option.some.inj h
      refine tm_lcp [] rfl ?_
      exact J _ rfl
    · rw [if_neg c1] at h
      refine tm_aload_n dX1_spreadRows_12 rfl rfl ?_
      refine tm_get kX1 rfl (j := 8) (by decide) wfX1_27 dX1_spreadRows_13 (v := tr 208 0) rfl ?_
      refine tm_iload dX1_spreadRows_16 rfl ?_
      replace h := chk_some h
      obtain ⟨b2, h⟩ := h
      refine tm_iald rfl dX1_spreadRows_18 (inb_vp b2) ?_
      refine tm_iload_n dX1_spreadRows_19 rfl rfl ?_
      refine tm_icmp_ne (tgt := 94) dX1_spreadRows_20 (by decide) (fun c3 => ?_) (fun c3 => ?_)
      · rw [if_neg c3] at h
        replace h := bnd_some h
        obtain ⟨x4, ex4, h⟩ := h
        refine tm_iinc (v := x4) (lc' := [(4, ti x4), (0, tr 1 0), (1, ti z1), (2, tl z2)]) dX1_spreadRows_94 rfl (by rw [ex4]; rfl) (by decide) rfl ?_
        refine tm_goto (tgt := 3) dX1_spreadRows_97 (by decide) ?_
        refine tm_lcp [0, 1, 2, 4] rfl ?_
        exact ih x4 M _ h J JR
      · rw [if_pos c3] at h
        refine tm_lload_n dX1_spreadRows_23 rfl rfl ?_
        refine tm_aload_n dX1_spreadRows_24 rfl rfl ?_
        refine tm_iload dX1_spreadRows_25 rfl ?_
        refine tm_iload_n dX1_spreadRows_27 rfl rfl ?_
        replace h := obind_some h
        obtain ⟨x5, hc6, h⟩ := h
        refine tm_callV kX1 rfl (avs := [ti y4, ti z1]) (st := [tl z2]) (okX1_proportion hc6) wcX1_114.1 wcX1_114.2.1 wcX1_114.2.2.1 wcX1_114.2.2.2 ⟨rfl, rfl, Nat.le_of_ble_eq_true rfl, Nat.le_of_ble_eq_true rfl⟩ rfl (Nat.le_of_ble_eq_true rfl) ⟨Nat.zero_le _, Nat.zero_le _⟩ dX1_spreadRows_28 ?_
        refine tm_lmul dX1_spreadRows_31 ?_
        refine tm_aload_n dX1_spreadRows_32 rfl rfl ?_
        refine tm_iload_n dX1_spreadRows_33 rfl rfl ?_
        refine tm_iload dX1_spreadRows_34 rfl ?_
        replace h := obind_some h
        obtain ⟨x7, hc8, h⟩ := h
        refine tm_callV kX1 rfl (avs := [ti z1, ti y4]) (st := [tl (z2 * x5)]) (okX1_proportion hc8) wcX1_114.1 wcX1_114.2.1 wcX1_114.2.2.1 wcX1_114.2.2.2 ⟨rfl, rfl, Nat.le_of_ble_eq_true rfl, Nat.le_of_ble_eq_true rfl⟩ rfl (Nat.le_of_ble_eq_true rfl) ⟨Nat.zero_le _, Nat.zero_le _⟩ dX1_spreadRows_36 ?_
        refine tm_lconst (v := 1) dX1_spreadRows_39 (by decide) ?_
        replace h := obind_some h
        obtain ⟨x9, hc10, h⟩ := h
        refine tm_callS (avs := [tl x7, tl 1]) (st := [tl (z2 * x5)]) (okJ9_max_f86c9 hc10) wcX1_138.1 wcX1_138.2.1 wcX1_138.2.2 ⟨rfl, rfl, Nat.le_of_ble_eq_true rfl, Nat.le_of_ble_eq_true rfl⟩ rfl (Nat.le_of_ble_eq_true rfl) ⟨Nat.zero_le _, Nat.zero_le _⟩ dX1_spreadRows_40 ?_
        replace h := chk_some h
        obtain ⟨b11, h⟩ := h
        refine tm_ldiv dX1_spreadRows_43 (nz8_ne b11) ?_
        refine tm_aload_n dX1_spreadRows_44 rfl rfl ?_
        refine tm_get kX1 rfl (j := 0) (by decide) wfX1_11 dX1_spreadRows_45 (v := tr 200 0) rfl ?_
        refine tm_iload dX1_spreadRows_48 rfl ?_
        replace h := chk_some h
        obtain ⟨b12, h⟩ := h
        refine tm_aald (k2 := 7) ⟨rfl, rfl, rfl, fun _ => rfl⟩ dX1_spreadRows_50 (inb_vp b12) ?_
        replace h := bnd_some h
        obtain ⟨r13, er13, h⟩ := h
        refine tm_nmQ er13 ?_
        replace h := obind_some h
        obtain ⟨i14, ei14, h⟩ := h
        subst ei14
        refine tm_get kX7 rfl (j := 3) (by decide) wfX1_143 dX1_spreadRows_51 (v := ti (mI M 7 i14 3)) rfl ?_
        refine tm_i2l dX1_spreadRows_54 ?_
        refine tm_lmul dX1_spreadRows_55 ?_
        replace h := bnd_some h
        obtain ⟨x15, ex15, h⟩ := h
        refine tm_nmL ex15 ?_
        refine tm_lstore (lc' := [(5, tl x15), (0, tr 1 0), (1, ti z1), (2, tl z2), (4, ti y4)]) dX1_spreadRows_56 (by decide) rfl ?_
        refine tm_lload dX1_spreadRows_58 rfl ?_
        refine tm_ldc2 (v := 1000) dX1_spreadRows_60 wconstlX1_132 ?_
        refine tm_lcmp dX1_spreadRows_63 ?_
        refine tm_if_le (tgt := 69) dX1_spreadRows_64 (by decide) (fun c16 => ?_) (fun c16 => ?_)
        · rw [if_pos c16] at h
          refine tm_aload_n dX1_spreadRows_69 rfl rfl ?_
          refine tm_get kX1 rfl (j := 0) (by decide) wfX1_11 dX1_spreadRows_70 (v := tr 200 0) rfl ?_
          refine tm_iload dX1_spreadRows_73 rfl ?_
          replace h := chk_some h
          obtain ⟨b17, h⟩ := h
          refine tm_aald (k2 := 7) ⟨rfl, rfl, rfl, fun _ => rfl⟩ dX1_spreadRows_75 (inb_vp b17) ?_
          replace h := bnd_some h
          obtain ⟨r18, er18, h⟩ := h
          refine tm_nmQ er18 ?_
          refine tm_lload dX1_spreadRows_76 rfl ?_
          refine tm_l2i dX1_spreadRows_78 ?_
          replace h := obind_some h
          obtain ⟨i19, ei19, h⟩ := h
          subst ei19
          replace h := bnd_some h
          obtain ⟨M20, eM20, h⟩ := h
          refine tm_put kX7 rfl (j := 6) (by decide) wfX1_146 rfl dX1_spreadRows_79 (fun _ => ⟨rfl, rfl⟩) (tPut_I (x15.toInt32) rfl) ?_
          refine tm_nmM eM20 ?_
          refine tm_aload_n dX1_spreadRows_82 rfl rfl ?_
          refine tm_dup dX1_spreadRows_83 rfl ?_
          refine tm_get kX1 rfl (j := 4) (by decide) wfX1_80 dX1_spreadRows_84 (v := ti (mI M20 1 0 4)) rfl ?_
          refine tm_lload dX1_spreadRows_87 rfl ?_
          refine tm_l2i dX1_spreadRows_89 ?_
          refine tm_iadd dX1_spreadRows_90 ?_
          replace h := bnd_some h
          obtain ⟨M21, eM21, h⟩ := h
          refine tm_put kX1 rfl (j := 4) (by decide) wfX1_80 rfl dX1_spreadRows_91 (fun _ => ⟨rfl, rfl⟩) (tPut_I ((mI M20 1 0 4) + (x15.toInt32)) rfl) ?_
          refine tm_nmM eM21 ?_
          replace h := bnd_some h
          obtain ⟨x22, ex22, h⟩ := h
          refine tm_iinc (v := x22) (lc' := [(4, ti x22), (5, tl x15), (0, tr 1 0), (1, ti z1), (2, tl z2)]) dX1_spreadRows_94 rfl (by rw [ex22]; rfl) (by decide) rfl ?_
          refine tm_goto (tgt := 3) dX1_spreadRows_97 (by decide) ?_
          refine tm_lcp [0, 1, 2, 4] rfl ?_
          exact ih x22 M21 _ h J JR
        · rw [if_neg c16] at h
          refine tm_iconst (v := 0) dX1_spreadRows_67 (by decide) ?_
          obtain rfl := Option.some.inj h
          obtain ⟨rfl, rfl⟩ := JR _ _ rfl
          exact tm_zret (by decide) rfl dX1_spreadRows_68
set_option maxHeartbeats 4000000 in
set_option maxRecDepth 100000 in
theorem okX1_spreadRows {g : tG} {a1 : Int32} {a2 : Int64} {M : tM} {v : Int32} {Mz : tM} (h : fX1_spreadRows a1 a2 M = some ((v, Mz))) : TMet g yX1_spreadRows (Cond.code yX1_spreadRows cX1_spreadRows 7 (some .boolean) :: tgd) rmX1_spreadRows [tr 1 0, ti a1, tl a2] M (some (ti v)) Mz 0 0 := by
  have key : TW g iX1_spreadRows rmX1_spreadRows 0 0 (some (ti v)) Mz 0 0 0 [(0, tr 1 0), (1, ti a1), (2, tl a2)] [] M := by
    rw [fX1_spreadRows] at h
    refine tm_iconst (v := 0) dX1_spreadRows_0 (by decide) ?_
    refine tm_istore (lc' := [(4, ti 0), (0, tr 1 0), (1, ti a1), (2, tl a2)]) dX1_spreadRows_1 (by decide) rfl ?_
    replace h := obind_some h
    obtain ⟨w23, hE24, h⟩ := h
    refine tm_lcp [0, 1, 2, 4] rfl ?_
    refine okX1_spreadRows_l3 a1 a2 FU 0 M _ hE24 (fun M25 e => ?_) (fun v27 Mv28 e => ?_)
    · subst e
      dsimp only at h
      refine tm_iconst (v := 1) dX1_spreadRows_100 (by decide) ?_
      obtain ⟨rfl, rfl⟩ := pj2 h
      exact tm_zret (by decide) rfl dX1_spreadRows_101
    · subst e
      obtain ⟨rfl, rfl⟩ := pj2 h
      exact ⟨rfl, rfl⟩
  exact TMet.of (by decide) (Nat.le_of_ble_eq_true rfl) key
theorem wcX1_128 : tCB RX1 128 yX1_fewestRows cX1_fewestRows 7 (some .long) 1 ∧ Cond.methodLink RX1 128 yX1_fewestRows ∈ tgd ∧ Cond.instanceMethod yX1_fewestRows ∈ tgd ∧ Cond.selects RX1 yX1_fewestRows yX1_fewestRows ∈ tgd := ⟨⟨(tgd_t 740 (by decide +kernel) (by decide +kernel)), (tgd_t 2 (by decide +kernel) (by decide +kernel)), by decide, by decide +kernel⟩, (tgd_t 737 (by decide +kernel) (by decide +kernel)), (tgd_t 739 (by decide +kernel) (by decide +kernel)), (tgd_p 9 (by decide +kernel) (by decide +kernel))⟩
theorem wcX1_134 : tCB RX1 134 yX1_spreadRows cX1_spreadRows 7 (some .boolean) 2 ∧ Cond.methodLink RX1 134 yX1_spreadRows ∈ tgd ∧ Cond.instanceMethod yX1_spreadRows ∈ tgd ∧ Cond.selects RX1 yX1_spreadRows yX1_spreadRows ∈ tgd := ⟨⟨(tgd_t 745 (by decide +kernel) (by decide +kernel)), (tgd_t 2 (by decide +kernel) (by decide +kernel)), by decide, by decide +kernel⟩, (tgd_t 742 (by decide +kernel) (by decide +kernel)), (tgd_t 744 (by decide +kernel) (by decide +kernel)), (tgd_p 10 (by decide +kernel) (by decide +kernel))⟩
abbrev iX1_countFirings : tY := (RX1, cX1_countFirings, 4, some .int, "countFirings")
abbrev rmX1_countFirings : Room := { frames := 2, cells := 0, slots := 0, locals := 52 }
def fX1_countFirings_l2  : Nat → Int32 → tM → Option ((Int32 × tM) ⊕ (tM))
  | 0, _, _ => none
  | n + 1, y1, M =>
    if (mI M 1 0 2) ≤ y1 then (
    some (Sum.inr M)
    ) else (
    chk (inb y1 (mN M 208 0)) <|
    if (mI M 208 0 (y1.toNatClampNeg)) = y1 then (
    (fX1_fewestRows y1 M).bind fun x5 =>
    if 0 < (lg_cmp x5 1000) then (
    some (Sum.inl (((-6), M)))
    ) else (
    (fX1_spreadRows y1 x5 M).bind fun (x8, M10) =>
    if x8 = 0 then (
    some (Sum.inl (((-6), M10)))
    ) else (
    bnd (y1 + 1) fun x12 =>
    fX1_countFirings_l2 n x12 M10
    )
    )
    ) else (
    bnd (y1 + 1) fun x4 =>
    fX1_countFirings_l2 n x4 M
    )
    )
def fX1_countFirings  (M : tM) : Option (Int32 × tM) :=
  Option.bind (fX1_countFirings_l2 FU 0 M) fun w13 => match w13 with
  | Sum.inl q17 => some q17
  | Sum.inr M15 =>
    if (mI M15 1 0 4) ≤ 2000 then (
    some ((0, M15))
    ) else (
    some (((-6), M15))
    )
set_option maxHeartbeats 4000000 in
set_option maxRecDepth 100000 in
theorem okX1_countFirings_l2 {g : tG}  {r : Option tV} {Mz : tM} : ∀ (n : Nat) (y1 : Int32) (M : tM) (w : (Int32 × tM) ⊕ (tM)), fX1_countFirings_l2 n y1 M = some w → (∀ (Mw : tM), Sum.inr Mw = w → TW g iX1_countFirings rmX1_countFirings 0 0 r Mz 0 0 52 [(0, tr 1 0)] [] Mw) → (∀ (v : Int32) (Mv : tM), Sum.inl ((v, Mv)) = w → r = (some (ti v)) ∧ Mz = Mv) → TW g iX1_countFirings rmX1_countFirings 0 0 r Mz 0 0 2 [(0, tr 1 0), (1, ti y1)] [] M := by
  intro n
  induction n with
  | zero => intro y1 M w h; cases h
  | succ n ih =>
    intro y1 M w h J JR
    rw [fX1_countFirings_l2] at h
    refine tm_iload_n dX1_countFirings_2 rfl rfl ?_
    refine tm_aload_n dX1_countFirings_3 rfl rfl ?_
    refine tm_get kX1 rfl (j := 2) (by decide) wfX1_35 dX1_countFirings_4 (v := ti (mI M 1 0 2)) rfl ?_
    refine tm_icmp_ge (tgt := 52) dX1_countFirings_7 (by decide) (fun c1 => ?_) (fun c1 => ?_)
    · rw [if_pos c1] at h
      obtain rfl := Option.some.inj h
      refine tm_lcp [0] rfl ?_
      exact J _ rfl
    · rw [if_neg c1] at h
      refine tm_aload_n dX1_countFirings_10 rfl rfl ?_
      refine tm_get kX1 rfl (j := 8) (by decide) wfX1_27 dX1_countFirings_11 (v := tr 208 0) rfl ?_
      refine tm_iload_n dX1_countFirings_14 rfl rfl ?_
      replace h := chk_some h
      obtain ⟨b2, h⟩ := h
      refine tm_iald rfl dX1_countFirings_15 (inb_vp b2) ?_
      refine tm_iload_n dX1_countFirings_16 rfl rfl ?_
      refine tm_icmp_ne (tgt := 46) dX1_countFirings_17 (by decide) (fun c3 => ?_) (fun c3 => ?_)
      · rw [if_neg c3] at h
        replace h := bnd_some h
        obtain ⟨x4, ex4, h⟩ := h
        refine tm_iinc (v := x4) (lc' := [(1, ti x4), (0, tr 1 0)]) dX1_countFirings_46 rfl (by rw [ex4]; rfl) (by decide) rfl ?_
        refine tm_goto (tgt := 2) dX1_countFirings_49 (by decide) ?_
        refine tm_lcp [0, 1] rfl ?_
        exact ih x4 M _ h J JR
      · rw [if_pos c3] at h
        refine tm_aload_n dX1_countFirings_20 rfl rfl ?_
        refine tm_iload_n dX1_countFirings_21 rfl rfl ?_
        replace h := obind_some h
        obtain ⟨x5, hc6, h⟩ := h
        refine tm_callV kX1 rfl (avs := [ti y1]) (st := []) (okX1_fewestRows hc6) wcX1_128.1 wcX1_128.2.1 wcX1_128.2.2.1 wcX1_128.2.2.2 ⟨rfl, rfl, Nat.le_of_ble_eq_true rfl, Nat.le_of_ble_eq_true rfl⟩ rfl (Nat.le_of_ble_eq_true rfl) ⟨Nat.zero_le _, Nat.zero_le _⟩ dX1_countFirings_22 ?_
        refine tm_lstore_n (lc' := [(2, tl x5), (0, tr 1 0), (1, ti y1)]) dX1_countFirings_25 rfl (by decide) rfl ?_
        refine tm_lload_n dX1_countFirings_26 rfl rfl ?_
        refine tm_ldc2 (v := 1000) dX1_countFirings_27 wconstlX1_132 ?_
        refine tm_lcmp dX1_countFirings_30 ?_
        refine tm_if_gt (tgt := 43) dX1_countFirings_31 (by decide) (fun c7 => ?_) (fun c7 => ?_)
        · rw [if_pos c7] at h
          refine tm_bipush (v := (-6)) dX1_countFirings_43 (by decide) ?_
          obtain rfl := Option.some.inj h
          obtain ⟨rfl, rfl⟩ := JR _ _ rfl
          exact tm_iret rfl dX1_countFirings_45
        · rw [if_neg c7] at h
          refine tm_aload_n dX1_countFirings_34 rfl rfl ?_
          refine tm_iload_n dX1_countFirings_35 rfl rfl ?_
          refine tm_lload_n dX1_countFirings_36 rfl rfl ?_
          replace h := obind_some h
          obtain ⟨⟨x8, M10⟩, hc9, h⟩ := h
          dsimp only at h
          refine tm_callV kX1 rfl (avs := [ti y1, tl x5]) (st := []) (okX1_spreadRows hc9) wcX1_134.1 wcX1_134.2.1 wcX1_134.2.2.1 wcX1_134.2.2.2 ⟨rfl, rfl, Nat.le_of_ble_eq_true rfl, Nat.le_of_ble_eq_true rfl⟩ rfl (Nat.le_of_ble_eq_true rfl) ⟨Nat.zero_le _, Nat.zero_le _⟩ dX1_countFirings_37 ?_
          refine tm_if_ne (tgt := 46) dX1_countFirings_40 (by decide) (fun c11 => ?_) (fun c11 => ?_)
          · rw [if_neg c11] at h
            replace h := bnd_some h
            obtain ⟨x12, ex12, h⟩ := h
            refine tm_iinc (v := x12) (lc' := [(1, ti x12), (2, tl x5), (0, tr 1 0)]) dX1_countFirings_46 rfl (by rw [ex12]; rfl) (by decide) rfl ?_
            refine tm_goto (tgt := 2) dX1_countFirings_49 (by decide) ?_
            refine tm_lcp [0, 1] rfl ?_
            exact ih x12 M10 _ h J JR
          · rw [if_pos c11] at h
            refine tm_bipush (v := (-6)) dX1_countFirings_43 (by decide) ?_
            obtain rfl := Option.some.inj h
            obtain ⟨rfl, rfl⟩ := JR _ _ rfl
            exact tm_iret rfl dX1_countFirings_45
set_option maxHeartbeats 4000000 in
set_option maxRecDepth 100000 in
theorem okX1_countFirings {g : tG}  {M : tM} {v : Int32} {Mz : tM} (h : fX1_countFirings  M = some ((v, Mz))) : TMet g yX1_countFirings (Cond.code yX1_countFirings cX1_countFirings 4 (some .int) :: tgd) rmX1_countFirings [tr 1 0] M (some (ti v)) Mz 0 0 := by
  have key : TW g iX1_countFirings rmX1_countFirings 0 0 (some (ti v)) Mz 0 0 0 [(0, tr 1 0)] [] M := by
    rw [fX1_countFirings] at h
    refine tm_iconst (v := 0) dX1_countFirings_0 (by decide) ?_
    refine tm_istore_n (lc' := [(1, ti 0), (0, tr 1 0)]) dX1_countFirings_1 rfl (by decide) rfl ?_
    replace h := obind_some h
    obtain ⟨w13, hE14, h⟩ := h
    refine tm_lcp [0, 1] rfl ?_
    refine okX1_countFirings_l2  FU 0 M _ hE14 (fun M15 e => ?_) (fun v18 Mv19 e => ?_)
    · subst e
      dsimp only at h
      refine tm_aload_n dX1_countFirings_52 rfl rfl ?_
      refine tm_get kX1 rfl (j := 4) (by decide) wfX1_80 dX1_countFirings_53 (v := ti (mI M15 1 0 4)) rfl ?_
      refine tm_sipush (v := 2000) dX1_countFirings_56 (by decide) ?_
      refine tm_icmp_le (tgt := 67) dX1_countFirings_59 (by decide) (fun c16 => ?_) (fun c16 => ?_)
      · rw [if_pos c16] at h
        refine tm_iconst (v := 0) dX1_countFirings_67 (by decide) ?_
        obtain ⟨rfl, rfl⟩ := pj2 h
        exact tm_iret rfl dX1_countFirings_68
      · rw [if_neg c16] at h
        refine tm_bipush (v := (-6)) dX1_countFirings_62 (by decide) ?_
        refine tm_goto (tgt := 68) dX1_countFirings_64 (by decide) ?_
        obtain ⟨rfl, rfl⟩ := pj2 h
        exact tm_iret rfl dX1_countFirings_68
    · subst e
      obtain ⟨rfl, rfl⟩ := pj2 h
      exact ⟨rfl, rfl⟩
  exact TMet.of (by decide) (Nat.le_of_ble_eq_true rfl) key
theorem wcX1_87 : tCB RX1 87 yX1_tie cX1_tie 6 (some .int) 1 ∧ Cond.methodLink RX1 87 yX1_tie ∈ tgd ∧ Cond.instanceMethod yX1_tie ∈ tgd ∧ Cond.selects RX1 yX1_tie yX1_tie ∈ tgd := ⟨⟨(tgd_t 717 (by decide +kernel) (by decide +kernel)), (tgd_t 2 (by decide +kernel) (by decide +kernel)), by decide, by decide +kernel⟩, (tgd_t 714 (by decide +kernel) (by decide +kernel)), (tgd_t 716 (by decide +kernel) (by decide +kernel)), (tgd_p 5 (by decide +kernel) (by decide +kernel))⟩
theorem wcX1_91 : tCB RX1 91 yX1_countFirings cX1_countFirings 4 (some .int) 0 ∧ Cond.methodLink RX1 91 yX1_countFirings ∈ tgd ∧ Cond.instanceMethod yX1_countFirings ∈ tgd ∧ Cond.selects RX1 yX1_countFirings yX1_countFirings ∈ tgd := ⟨⟨(tgd_t 736 (by decide +kernel) (by decide +kernel)), (tgd_t 2 (by decide +kernel) (by decide +kernel)), by decide, by decide +kernel⟩, (tgd_t 733 (by decide +kernel) (by decide +kernel)), (tgd_t 735 (by decide +kernel) (by decide +kernel)), (tgd_p 8 (by decide +kernel) (by decide +kernel))⟩
theorem wfX1_23 : Cond.fieldLink RX1 23 "EvenFlow$Graph" "unevenLine" "I" ∈ tgd := (tgd_t 67 (by decide +kernel) (by decide +kernel))
abbrev iX1_findRound : tY := (RX1, cX1_findRound, 3, some .int, "findRound")
abbrev rmX1_findRound : Room := { frames := 3, cells := 0, slots := 0, locals := 84 }
def fX1_findRound_l23  : Nat → Int32 → tM → Option (tM)
  | 0, _, _ => none
  | n + 1, y1, M =>
    if (mI M 1 0 2) ≤ y1 then (
    some M
    ) else (
    chk (inb y1 (mN M 208 0)) <|
    bnd (sI M 208 0 (y1.toNatClampNeg) y1) fun M6 =>
    (fX1_setProportion y1 y1 1 M6).bind fun M8 =>
    bnd (y1 + 1) fun x9 =>
    fX1_findRound_l23 n x9 M8
    )
def fX1_findRound_l53  : Nat → Int32 → tM → Option ((Int32 × tM) ⊕ (tM))
  | 0, _, _ => none
  | n + 1, y1, M =>
    if (mI M 1 0 3) ≤ y1 then (
    some (Sum.inr M)
    ) else (
    chk (inb y1 (mN M 201 0)) <|
    bnd (mR M 201 0 (y1.toNatClampNeg)) fun r15 =>
    (fX1_tie r15 M).bind fun (x16, M18) =>
    Option.bind (α := tM) (
    if x16 = (-9) then (
    bnd (sI M18 1 0 5 y1) fun M20 =>
    some M20
    ) else (
    some M18
    )
    ) fun M20 =>
    if x16 = 0 then (
    bnd (y1 + 1) fun x24 =>
    fX1_findRound_l53 n x24 M20
    ) else (
    some (Sum.inl ((x16, M20)))
    )
    )
def fX1_findRound  (M : tM) : Option (Int32 × tM) :=
  bnd (sI M 1 0 5 (-9)) fun M1 =>
  bnd (sI M1 1 0 4 0) fun M2 =>
  if (mI M2 1 0 2) = 0 then (
  some (((-4), M2))
  ) else (
  Option.bind (fX1_findRound_l23 FU 0 M2) fun M12 =>
  Option.bind (fX1_findRound_l53 FU 0 M12) fun w25 => match w25 with
  | Sum.inl q31 => some q31
  | Sum.inr M27 =>
    (fX1_countFirings M27).bind fun (x28, M30) =>
    some ((x28, M30))
  )
set_option maxHeartbeats 4000000 in
set_option maxRecDepth 100000 in
theorem okX1_findRound_l23 {g : tG}  {r : Option tV} {Mz : tM} : ∀ (n : Nat) (y1 : Int32) (M : tM) (w : tM), fX1_findRound_l23 n y1 M = some w → (∀ (Mw : tM), Mw = w → TW g iX1_findRound rmX1_findRound 0 0 r Mz 0 0 51 [(0, tr 1 0)] [] Mw) → TW g iX1_findRound rmX1_findRound 0 0 r Mz 0 0 23 [(0, tr 1 0), (1, ti y1)] [] M := by
  intro n
  induction n with
  | zero => intro y1 M w h; cases h
  | succ n ih =>
    intro y1 M w h J
    rw [fX1_findRound_l23] at h
    refine tm_iload_n dX1_findRound_23 rfl rfl ?_
    refine tm_aload_n dX1_findRound_24 rfl rfl ?_
    refine tm_get kX1 rfl (j := 2) (by decide) wfX1_35 dX1_findRound_25 (v := ti (mI M 1 0 2)) rfl ?_
    refine tm_icmp_ge (tgt := 51) dX1_findRound_28 (by decide) (fun c4 => ?_) (fun c4 => ?_)
    · rw [if_pos c4] at h
      obtain rfl := Option.some.inj h
      refine tm_lcp [0] rfl ?_
      exact J _ rfl
    · rw [if_neg c4] at h
      refine tm_aload_n dX1_findRound_31 rfl rfl ?_
      refine tm_get kX1 rfl (j := 8) (by decide) wfX1_27 dX1_findRound_32 (v := tr 208 0) rfl ?_
      refine tm_iload_n dX1_findRound_35 rfl rfl ?_
      refine tm_iload_n dX1_findRound_36 rfl rfl ?_
      replace h := chk_some h
      obtain ⟨b5, h⟩ := h
      replace h := bnd_some h
      obtain ⟨M6, eM6, h⟩ := h
      refine tm_iast rfl dX1_findRound_37 (inb_vp b5) ?_
      refine tm_nmM eM6 ?_
      refine tm_aload_n dX1_findRound_38 rfl rfl ?_
      refine tm_iload_n dX1_findRound_39 rfl rfl ?_
      refine tm_iload_n dX1_findRound_40 rfl rfl ?_
      refine tm_lconst (v := 1) dX1_findRound_41 (by decide) ?_
      replace h := obind_some h
      obtain ⟨M8, hc7, h⟩ := h
      refine tm_callV kX1 rfl (avs := [ti y1, ti y1, tl 1]) (st := []) (okX1_setProportion hc7) wcX1_83.1 wcX1_83.2.1 wcX1_83.2.2.1 wcX1_83.2.2.2 ⟨rfl, rfl, Nat.le_of_ble_eq_true rfl, Nat.le_of_ble_eq_true rfl⟩ rfl (Nat.le_of_ble_eq_true rfl) ⟨Nat.zero_le _, Nat.zero_le _⟩ dX1_findRound_42 ?_
      replace h := bnd_some h
      obtain ⟨x9, ex9, h⟩ := h
      refine tm_iinc (v := x9) (lc' := [(1, ti x9), (0, tr 1 0)]) dX1_findRound_45 rfl (by rw [ex9]; rfl) (by decide) rfl ?_
      refine tm_goto (tgt := 23) dX1_findRound_48 (by decide) ?_
      refine tm_lcp [0, 1] rfl ?_
      exact ih x9 M8 _ h J
set_option maxHeartbeats 4000000 in
set_option maxRecDepth 100000 in
theorem okX1_findRound_l53 {g : tG}  {r : Option tV} {Mz : tM} : ∀ (n : Nat) (y1 : Int32) (M : tM) (w : (Int32 × tM) ⊕ (tM)), fX1_findRound_l53 n y1 M = some w → (∀ (Mw : tM), Sum.inr Mw = w → TW g iX1_findRound rmX1_findRound 0 0 r Mz 0 0 95 [(0, tr 1 0)] [] Mw) → (∀ (v : Int32) (Mv : tM), Sum.inl ((v, Mv)) = w → r = (some (ti v)) ∧ Mz = Mv) → TW g iX1_findRound rmX1_findRound 0 0 r Mz 0 0 53 [(0, tr 1 0), (1, ti y1)] [] M := by
  intro n
  induction n with
  | zero => intro y1 M w h; cases h
  | succ n ih =>
    intro y1 M w h J JR
    rw [fX1_findRound_l53] at h
    refine tm_iload_n dX1_findRound_53 rfl rfl ?_
    refine tm_aload_n dX1_findRound_54 rfl rfl ?_
    refine tm_get kX1 rfl (j := 3) (by decide) wfX1_38 dX1_findRound_55 (v := ti (mI M 1 0 3)) rfl ?_
    refine tm_icmp_ge (tgt := 95) dX1_findRound_58 (by decide) (fun c13 => ?_) (fun c13 => ?_)
    · rw [if_pos c13] at h
      obtain rfl := Option.some.inj h
      refine tm_lcp [0] rfl ?_
      exact J _ rfl
    · rw [if_neg c13] at h
      refine tm_aload_n dX1_findRound_61 rfl rfl ?_
      refine tm_aload_n dX1_findRound_62 rfl rfl ?_
      refine tm_get kX1 rfl (j := 1) (by decide) wfX1_19 dX1_findRound_63 (v := tr 201 0) rfl ?_
      refine tm_iload_n dX1_findRound_66 rfl rfl ?_
      replace h := chk_some h
      obtain ⟨b14, h⟩ := h
      refine tm_aald (k2 := 4) ⟨rfl, rfl, rfl, fun _ => rfl⟩ dX1_findRound_67 (inb_vp b14) ?_
      replace h := bnd_some h
      obtain ⟨r15, er15, h⟩ := h
      refine tm_nmQ er15 ?_
      replace h := obind_some h
      obtain ⟨⟨x16, M18⟩, hc17, h⟩ := h
      dsimp only at h
      refine tm_callV kX1 rfl (avs := [tq 4 r15]) (st := []) (okX1_tie hc17) wcX1_87.1 wcX1_87.2.1 wcX1_87.2.2.1 wcX1_87.2.2.2 ⟨rfl, rfl, Nat.le_of_ble_eq_true rfl, Nat.le_of_ble_eq_true rfl⟩ rfl (Nat.le_of_ble_eq_true rfl) ⟨Nat.zero_le _, Nat.zero_le _⟩ dX1_findRound_68 ?_
      refine tm_istore_n (lc' := [(2, ti x16), (0, tr 1 0), (1, ti y1)]) dX1_findRound_71 rfl (by decide) rfl ?_
      refine tm_iload_n dX1_findRound_72 rfl rfl ?_
      refine tm_bipush (v := (-9)) dX1_findRound_73 (by decide) ?_
      replace h := obind_some h
      obtain ⟨M20, hE21, h⟩ := h
      have J22 : TW g iX1_findRound rmX1_findRound 0 0 r Mz 0 0 83 [(0, tr 1 0), (1, ti y1), (2, ti x16)] [] M20 := by
        refine tm_iload_n dX1_findRound_83 rfl rfl ?_
        refine tm_if_eq (tgt := 89) dX1_findRound_84 (by decide) (fun c23 => ?_) (fun c23 => ?_)
        · rw [if_pos c23] at h
          replace h := bnd_some h
          obtain ⟨x24, ex24, h⟩ := h
          refine tm_iinc (v := x24) (lc' := [(1, ti x24), (0, tr 1 0), (2, ti x16)]) dX1_findRound_89 rfl (by rw [ex24]; rfl) (by decide) rfl ?_
          refine tm_goto (tgt := 53) dX1_findRound_92 (by decide) ?_
          refine tm_lcp [0, 1] rfl ?_
          exact ih x24 M20 _ h J JR
        · rw [if_neg c23] at h
          refine tm_iload_n dX1_findRound_87 rfl rfl ?_
          obtain rfl := Option.some.inj h
          obtain ⟨rfl, rfl⟩ := JR _ _ rfl
          exact tm_iret rfl dX1_findRound_88
      refine tm_icmp_ne (tgt := 83) dX1_findRound_75 (by decide) (fun c19 => ?_) (fun c19 => ?_)
      · rw [if_neg c19] at hE21
        obtain rfl := Option.some.inj hE21
        refine tm_lcp [0, 1, 2] rfl ?_
        exact J22
      · rw [if_pos c19] at hE21
        refine tm_aload_n dX1_findRound_78 rfl rfl ?_
        refine tm_iload_n dX1_findRound_79 rfl rfl ?_
        replace hE21 := bnd_some hE21
        obtain ⟨M20, eM20, hE21⟩ := hE21
        refine tm_put kX1 rfl (j := 5) (by decide) wfX1_23 rfl dX1_findRound_80 (fun _ => ⟨rfl, rfl⟩) (tPut_I y1 rfl) ?_
        refine tm_nmM eM20 ?_
        obtain rfl := Option.some.inj hE21
        refine tm_lcp [0, 1, 2] rfl ?_
        exact J22
set_option maxHeartbeats 4000000 in
set_option maxRecDepth 100000 in
theorem okX1_findRound {g : tG}  {M : tM} {v : Int32} {Mz : tM} (h : fX1_findRound  M = some ((v, Mz))) : TMet g yX1_findRound (Cond.code yX1_findRound cX1_findRound 3 (some .int) :: tgd) rmX1_findRound [tr 1 0] M (some (ti v)) Mz 0 0 := by
  have key : TW g iX1_findRound rmX1_findRound 0 0 (some (ti v)) Mz 0 0 0 [(0, tr 1 0)] [] M := by
    rw [fX1_findRound] at h
    refine tm_aload_n dX1_findRound_0 rfl rfl ?_
    refine tm_bipush (v := (-9)) dX1_findRound_1 (by decide) ?_
    replace h := bnd_some h
    obtain ⟨M1, eM1, h⟩ := h
    refine tm_put kX1 rfl (j := 5) (by decide) wfX1_23 rfl dX1_findRound_3 (fun _ => ⟨rfl, rfl⟩) (tPut_I (-9) rfl) ?_
    refine tm_nmM eM1 ?_
    refine tm_aload_n dX1_findRound_6 rfl rfl ?_
    refine tm_iconst (v := 0) dX1_findRound_7 (by decide) ?_
    replace h := bnd_some h
    obtain ⟨M2, eM2, h⟩ := h
    refine tm_put kX1 rfl (j := 4) (by decide) wfX1_80 rfl dX1_findRound_8 (fun _ => ⟨rfl, rfl⟩) (tPut_I 0 rfl) ?_
    refine tm_nmM eM2 ?_
    refine tm_aload_n dX1_findRound_11 rfl rfl ?_
    refine tm_get kX1 rfl (j := 2) (by decide) wfX1_35 dX1_findRound_12 (v := ti (mI M2 1 0 2)) rfl ?_
    refine tm_if_ne (tgt := 21) dX1_findRound_15 (by decide) (fun c3 => ?_) (fun c3 => ?_)
    · rw [if_neg c3] at h
      refine tm_iconst (v := 0) dX1_findRound_21 (by decide) ?_
      refine tm_istore_n (lc' := [(1, ti 0), (0, tr 1 0)]) dX1_findRound_22 rfl (by decide) rfl ?_
      replace h := obind_some h
      obtain ⟨w10, hE11, h⟩ := h
      refine tm_lcp [0, 1] rfl ?_
      refine okX1_findRound_l23  FU 0 M2 _ hE11 (fun M12 e => ?_)
      subst e
      refine tm_iconst (v := 0) dX1_findRound_51 (by decide) ?_
      refine tm_istore_n (lc' := [(1, ti 0), (0, tr 1 0)]) dX1_findRound_52 rfl (by decide) rfl ?_
      replace h := obind_some h
      obtain ⟨w25, hE26, h⟩ := h
      refine tm_lcp [0, 1] rfl ?_
      refine okX1_findRound_l53  FU 0 M12 _ hE26 (fun M27 e => ?_) (fun v32 Mv33 e => ?_)
      · subst e
        dsimp only at h
        refine tm_aload_n dX1_findRound_95 rfl rfl ?_
        replace h := obind_some h
        obtain ⟨⟨x28, M30⟩, hc29, h⟩ := h
        dsimp only at h
        refine tm_callV kX1 rfl (avs := []) (st := []) (okX1_countFirings hc29) wcX1_91.1 wcX1_91.2.1 wcX1_91.2.2.1 wcX1_91.2.2.2 ⟨rfl, rfl, Nat.le_of_ble_eq_true rfl, Nat.le_of_ble_eq_true rfl⟩ rfl (Nat.le_of_ble_eq_true rfl) ⟨Nat.zero_le _, Nat.zero_le _⟩ dX1_findRound_96 ?_
        obtain ⟨rfl, rfl⟩ := pj2 h
        exact tm_iret rfl dX1_findRound_99
      · subst e
        obtain ⟨rfl, rfl⟩ := pj2 h
        exact ⟨rfl, rfl⟩
    · rw [if_pos c3] at h
      refine tm_bipush (v := (-4)) dX1_findRound_18 (by decide) ?_
      obtain ⟨rfl, rfl⟩ := pj2 h
      exact tm_iret rfl dX1_findRound_20
  exact TMet.of (by decide) (Nat.le_of_ble_eq_true rfl) key
theorem wcX1_73 : tCB RX1 73 yX1_findRound cX1_findRound 3 (some .int) 0 ∧ Cond.methodLink RX1 73 yX1_findRound ∈ tgd ∧ Cond.instanceMethod yX1_findRound ∈ tgd ∧ Cond.selects RX1 yX1_findRound yX1_findRound ∈ tgd := ⟨⟨(tgd_t 709 (by decide +kernel) (by decide +kernel)), (tgd_t 2 (by decide +kernel) (by decide +kernel)), by decide, by decide +kernel⟩, (tgd_t 706 (by decide +kernel) (by decide +kernel)), (tgd_t 708 (by decide +kernel) (by decide +kernel)), (tgd_p 3 (by decide +kernel) (by decide +kernel))⟩
theorem wfX1_77 : Cond.fieldLink RX1 77 "EvenFlow$Graph" "state" "I" ∈ tgd := (tgd_t 70 (by decide +kernel) (by decide +kernel))
abbrev iX1_roundState : tY := (RX1, cX1_roundState, 1, some .int, "roundState")
abbrev rmX1_roundState : Room := { frames := 4, cells := 0, slots := 0, locals := 106 }
def fX1_roundState  (M : tM) : Option (Int32 × tM) :=
  if (mI M 1 0 6) = 0 then (
  (fX1_findRound M).bind fun (x2, M4) =>
  bnd (sI M4 1 0 7 x2) fun M5 =>
  bnd (sI M5 1 0 6 1) fun M6 =>
  some ((mI M6 1 0 7, M6))
  ) else (
  some ((mI M 1 0 7, M))
  )
set_option maxHeartbeats 4000000 in
set_option maxRecDepth 100000 in
theorem okX1_roundState {g : tG}  {M : tM} {v : Int32} {Mz : tM} (h : fX1_roundState  M = some ((v, Mz))) : TMet g yX1_roundState (Cond.code yX1_roundState cX1_roundState 1 (some .int) :: tgd) rmX1_roundState [tr 1 0] M (some (ti v)) Mz 0 0 := by
  have key : TW g iX1_roundState rmX1_roundState 0 0 (some (ti v)) Mz 0 0 0 [(0, tr 1 0)] [] M := by
    rw [fX1_roundState] at h
    refine tm_aload_n dX1_roundState_0 rfl rfl ?_
    refine tm_get kX1 rfl (j := 6) (by decide) wfX1_69 dX1_roundState_1 (v := ti (mI M 1 0 6)) rfl ?_
    refine tm_if_ne (tgt := 20) dX1_roundState_4 (by decide) (fun c1 => ?_) (fun c1 => ?_)
    · rw [if_neg c1] at h
      refine tm_aload_n dX1_roundState_20 rfl rfl ?_
      refine tm_get kX1 rfl (j := 7) (by decide) wfX1_77 dX1_roundState_21 (v := ti (mI M 1 0 7)) rfl ?_
      obtain ⟨rfl, rfl⟩ := pj2 h
      exact tm_iret rfl dX1_roundState_24
    · rw [if_pos c1] at h
      refine tm_aload_n dX1_roundState_7 rfl rfl ?_
      refine tm_aload_n dX1_roundState_8 rfl rfl ?_
      replace h := obind_some h
      obtain ⟨⟨x2, M4⟩, hc3, h⟩ := h
      dsimp only at h
      refine tm_callV kX1 rfl (avs := []) (st := [tr 1 0]) (okX1_findRound hc3) wcX1_73.1 wcX1_73.2.1 wcX1_73.2.2.1 wcX1_73.2.2.2 ⟨rfl, rfl, Nat.le_of_ble_eq_true rfl, Nat.le_of_ble_eq_true rfl⟩ rfl (Nat.le_of_ble_eq_true rfl) ⟨Nat.zero_le _, Nat.zero_le _⟩ dX1_roundState_9 ?_
      replace h := bnd_some h
      obtain ⟨M5, eM5, h⟩ := h
      refine tm_put kX1 rfl (j := 7) (by decide) wfX1_77 rfl dX1_roundState_12 (fun _ => ⟨rfl, rfl⟩) (tPut_I x2 rfl) ?_
      refine tm_nmM eM5 ?_
      refine tm_aload_n dX1_roundState_15 rfl rfl ?_
      refine tm_iconst (v := 1) dX1_roundState_16 (by decide) ?_
      replace h := bnd_some h
      obtain ⟨M6, eM6, h⟩ := h
      refine tm_put kX1 rfl (j := 6) (by decide) wfX1_69 rfl dX1_roundState_17 (tb_f (x := 1) (by decide)) (tPut_I 1 rfl) ?_
      refine tm_nmM eM6 ?_
      refine tm_aload_n dX1_roundState_20 rfl rfl ?_
      refine tm_get kX1 rfl (j := 7) (by decide) wfX1_77 dX1_roundState_21 (v := ti (mI M6 1 0 7)) rfl ?_
      obtain ⟨rfl, rfl⟩ := pj2 h
      exact tm_iret rfl dX1_roundState_24
  exact TMet.of (by decide) (Nat.le_of_ble_eq_true rfl) key
theorem wfX2_23 : Cond.fieldLink RX2 23 "EvenFlow$Lack" "stuckKnown" "Z" ∈ tgd := (tgd_t 178 (by decide +kernel) (by decide +kernel))
theorem wfX2_27 : Cond.fieldLink RX2 27 "EvenFlow$Lack" "moreKnown" "Z" ∈ tgd := (tgd_t 180 (by decide +kernel) (by decide +kernel))
abbrev iX2_forget : tY := (RX2, cX2_forget, 1, none, "forget")
abbrev rmX2_forget : Room := { frames := 0, cells := 0, slots := 0, locals := 0 }
def fX2_forget  (M : tM) : Option (tM) :=
  bnd (sI M 2 0 3 0) fun M1 =>
  bnd (sI M1 2 0 5 0) fun M2 =>
  some M2
set_option maxHeartbeats 4000000 in
set_option maxRecDepth 100000 in
theorem okX2_forget {g : tG}  {M : tM} {Mz : tM} (h : fX2_forget  M = some Mz) : TMet g yX2_forget (Cond.code yX2_forget cX2_forget 1 (none) :: tgd) rmX2_forget [tr 2 0] M none Mz 0 0 := by
  have key : TW g iX2_forget rmX2_forget 0 0 none Mz 0 0 0 [(0, tr 2 0)] [] M := by
    rw [fX2_forget] at h
    refine tm_aload_n dX2_forget_0 rfl rfl ?_
    refine tm_iconst (v := 0) dX2_forget_1 (by decide) ?_
    replace h := bnd_some h
    obtain ⟨M1, eM1, h⟩ := h
    refine tm_put kX2 rfl (j := 3) (by decide) wfX2_23 rfl dX2_forget_2 (tb_f (x := 0) (by decide)) (tPut_I 0 rfl) ?_
    refine tm_nmM eM1 ?_
    refine tm_aload_n dX2_forget_5 rfl rfl ?_
    refine tm_iconst (v := 0) dX2_forget_6 (by decide) ?_
    replace h := bnd_some h
    obtain ⟨M2, eM2, h⟩ := h
    refine tm_put kX2 rfl (j := 5) (by decide) wfX2_27 rfl dX2_forget_7 (tb_f (x := 0) (by decide)) (tPut_I 0 rfl) ?_
    refine tm_nmM eM2 ?_
    obtain rfl := Option.some.inj h
    exact tm_vret rfl dX2_forget_10
  exact TMet.of (by decide) (Nat.le_of_ble_eq_true rfl) key
theorem wfX5_9 : Cond.fieldLink RX5 9 "EvenFlow$Marking" "on" "[I" ∈ tgd := (tgd_t 103 (by decide +kernel) (by decide +kernel))
theorem wfX5_15 : Cond.fieldLink RX5 15 "EvenFlow$Marking" "stores" "[I" ∈ tgd := (tgd_t 105 (by decide +kernel) (by decide +kernel))
theorem wfX5_18 : Cond.fieldLink RX5 18 "EvenFlow$Marking" "left" "[I" ∈ tgd := (tgd_t 108 (by decide +kernel) (by decide +kernel))
theorem wfX5_21 : Cond.fieldLink RX5 21 "EvenFlow$Marking" "phases" "[I" ∈ tgd := (tgd_t 110 (by decide +kernel) (by decide +kernel))
theorem wfX5_24 : Cond.fieldLink RX5 24 "EvenFlow$Marking" "firedAt" "[I" ∈ tgd := (tgd_t 112 (by decide +kernel) (by decide +kernel))
theorem wfX5_27 : Cond.fieldLink RX5 27 "EvenFlow$Marking" "graph" "LEvenFlow$Graph;" ∈ tgd := (tgd_t 102 (by decide +kernel) (by decide +kernel))
theorem wfX5_31 : Cond.fieldLink RX5 31 "EvenFlow$Marking" "steps" "I" ∈ tgd := (tgd_t 120 (by decide +kernel) (by decide +kernel))
theorem wfX5_35 : Cond.fieldLink RX5 35 "EvenFlow$Graph" "inRound" "I" ∈ tgd := (tgd_t 63 (by decide +kernel) (by decide +kernel))
theorem wfX5_40 : Cond.fieldLink RX5 40 "EvenFlow$Marking" "leftInAll" "I" ∈ tgd := (tgd_t 113 (by decide +kernel) (by decide +kernel))
theorem wfX5_43 : Cond.fieldLink RX5 43 "EvenFlow$Graph" "partCount" "I" ∈ tgd := (tgd_t 50 (by decide +kernel) (by decide +kernel))
theorem wfX5_46 : Cond.fieldLink RX5 46 "EvenFlow$Graph" "parts" "[LEvenFlow$Part;" ∈ tgd := (tgd_t 36 (by decide +kernel) (by decide +kernel))
theorem wfX5_50 : Cond.fieldLink RX5 50 "EvenFlow$Part" "inRound" "I" ∈ tgd := (tgd_t 426 (by decide +kernel) (by decide +kernel))
theorem wfX5_53 : Cond.fieldLink RX5 53 "EvenFlow$Marking" "sumOfStores" "I" ∈ tgd := (tgd_t 117 (by decide +kernel) (by decide +kernel))
theorem wfX5_56 : Cond.fieldLink RX5 56 "EvenFlow$Graph" "lineCount" "I" ∈ tgd := (tgd_t 57 (by decide +kernel) (by decide +kernel))
theorem wfX5_59 : Cond.fieldLink RX5 59 "EvenFlow$Graph" "lines" "[LEvenFlow$Line;" ∈ tgd := (tgd_t 44 (by decide +kernel) (by decide +kernel))
theorem wfX5_63 : Cond.fieldLink RX5 63 "EvenFlow$Line" "firstCount" "I" ∈ tgd := (tgd_t 580 (by decide +kernel) (by decide +kernel))
abbrev iX5_begin : tY := (RX5, cX5_begin, 2, none, "begin")
abbrev rmX5_begin : Room := { frames := 0, cells := 0, slots := 0, locals := 0 }
def fX5_begin_l18  : Nat → Int32 → tM → Option (tM)
  | 0, _, _ => none
  | n + 1, y1, M =>
    if (mI M 1 0 2) ≤ y1 then (
    some M
    ) else (
    chk (inb y1 (mN M 200 0)) <|
    bnd (mR M 200 0 (y1.toNatClampNeg)) fun r5 =>
    Option.bind r5 fun i6 =>
    chk (inb y1 (mN M 603 0)) <|
    bnd (sI M 603 0 (y1.toNatClampNeg) (mI M 7 i6 6)) fun M8 =>
    chk (inb y1 (mN M8 604 0)) <|
    bnd (sI M8 604 0 (y1.toNatClampNeg) 0) fun M10 =>
    chk (inb y1 (mN M10 605 0)) <|
    bnd (sI M10 605 0 (y1.toNatClampNeg) 0) fun M12 =>
    bnd (y1 + 1) fun x13 =>
    fX5_begin_l18 n x13 M12
    )
def fX5_begin_l74  : Nat → Int32 → tM → Option (tM)
  | 0, _, _ => none
  | n + 1, y1, M =>
    if (mI M 1 0 3) ≤ y1 then (
    some M
    ) else (
    chk (inb y1 (mN M 201 0)) <|
    bnd (mR M 201 0 (y1.toNatClampNeg)) fun r20 =>
    Option.bind r20 fun i21 =>
    chk (inb y1 (mN M 601 0)) <|
    bnd (sI M 601 0 (y1.toNatClampNeg) (mI M 4 i21 6)) fun M23 =>
    chk (inb y1 (mN M23 601 0)) <|
    chk (inb y1 (mN M23 602 0)) <|
    bnd (sI M23 602 0 (y1.toNatClampNeg) (mI M23 601 0 (y1.toNatClampNeg))) fun M26 =>
    chk (inb y1 (mN M26 601 0)) <|
    bnd (sI M26 5 0 7 ((mI M26 5 0 7) + (mI M26 601 0 (y1.toNatClampNeg)))) fun M28 =>
    bnd (y1 + 1) fun x29 =>
    fX5_begin_l74 n x29 M28
    )
def fX5_begin  (M : tM) : Option (tM) :=
  bnd (sI M 5 0 8 0) fun M1 =>
  bnd (sI M1 5 0 6 (mI M1 1 0 4)) fun M2 =>
  Option.bind (fX5_begin_l18 FU 0 M2) fun M16 =>
  bnd (sI M16 5 0 7 0) fun M17 =>
  Option.bind (fX5_begin_l74 FU 0 M17) fun M32 =>
  some M32
set_option maxHeartbeats 4000000 in
set_option maxRecDepth 100000 in
theorem okX5_begin_l18 {g : tG}  {r : Option tV} {Mz : tM} : ∀ (n : Nat) (y1 : Int32) (M : tM) (w : tM), fX5_begin_l18 n y1 M = some w → (∀ (Mw : tM), Mw = w → TW g iX5_begin rmX5_begin 0 0 r Mz 0 0 67 [(0, tr 5 0)] [] Mw) → TW g iX5_begin rmX5_begin 0 0 r Mz 0 0 18 [(0, tr 5 0), (1, ti y1)] [] M := by
  intro n
  induction n with
  | zero => intro y1 M w h; cases h
  | succ n ih =>
    intro y1 M w h J
    rw [fX5_begin_l18] at h
    refine tm_iload_n dX5_begin_18 rfl rfl ?_
    refine tm_aload_n dX5_begin_19 rfl rfl ?_
    refine tm_get kX5 rfl (j := 0) (by decide) wfX5_27 dX5_begin_20 (v := tr 1 0) rfl ?_
    refine tm_get kX1 rfl (j := 2) (by decide) wfX5_43 dX5_begin_23 (v := ti (mI M 1 0 2)) rfl ?_
    refine tm_icmp_ge (tgt := 67) dX5_begin_26 (by decide) (fun c3 => ?_) (fun c3 => ?_)
    · rw [if_pos c3] at h
      obtain rfl := Option.some.inj h
      refine tm_lcp [0] rfl ?_
      exact J _ rfl
    · rw [if_neg c3] at h
      refine tm_aload_n dX5_begin_29 rfl rfl ?_
      refine tm_get kX5 rfl (j := 3) (by decide) wfX5_18 dX5_begin_30 (v := tr 603 0) rfl ?_
      refine tm_iload_n dX5_begin_33 rfl rfl ?_
      refine tm_aload_n dX5_begin_34 rfl rfl ?_
      refine tm_get kX5 rfl (j := 0) (by decide) wfX5_27 dX5_begin_35 (v := tr 1 0) rfl ?_
      refine tm_get kX1 rfl (j := 0) (by decide) wfX5_46 dX5_begin_38 (v := tr 200 0) rfl ?_
      refine tm_iload_n dX5_begin_41 rfl rfl ?_
      replace h := chk_some h
      obtain ⟨b4, h⟩ := h
      refine tm_aald (k2 := 7) ⟨rfl, rfl, rfl, fun _ => rfl⟩ dX5_begin_42 (inb_vp b4) ?_
      replace h := bnd_some h
      obtain ⟨r5, er5, h⟩ := h
      refine tm_nmQ er5 ?_
      replace h := obind_some h
      obtain ⟨i6, ei6, h⟩ := h
      subst ei6
      refine tm_get kX7 rfl (j := 6) (by decide) wfX5_50 dX5_begin_43 (v := ti (mI M 7 i6 6)) rfl ?_
      replace h := chk_some h
      obtain ⟨b7, h⟩ := h
      replace h := bnd_some h
      obtain ⟨M8, eM8, h⟩ := h
      refine tm_iast rfl dX5_begin_46 (inb_vp b7) ?_
      refine tm_nmM eM8 ?_
      refine tm_aload_n dX5_begin_47 rfl rfl ?_
      refine tm_get kX5 rfl (j := 4) (by decide) wfX5_21 dX5_begin_48 (v := tr 604 0) rfl ?_
      refine tm_iload_n dX5_begin_51 rfl rfl ?_
      refine tm_iconst (v := 0) dX5_begin_52 (by decide) ?_
      replace h := chk_some h
      obtain ⟨b9, h⟩ := h
      replace h := bnd_some h
      obtain ⟨M10, eM10, h⟩ := h
      refine tm_iast rfl dX5_begin_53 (inb_vp b9) ?_
      refine tm_nmM eM10 ?_
      refine tm_aload_n dX5_begin_54 rfl rfl ?_
      refine tm_get kX5 rfl (j := 5) (by decide) wfX5_24 dX5_begin_55 (v := tr 605 0) rfl ?_
      refine tm_iload_n dX5_begin_58 rfl rfl ?_
      refine tm_iconst (v := 0) dX5_begin_59 (by decide) ?_
      replace h := chk_some h
      obtain ⟨b11, h⟩ := h
      replace h := bnd_some h
      obtain ⟨M12, eM12, h⟩ := h
      refine tm_iast rfl dX5_begin_60 (inb_vp b11) ?_
      refine tm_nmM eM12 ?_
      replace h := bnd_some h
      obtain ⟨x13, ex13, h⟩ := h
      refine tm_iinc (v := x13) (lc' := [(1, ti x13), (0, tr 5 0)]) dX5_begin_61 rfl (by rw [ex13]; rfl) (by decide) rfl ?_
      refine tm_goto (tgt := 18) dX5_begin_64 (by decide) ?_
      refine tm_lcp [0, 1] rfl ?_
      exact ih x13 M12 _ h J
set_option maxHeartbeats 4000000 in
set_option maxRecDepth 100000 in
theorem okX5_begin_l74 {g : tG}  {r : Option tV} {Mz : tM} : ∀ (n : Nat) (y1 : Int32) (M : tM) (w : tM), fX5_begin_l74 n y1 M = some w → (∀ (Mw : tM), Mw = w → TW g iX5_begin rmX5_begin 0 0 r Mz 0 0 136 [] [] Mw) → TW g iX5_begin rmX5_begin 0 0 r Mz 0 0 74 [(0, tr 5 0), (1, ti y1)] [] M := by
  intro n
  induction n with
  | zero => intro y1 M w h; cases h
  | succ n ih =>
    intro y1 M w h J
    rw [fX5_begin_l74] at h
    refine tm_iload_n dX5_begin_74 rfl rfl ?_
    refine tm_aload_n dX5_begin_75 rfl rfl ?_
    refine tm_get kX5 rfl (j := 0) (by decide) wfX5_27 dX5_begin_76 (v := tr 1 0) rfl ?_
    refine tm_get kX1 rfl (j := 3) (by decide) wfX5_56 dX5_begin_79 (v := ti (mI M 1 0 3)) rfl ?_
    refine tm_icmp_ge (tgt := 136) dX5_begin_82 (by decide) (fun c18 => ?_) (fun c18 => ?_)
    · rw [if_pos c18] at h
      obtain rfl := Option.some.inj h
      refine tm_lcp [] rfl ?_
      exact J _ rfl
    · rw [if_neg c18] at h
      refine tm_aload_n dX5_begin_85 rfl rfl ?_
      refine tm_get kX5 rfl (j := 1) (by decide) wfX5_9 dX5_begin_86 (v := tr 601 0) rfl ?_
      refine tm_iload_n dX5_begin_89 rfl rfl ?_
      refine tm_aload_n dX5_begin_90 rfl rfl ?_
      refine tm_get kX5 rfl (j := 0) (by decide) wfX5_27 dX5_begin_91 (v := tr 1 0) rfl ?_
      refine tm_get kX1 rfl (j := 1) (by decide) wfX5_59 dX5_begin_94 (v := tr 201 0) rfl ?_
      refine tm_iload_n dX5_begin_97 rfl rfl ?_
      replace h := chk_some h
      obtain ⟨b19, h⟩ := h
      refine tm_aald (k2 := 4) ⟨rfl, rfl, rfl, fun _ => rfl⟩ dX5_begin_98 (inb_vp b19) ?_
      replace h := bnd_some h
      obtain ⟨r20, er20, h⟩ := h
      refine tm_nmQ er20 ?_
      replace h := obind_some h
      obtain ⟨i21, ei21, h⟩ := h
      subst ei21
      refine tm_get kX4 rfl (j := 6) (by decide) wfX5_63 dX5_begin_99 (v := ti (mI M 4 i21 6)) rfl ?_
      replace h := chk_some h
      obtain ⟨b22, h⟩ := h
      replace h := bnd_some h
      obtain ⟨M23, eM23, h⟩ := h
      refine tm_iast rfl dX5_begin_102 (inb_vp b22) ?_
      refine tm_nmM eM23 ?_
      refine tm_aload_n dX5_begin_103 rfl rfl ?_
      refine tm_get kX5 rfl (j := 2) (by decide) wfX5_15 dX5_begin_104 (v := tr 602 0) rfl ?_
      refine tm_iload_n dX5_begin_107 rfl rfl ?_
      refine tm_aload_n dX5_begin_108 rfl rfl ?_
      refine tm_get kX5 rfl (j := 1) (by decide) wfX5_9 dX5_begin_109 (v := tr 601 0) rfl ?_
      refine tm_iload_n dX5_begin_112 rfl rfl ?_
      replace h := chk_some h
      obtain ⟨b24, h⟩ := h
      refine tm_iald rfl dX5_begin_113 (inb_vp b24) ?_
      replace h := chk_some h
      obtain ⟨b25, h⟩ := h
      replace h := bnd_some h
      obtain ⟨M26, eM26, h⟩ := h
      refine tm_iast rfl dX5_begin_114 (inb_vp b25) ?_
      refine tm_nmM eM26 ?_
      refine tm_aload_n dX5_begin_115 rfl rfl ?_
      refine tm_dup dX5_begin_116 rfl ?_
      refine tm_get kX5 rfl (j := 7) (by decide) wfX5_53 dX5_begin_117 (v := ti (mI M26 5 0 7)) rfl ?_
      refine tm_aload_n dX5_begin_120 rfl rfl ?_
      refine tm_get kX5 rfl (j := 1) (by decide) wfX5_9 dX5_begin_121 (v := tr 601 0) rfl ?_
      refine tm_iload_n dX5_begin_124 rfl rfl ?_
      replace h := chk_some h
      obtain ⟨b27, h⟩ := h
      refine tm_iald rfl dX5_begin_125 (inb_vp b27) ?_
      refine tm_iadd dX5_begin_126 ?_
      replace h := bnd_some h
      obtain ⟨M28, eM28, h⟩ := h
      refine tm_put kX5 rfl (j := 7) (by decide) wfX5_53 rfl dX5_begin_127 (fun _ => ⟨rfl, rfl⟩) (tPut_I ((mI M26 5 0 7) + (mI M26 601 0 (y1.toNatClampNeg))) rfl) ?_
      refine tm_nmM eM28 ?_
      replace h := bnd_some h
      obtain ⟨x29, ex29, h⟩ := h
      refine tm_iinc (v := x29) (lc' := [(1, ti x29), (0, tr 5 0)]) dX5_begin_130 rfl (by rw [ex29]; rfl) (by decide) rfl ?_
      refine tm_goto (tgt := 74) dX5_begin_133 (by decide) ?_
      refine tm_lcp [0, 1] rfl ?_
      exact ih x29 M28 _ h J
set_option maxHeartbeats 4000000 in
set_option maxRecDepth 100000 in
theorem okX5_begin {g : tG}  {M : tM} {Mz : tM} (h : fX5_begin  M = some Mz) : TMet g yX5_begin (Cond.code yX5_begin cX5_begin 2 (none) :: tgd) rmX5_begin [tr 5 0] M none Mz 0 0 := by
  have key : TW g iX5_begin rmX5_begin 0 0 none Mz 0 0 0 [(0, tr 5 0)] [] M := by
    rw [fX5_begin] at h
    refine tm_aload_n dX5_begin_0 rfl rfl ?_
    refine tm_iconst (v := 0) dX5_begin_1 (by decide) ?_
    replace h := bnd_some h
    obtain ⟨M1, eM1, h⟩ := h
    refine tm_put kX5 rfl (j := 8) (by decide) wfX5_31 rfl dX5_begin_2 (fun _ => ⟨rfl, rfl⟩) (tPut_I 0 rfl) ?_
    refine tm_nmM eM1 ?_
    refine tm_aload_n dX5_begin_5 rfl rfl ?_
    refine tm_aload_n dX5_begin_6 rfl rfl ?_
    refine tm_get kX5 rfl (j := 0) (by decide) wfX5_27 dX5_begin_7 (v := tr 1 0) rfl ?_
    refine tm_get kX1 rfl (j := 4) (by decide) wfX5_35 dX5_begin_10 (v := ti (mI M1 1 0 4)) rfl ?_
    replace h := bnd_some h
    obtain ⟨M2, eM2, h⟩ := h
    refine tm_put kX5 rfl (j := 6) (by decide) wfX5_40 rfl dX5_begin_13 (fun _ => ⟨rfl, rfl⟩) (tPut_I (mI M1 1 0 4) rfl) ?_
    refine tm_nmM eM2 ?_
    refine tm_iconst (v := 0) dX5_begin_16 (by decide) ?_
    refine tm_istore_n (lc' := [(1, ti 0), (0, tr 5 0)]) dX5_begin_17 rfl (by decide) rfl ?_
    replace h := obind_some h
    obtain ⟨w14, hE15, h⟩ := h
    refine tm_lcp [0, 1] rfl ?_
    refine okX5_begin_l18  FU 0 M2 _ hE15 (fun M16 e => ?_)
    subst e
    refine tm_aload_n dX5_begin_67 rfl rfl ?_
    refine tm_iconst (v := 0) dX5_begin_68 (by decide) ?_
    replace h := bnd_some h
    obtain ⟨M17, eM17, h⟩ := h
    refine tm_put kX5 rfl (j := 7) (by decide) wfX5_53 rfl dX5_begin_69 (fun _ => ⟨rfl, rfl⟩) (tPut_I 0 rfl) ?_
    refine tm_nmM eM17 ?_
    refine tm_iconst (v := 0) dX5_begin_72 (by decide) ?_
    refine tm_istore_n (lc' := [(1, ti 0), (0, tr 5 0)]) dX5_begin_73 rfl (by decide) rfl ?_
    replace h := obind_some h
    obtain ⟨w30, hE31, h⟩ := h
    refine tm_lcp [0, 1] rfl ?_
    refine okX5_begin_l74  FU 0 M17 _ hE31 (fun M32 e => ?_)
    subst e
    obtain rfl := Option.some.inj h
    exact tm_vret rfl dX5_begin_136
  exact TMet.of (by decide) (Nat.le_of_ble_eq_true rfl) key
