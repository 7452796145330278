theorem wcX0_147 : tCB RX0 147 yJ9_max_f86c9 cJ9_max_f86c9 4 (some .long) 2 ∧ Cond.methodLink RX0 147 yJ9_max_f86c9 ∈ tgd ∧ Cond.static yJ9_max_f86c9 ∈ tgd := ⟨⟨(tgd_t 748 (by decide +kernel) (by decide +kernel)), (tgd_t 12 (by decide +kernel) (by decide +kernel)), by decide, by decide +kernel⟩, (tgd_t 1043 (by decide +kernel) (by decide +kernel)), (tgd_t 747 (by decide +kernel) (by decide +kernel))⟩
theorem wfX0_140 : Cond.fieldLink RX0 140 "EvenFlow$Beat" "upper" "J" ∈ tgd := (tgd_t 271 (by decide +kernel) (by decide +kernel))
theorem wfX0_144 : Cond.fieldLink RX0 144 "EvenFlow$Beat" "lower" "J" ∈ tgd := (tgd_t 273 (by decide +kernel) (by decide +kernel))
abbrev iX0_beginWithOwnRings : tY := (RX0, cX0_beginWithOwnRings, 3, none, "beginWithOwnRings")
abbrev rmX0_beginWithOwnRings : Room := { frames := 1, cells := 0, slots := 0, locals := 23 }
def fX0_beginWithOwnRings_l12  : Nat → Int32 → tM → Option (tM)
  | 0, _, _ => none
  | n + 1, y1, M =>
    if (mI M 1 0 2) ≤ y1 then (
    some M
    ) else (
    chk (inb y1 (mN M 200 0)) <|
    bnd (mR M 200 0 (y1.toNatClampNeg)) fun r5 =>
    Option.bind r5 fun i6 =>
    (fJ9_max_f86c9 (mL M 0 0 1) (((mI M 7 i6 4).toInt64) * ((mI M 7 i6 6).toInt64)) M).bind fun x7 =>
    bnd (sL M 0 0 1 x7) fun M9 =>
    bnd (y1 + 1) fun x10 =>
    fX0_beginWithOwnRings_l12 n x10 M9
    )
def fX0_beginWithOwnRings  (M : tM) : Option (tM) :=
  bnd (sL M 0 0 1 0) fun M1 =>
  bnd (sL M1 0 0 2 1) fun M2 =>
  Option.bind (fX0_beginWithOwnRings_l12 FU 0 M2) fun M13 =>
  some M13
set_option maxHeartbeats 4000000 in
set_option maxRecDepth 100000 in
theorem okX0_beginWithOwnRings_l12 {g : tG}  {r : Option tV} {Mz : tM} : ∀ (n : Nat) (y1 : Int32) (M : tM) (w : tM), fX0_beginWithOwnRings_l12 n y1 M = some w → (∀ (Mw : tM), Mw = w → TW g iX0_beginWithOwnRings rmX0_beginWithOwnRings 0 0 r Mz 0 0 61 [] [] Mw) → TW g iX0_beginWithOwnRings rmX0_beginWithOwnRings 0 0 r Mz 0 0 12 [(0, tr 0 0), (1, ti y1)] [] M := by
  intro n
  induction n with
  | zero => intro y1 M w h; cases h
  | succ n ih =>
    intro y1 M w h J
    rw [fX0_beginWithOwnRings_l12] at h
    refine tm_iload_n dX0_beginWithOwnRings_12 rfl rfl ?_
    refine tm_aload_n dX0_beginWithOwnRings_13 rfl rfl ?_
    refine tm_get kX0 rfl (j := 0) (by decide) wfX0_34 dX0_beginWithOwnRings_14 (v := tr 1 0) rfl ?_
    refine tm_get kX1 rfl (j := 2) (by decide) wfX0_73 dX0_beginWithOwnRings_17 (v := ti (mI M 1 0 2)) rfl ?_
    refine tm_icmp_ge (tgt := 61) dX0_beginWithOwnRings_20 (by decide) (fun c3 => ?_) (fun c3 => ?_)
    · rw [if_pos c3] at h
      obtain rfl := Option.some.inj h
      refine tm_lcp [] rfl ?_
      exact J _ rfl
    · rw [if_neg c3] at h
      refine tm_aload_n dX0_beginWithOwnRings_23 rfl rfl ?_
      refine tm_get kX0 rfl (j := 0) (by decide) wfX0_34 dX0_beginWithOwnRings_24 (v := tr 1 0) rfl ?_
      refine tm_get kX1 rfl (j := 0) (by decide) wfX0_76 dX0_beginWithOwnRings_27 (v := tr 200 0) rfl ?_
      refine tm_iload_n dX0_beginWithOwnRings_30 rfl rfl ?_
      replace h := chk_some h
      obtain ⟨b4, h⟩ := h
      refine tm_aald (k2 := 7) ⟨rfl, rfl, rfl, fun _ => rfl⟩ dX0_beginWithOwnRings_31 (inb_vp b4) ?_
      replace h := bnd_some h
      obtain ⟨r5, er5, h⟩ := h
      refine tm_nmQ er5 ?_
      refine tm_astore_n (lc' := [(2, tq 7 r5), (0, tr 0 0), (1, ti y1)]) dX0_beginWithOwnRings_32 rfl (by decide) rfl ?_
      refine tm_aload_n dX0_beginWithOwnRings_33 rfl rfl ?_
      refine tm_aload_n dX0_beginWithOwnRings_34 rfl rfl ?_
      refine tm_get kX0 rfl (j := 1) (by decide) wfX0_140 dX0_beginWithOwnRings_35 (v := tl (mL M 0 0 1)) rfl ?_
      refine tm_aload_n dX0_beginWithOwnRings_38 rfl rfl ?_
      replace h := obind_some h
      obtain ⟨i6, ei6, h⟩ := h
      subst ei6
      refine tm_get kX7 rfl (j := 4) (by decide) wfX0_85 dX0_beginWithOwnRings_39 (v := ti (mI M 7 i6 4)) rfl ?_
      refine tm_i2l dX0_beginWithOwnRings_42 ?_
      refine tm_aload_n dX0_beginWithOwnRings_43 rfl rfl ?_
      refine tm_get kX7 rfl (j := 6) (by decide) wfX0_80 dX0_beginWithOwnRings_44 (v := ti (mI M 7 i6 6)) rfl ?_
      refine tm_i2l dX0_beginWithOwnRings_47 ?_
      refine tm_lmul dX0_beginWithOwnRings_48 ?_
      replace h := obind_some h
      obtain ⟨x7, hc8, h⟩ := h
      refine tm_callS (avs := [tl (mL M 0 0 1), tl (((mI M 7 i6 4).toInt64) * ((mI M 7 i6 6).toInt64))]) (st := [tr 0 0]) (okJ9_max_f86c9 hc8) wcX0_147.1 wcX0_147.2.1 wcX0_147.2.2 ⟨rfl, rfl, Nat.le_of_ble_eq_true rfl, Nat.le_of_ble_eq_true rfl⟩ rfl (Nat.le_of_ble_eq_true rfl) ⟨Nat.zero_le _, Nat.zero_le _⟩ dX0_beginWithOwnRings_49 ?_
      replace h := bnd_some h
      obtain ⟨M9, eM9, h⟩ := h
      refine tm_put kX0 rfl (j := 1) (by decide) wfX0_140 rfl dX0_beginWithOwnRings_52 (fun _ => ⟨rfl, rfl⟩) (tPut_L x7 rfl) ?_
      refine tm_nmM eM9 ?_
      replace h := bnd_some h
      obtain ⟨x10, ex10, h⟩ := h
      refine tm_iinc (v := x10) (lc' := [(1, ti x10), (2, tr 7 i6), (0, tr 0 0)]) dX0_beginWithOwnRings_55 rfl (by rw [ex10]; rfl) (by decide) rfl ?_
      refine tm_goto (tgt := 12) dX0_beginWithOwnRings_58 (by decide) ?_
      refine tm_lcp [0, 1] rfl ?_
      exact ih x10 M9 _ h J
set_option maxHeartbeats 4000000 in
set_option maxRecDepth 100000 in
theorem okX0_beginWithOwnRings {g : tG}  {M : tM} {Mz : tM} (h : fX0_beginWithOwnRings  M = some Mz) : TMet g yX0_beginWithOwnRings (Cond.code yX0_beginWithOwnRings cX0_beginWithOwnRings 3 (none) :: tgd) rmX0_beginWithOwnRings [tr 0 0] M none Mz 0 0 := by
  have key : TW g iX0_beginWithOwnRings rmX0_beginWithOwnRings 0 0 none Mz 0 0 0 [(0, tr 0 0)] [] M := by
    rw [fX0_beginWithOwnRings] at h
    refine tm_aload_n dX0_beginWithOwnRings_0 rfl rfl ?_
    refine tm_lconst (v := 0) dX0_beginWithOwnRings_1 (by decide) ?_
    replace h := bnd_some h
    obtain ⟨M1, eM1, h⟩ := h
    refine tm_put kX0 rfl (j := 1) (by decide) wfX0_140 rfl dX0_beginWithOwnRings_2 (fun _ => ⟨rfl, rfl⟩) (tPut_L 0 rfl) ?_
    refine tm_nmM eM1 ?_
    refine tm_aload_n dX0_beginWithOwnRings_5 rfl rfl ?_
    refine tm_lconst (v := 1) dX0_beginWithOwnRings_6 (by decide) ?_
    replace h := bnd_some h
    obtain ⟨M2, eM2, h⟩ := h
    refine tm_put kX0 rfl (j := 2) (by decide) wfX0_144 rfl dX0_beginWithOwnRings_7 (fun _ => ⟨rfl, rfl⟩) (tPut_L 1 rfl) ?_
    refine tm_nmM eM2 ?_
    refine tm_iconst (v := 0) dX0_beginWithOwnRings_10 (by decide) ?_
    refine tm_istore_n (lc' := [(1, ti 0), (0, tr 0 0)]) dX0_beginWithOwnRings_11 rfl (by decide) rfl ?_
    replace h := obind_some h
    obtain ⟨w11, hE12, h⟩ := h
    refine tm_lcp [0, 1] rfl ?_
    refine okX0_beginWithOwnRings_l12  FU 0 M2 _ hE12 (fun M13 e => ?_)
    subst e
    obtain rfl := Option.some.inj h
    exact tm_vret rfl dX0_beginWithOwnRings_61
  exact TMet.of (by decide) (Nat.le_of_ble_eq_true rfl) key
theorem wfX0_27 : Cond.fieldLink RX0 27 "EvenFlow$Beat" "reached" "[J" ∈ tgd := (tgd_t 283 (by decide +kernel) (by decide +kernel))
theorem wfX0_31 : Cond.fieldLink RX0 31 "EvenFlow$Beat" "reachedBy" "[I" ∈ tgd := (tgd_t 284 (by decide +kernel) (by decide +kernel))
abbrev iX0_reachFurther : tY := (RX0, cX0_reachFurther, 6, some .int, "reachFurther")
abbrev rmX0_reachFurther : Room := { frames := 0, cells := 0, slots := 0, locals := 0 }
def fX0_reachFurther_l5  : Nat → Int32 → Int32 → tM → Option (Int32 × tM)
  | 0, _, _, _ => none
  | n + 1, y1, y2, M =>
    if (mI M 0 0 10) ≤ y2 then (
    some ((y1, M))
    ) else (
    chk (inb y2 (mN M 108 0)) <|
    bnd (mI M 108 0 (y2.toNatClampNeg)) fun x3 =>
    chk (inb x3 (mN M 111 0)) <|
    chk (inb x3 (mN M 105 0)) <|
    chk (inb y2 (mN M 109 0)) <|
    bnd (((mL M 111 0 (x3.toNatClampNeg)) + ((mL M 0 0 2) * ((mI M 105 0 (x3.toNatClampNeg)).toInt64))) - ((mL M 0 0 1) * ((mI M 109 0 (y2.toNatClampNeg)).toInt64))) fun x7 =>
    chk (inb y2 (mN M 107 0)) <|
    chk (inb (mI M 107 0 (y2.toNatClampNeg)) (mN M 111 0)) <|
    Option.bind (α := Int32 × tM) (
    if (lg_cmp x7 (mL M 111 0 ((mI M 107 0 (y2.toNatClampNeg)).toNatClampNeg))) ≤ 0 then (
    some ((y1, M))
    ) else (
    chk (inb y2 (mN M 107 0)) <|
    chk (inb (mI M 107 0 (y2.toNatClampNeg)) (mN M 111 0)) <|
    bnd (sL M 111 0 ((mI M 107 0 (y2.toNatClampNeg)).toNatClampNeg) x7) fun M13 =>
    chk (inb y2 (mN M13 107 0)) <|
    chk (inb (mI M13 107 0 (y2.toNatClampNeg)) (mN M13 112 0)) <|
    bnd (sI M13 112 0 ((mI M13 107 0 (y2.toNatClampNeg)).toNatClampNeg) y2) fun M16 =>
    chk (inb y2 (mN M16 107 0)) <|
    bnd (mI M16 107 0 (y2.toNatClampNeg)) fun x18 =>
    some ((x18, M16))
    )
    ) fun (x11, M12) =>
    bnd (y2 + 1) fun x19 =>
    fX0_reachFurther_l5 n x11 x19 M12
    )
def fX0_reachFurther  (M : tM) : Option (Int32 × tM) :=
  Option.bind (fX0_reachFurther_l5 FU (-9) 0 M) fun (x22, M23) =>
  some ((x22, M23))
set_option maxHeartbeats 4000000 in
set_option maxRecDepth 100000 in
theorem okX0_reachFurther_l5 {g : tG}  {r : Option tV} {Mz : tM} : ∀ (n : Nat) (y1 : Int32) (y2 : Int32) (M : tM) (w : Int32 × tM), fX0_reachFurther_l5 n y1 y2 M = some w → (∀ (w1 : Int32) (Mw : tM), (w1, Mw) = w → TW g iX0_reachFurther rmX0_reachFurther 0 0 r Mz 0 0 109 [(1, ti w1)] [] Mw) → TW g iX0_reachFurther rmX0_reachFurther 0 0 r Mz 0 0 5 [(0, tr 0 0), (1, ti y1), (2, ti y2)] [] M := by
  intro n
  induction n with
  | zero => intro y1 y2 M w h; cases h
  | succ n ih =>
    intro y1 y2 M w h J
    rw [fX0_reachFurther_l5] at h
    refine tm_iload_n dX0_reachFurther_5 rfl rfl ?_
    refine tm_aload_n dX0_reachFurther_6 rfl rfl ?_
    refine tm_get kX0 rfl (j := 10) (by decide) wfX0_70 dX0_reachFurther_7 (v := ti (mI M 0 0 10)) rfl ?_
    refine tm_icmp_ge (tgt := 109) dX0_reachFurther_10 (by decide) (fun c1 => ?_) (fun c1 => ?_)
    · rw [if_pos c1] at h
      obtain rfl := Option.some.inj h
      refine tm_lcp [1] rfl ?_
      exact J _ _ rfl
    · rw [if_neg c1] at h
      refine tm_aload_n dX0_reachFurther_13 rfl rfl ?_
      refine tm_get kX0 rfl (j := 8) (by decide) wfX0_21 dX0_reachFurther_14 (v := tr 108 0) rfl ?_
      refine tm_iload_n dX0_reachFurther_17 rfl rfl ?_
      replace h := chk_some h
      obtain ⟨b2, h⟩ := h
      refine tm_iald rfl dX0_reachFurther_18 (inb_vp b2) ?_
      replace h := bnd_some h
      obtain ⟨x3, ex3, h⟩ := h
      refine tm_nmI ex3 ?_
      refine tm_istore_n (lc' := [(3, ti x3), (0, tr 0 0), (1, ti y1), (2, ti y2)]) dX0_reachFurther_19 rfl (by decide) rfl ?_
      refine tm_aload_n dX0_reachFurther_20 rfl rfl ?_
      refine tm_get kX0 rfl (j := 11) (by decide) wfX0_27 dX0_reachFurther_21 (v := tr 111 0) rfl ?_
      refine tm_iload_n dX0_reachFurther_24 rfl rfl ?_
      replace h := chk_some h
      obtain ⟨b4, h⟩ := h
      refine tm_lald rfl dX0_reachFurther_25 (inb_vp b4) ?_
      refine tm_aload_n dX0_reachFurther_26 rfl rfl ?_
      refine tm_get kX0 rfl (j := 2) (by decide) wfX0_144 dX0_reachFurther_27 (v := tl (mL M 0 0 2)) rfl ?_
      refine tm_aload_n dX0_reachFurther_30 rfl rfl ?_
      refine tm_get kX0 rfl (j := 5) (by decide) wfX0_15 dX0_reachFurther_31 (v := tr 105 0) rfl ?_
      refine tm_iload_n dX0_reachFurther_34 rfl rfl ?_
      replace h := chk_some h
      obtain ⟨b5, h⟩ := h
      refine tm_iald rfl dX0_reachFurther_35 (inb_vp b5) ?_
      refine tm_i2l dX0_reachFurther_36 ?_
      refine tm_lmul dX0_reachFurther_37 ?_
      refine tm_ladd dX0_reachFurther_38 ?_
      refine tm_aload_n dX0_reachFurther_39 rfl rfl ?_
      refine tm_get kX0 rfl (j := 1) (by decide) wfX0_140 dX0_reachFurther_40 (v := tl (mL M 0 0 1)) rfl ?_
      refine tm_aload_n dX0_reachFurther_43 rfl rfl ?_
      refine tm_get kX0 rfl (j := 9) (by decide) wfX0_24 dX0_reachFurther_44 (v := tr 109 0) rfl ?_
      refine tm_iload_n dX0_reachFurther_47 rfl rfl ?_
      replace h := chk_some h
      obtain ⟨b6, h⟩ := h
      refine tm_iald rfl dX0_reachFurther_48 (inb_vp b6) ?_
      refine tm_i2l dX0_reachFurther_49 ?_
      refine tm_lmul dX0_reachFurther_50 ?_
      refine tm_lsub dX0_reachFurther_51 ?_
      replace h := bnd_some h
      obtain ⟨x7, ex7, h⟩ := h
      refine tm_nmL ex7 ?_
      refine tm_lstore (lc' := [(4, tl x7), (3, ti x3), (0, tr 0 0), (1, ti y1), (2, ti y2)]) dX0_reachFurther_52 (by decide) rfl ?_
      refine tm_lload dX0_reachFurther_54 rfl ?_
      refine tm_aload_n dX0_reachFurther_56 rfl rfl ?_
      refine tm_get kX0 rfl (j := 11) (by decide) wfX0_27 dX0_reachFurther_57 (v := tr 111 0) rfl ?_
      refine tm_aload_n dX0_reachFurther_60 rfl rfl ?_
      refine tm_get kX0 rfl (j := 7) (by decide) wfX0_18 dX0_reachFurther_61 (v := tr 107 0) rfl ?_
      refine tm_iload_n dX0_reachFurther_64 rfl rfl ?_
      replace h := chk_some h
      obtain ⟨b8, h⟩ := h
      refine tm_iald rfl dX0_reachFurther_65 (inb_vp b8) ?_
      replace h := chk_some h
      obtain ⟨b9, h⟩ := h
      refine tm_lald rfl dX0_reachFurther_66 (inb_vp b9) ?_
      refine tm_lcmp dX0_reachFurther_67 ?_
      replace h := obind_some h
      obtain ⟨⟨x11, M12⟩, hE13, h⟩ := h
      dsimp only at h
      have J14 : TW g iX0_reachFurther rmX0_reachFurther 0 0 r Mz 0 0 103 [(0, tr 0 0), (1, ti x11), (2, ti y2)] [] M12 := by
        replace h := bnd_some h
        obtain ⟨x19, ex19, h⟩ := h
        refine tm_iinc (v := x19) (lc' := [(2, ti x19), (0, tr 0 0), (1, ti x11)]) dX0_reachFurther_103 rfl (by rw [ex19]; rfl) (by decide) rfl ?_
        refine tm_goto (tgt := 5) dX0_reachFurther_106 (by decide) ?_
        refine tm_lcp [0, 1, 2] rfl ?_
        exact ih x11 x19 M12 _ h J
      refine tm_if_le (tgt := 103) dX0_reachFurther_68 (by decide) (fun c10 => ?_) (fun c10 => ?_)
      · rw [if_pos c10] at hE13
        obtain ⟨rfl, rfl⟩ := pj2 hE13
        refine tm_lcp [0, 1, 2] rfl ?_
        exact J14
      · rw [if_neg c10] at hE13
        refine tm_aload_n dX0_reachFurther_71 rfl rfl ?_
        refine tm_get kX0 rfl (j := 11) (by decide) wfX0_27 dX0_reachFurther_72 (v := tr 111 0) rfl ?_
        refine tm_aload_n dX0_reachFurther_75 rfl rfl ?_
        refine tm_get kX0 rfl (j := 7) (by decide) wfX0_18 dX0_reachFurther_76 (v := tr 107 0) rfl ?_
        refine tm_iload_n dX0_reachFurther_79 rfl rfl ?_
        replace hE13 := chk_some hE13
        obtain ⟨b11, hE13⟩ := hE13
        refine tm_iald rfl dX0_reachFurther_80 (inb_vp b11) ?_
        refine tm_lload dX0_reachFurther_81 rfl ?_
        replace hE13 := chk_some hE13
        obtain ⟨b12, hE13⟩ := hE13
        replace hE13 := bnd_some hE13
        obtain ⟨M13, eM13, hE13⟩ := hE13
        refine tm_last rfl dX0_reachFurther_83 (inb_vp b12) ?_
        refine tm_nmM eM13 ?_
        refine tm_aload_n dX0_reachFurther_84 rfl rfl ?_
        refine tm_get kX0 rfl (j := 12) (by decide) wfX0_31 dX0_reachFurther_85 (v := tr 112 0) rfl ?_
        refine tm_aload_n dX0_reachFurther_88 rfl rfl ?_
        refine tm_get kX0 rfl (j := 7) (by decide) wfX0_18 dX0_reachFurther_89 (v := tr 107 0) rfl ?_
        refine tm_iload_n dX0_reachFurther_92 rfl rfl ?_
        replace hE13 := chk_some hE13
        obtain ⟨b14, hE13⟩ := hE13
        refine tm_iald rfl dX0_reachFurther_93 (inb_vp b14) ?_
        refine tm_iload_n dX0_reachFurther_94 rfl rfl ?_
        replace hE13 := chk_some hE13
        obtain ⟨b15, hE13⟩ := hE13
        replace hE13 := bnd_some hE13
        obtain ⟨M16, eM16, hE13⟩ := hE13
        refine tm_iast rfl dX0_reachFurther_95 (inb_vp b15) ?_
        refine tm_nmM eM16 ?_
        refine tm_aload_n dX0_reachFurther_96 rfl rfl ?_
        refine tm_get kX0 rfl (j := 7) (by decide) wfX0_18 dX0_reachFurther_97 (v := tr 107 0) rfl ?_
        refine tm_iload_n dX0_reachFurther_100 rfl rfl ?_
        replace hE13 := chk_some hE13
        obtain ⟨b17, hE13⟩ := hE13
        refine tm_iald rfl dX0_reachFurther_101 (inb_vp b17) ?_
        replace hE13 := bnd_some hE13
        obtain ⟨x18, ex18, hE13⟩ := hE13
        refine tm_nmI ex18 ?_
        refine tm_istore_n (lc' := [(1, ti x18), (4, tl x7), (3, ti x3), (0, tr 0 0), (2, ti y2)]) dX0_reachFurther_102 rfl (by decide) rfl ?_
        obtain ⟨rfl, rfl⟩ := pj2 hE13
        refine tm_lcp [0, 1, 2] rfl ?_
        exact J14
set_option maxHeartbeats 4000000 in
set_option maxRecDepth 100000 in
theorem okX0_reachFurther {g : tG}  {M : tM} {v : Int32} {Mz : tM} (h : fX0_reachFurther  M = some ((v, Mz))) : TMet g yX0_reachFurther (Cond.code yX0_reachFurther cX0_reachFurther 6 (some .int) :: tgd) rmX0_reachFurther [tr 0 0] M (some (ti v)) Mz 0 0 := by
  have key : TW g iX0_reachFurther rmX0_reachFurther 0 0 (some (ti v)) Mz 0 0 0 [(0, tr 0 0)] [] M := by
    rw [fX0_reachFurther] at h
    refine tm_bipush (v := (-9)) dX0_reachFurther_0 (by decide) ?_
    refine tm_istore_n (lc' := [(1, ti (-9)), (0, tr 0 0)]) dX0_reachFurther_2 rfl (by decide) rfl ?_
    refine tm_iconst (v := 0) dX0_reachFurther_3 (by decide) ?_
    refine tm_istore_n (lc' := [(2, ti 0), (1, ti (-9)), (0, tr 0 0)]) dX0_reachFurther_4 rfl (by decide) rfl ?_
    replace h := obind_some h
    obtain ⟨w20, hE21, h⟩ := h
    refine tm_lcp [0, 1, 2] rfl ?_
    refine okX0_reachFurther_l5  FU (-9) 0 M _ hE21 (fun x22 M23 e => ?_)
    subst e
    dsimp only at h
    refine tm_iload_n dX0_reachFurther_109 rfl rfl ?_
    obtain ⟨rfl, rfl⟩ := pj2 h
    exact tm_iret rfl dX0_reachFurther_110
  exact TMet.of (by decide) (Nat.le_of_ble_eq_true rfl) key
abbrev iX10_commonDivisor : tY := (RX10, cX10_commonDivisor, 7, some .long, "commonDivisor")
abbrev rmX10_commonDivisor : Room := { frames := 0, cells := 0, slots := 0, locals := 0 }
def fX10_commonDivisor_l3  (M : tM) : Nat → Int64 → Int64 → Int32 → Option (Int64)
  | 0, _, _, _ => none
  | n + 1, y0, y2, y4 =>
    if 100 ≤ y4 then (
    some y0
    ) else (
    if (lg_cmp y2 0) = 0 then (
    some y0
    ) else (
    chk (nz8 y2) <|
    bnd (y0 - y0 / y2 * y2) fun x4 =>
    bnd (y4 + 1) fun x5 =>
    fX10_commonDivisor_l3 M n y2 x4 x5
    )
    )
def fX10_commonDivisor (a1 : Int64) (a2 : Int64) (M : tM) : Option (Int64) :=
  Option.bind (fX10_commonDivisor_l3 M FU a1 a2 0) fun x8 =>
  if (lg_cmp x8 0) ≤ 0 then (
  some 1
  ) else (
  some x8
  )
set_option maxHeartbeats 4000000 in
set_option maxRecDepth 100000 in
theorem okX10_commonDivisor_l3 {g : tG}  (M : tM) {r : Option tV} {Mz : tM} : ∀ (n : Nat) (y0 : Int64) (y2 : Int64) (y4 : Int32) (w : Int64), fX10_commonDivisor_l3 M n y0 y2 y4 = some w → (∀ (w0 : Int64), w0 = w → TW g iX10_commonDivisor rmX10_commonDivisor 0 0 r Mz 0 0 32 [(0, tl w0)] [] M) → TW g iX10_commonDivisor rmX10_commonDivisor 0 0 r Mz 0 0 3 [(0, tl y0), (2, tl y2), (4, ti y4)] [] M := by
  intro n
  induction n with
  | zero => intro y0 y2 y4 w h; cases h
  | succ n ih =>
    intro y0 y2 y4 w h J
    rw [fX10_commonDivisor_l3] at h
    refine tm_iload dX10_commonDivisor_3 rfl ?_
    refine tm_bipush (v := 100) dX10_commonDivisor_5 (by decide) ?_
    refine tm_icmp_ge (tgt := 32) dX10_commonDivisor_7 (by decide) (fun c1 => ?_) (fun c1 => ?_)
    · rw [if_pos c1] at h
      obtain rfl := Option.some.inj h
      refine tm_lcp [0] rfl ?_
      exact J _ rfl
    · rw [if_neg c1] at h
      refine tm_lload_n dX10_commonDivisor_10 rfl rfl ?_
      refine tm_lconst (v := 0) dX10_commonDivisor_11 (by decide) ?_
      refine tm_lcmp dX10_commonDivisor_12 ?_
      refine tm_if_eq (tgt := 32) dX10_commonDivisor_13 (by decide) (fun c2 => ?_) (fun c2 => ?_)
      · rw [if_pos c2] at h
        obtain rfl := Option.some.inj h
        refine tm_lcp [0] rfl ?_
        exact J _ rfl
      · rw [if_neg c2] at h
        refine tm_lload_n dX10_commonDivisor_16 rfl rfl ?_
        refine tm_lload_n dX10_commonDivisor_17 rfl rfl ?_
        replace h := chk_some h
        obtain ⟨b3, h⟩ := h
        refine tm_lrem dX10_commonDivisor_18 (nz8_ne b3) ?_
        replace h := bnd_some h
        obtain ⟨x4, ex4, h⟩ := h
        refine tm_nmL ex4 ?_
        refine tm_lstore (lc' := [(5, tl x4), (0, tl y0), (2, tl y2), (4, ti y4)]) dX10_commonDivisor_19 (by decide) rfl ?_
        refine tm_lload_n dX10_commonDivisor_21 rfl rfl ?_
        refine tm_lstore_n (lc' := [(0, tl y2), (5, tl x4), (2, tl y2), (4, ti y4)]) dX10_commonDivisor_22 rfl (by decide) rfl ?_
        refine tm_lload dX10_commonDivisor_23 rfl ?_
        refine tm_lstore_n (lc' := [(2, tl x4), (0, tl y2), (5, tl x4), (4, ti y4)]) dX10_commonDivisor_25 rfl (by decide) rfl ?_
        replace h := bnd_some h
        obtain ⟨x5, ex5, h⟩ := h
        refine tm_iinc (v := x5) (lc' := [(4, ti x5), (2, tl x4), (0, tl y2), (5, tl x4)]) dX10_commonDivisor_26 rfl (by rw [ex5]; rfl) (by decide) rfl ?_
        refine tm_goto (tgt := 3) dX10_commonDivisor_29 (by decide) ?_
        refine tm_lcp [0, 2, 4] rfl ?_
        exact ih y2 x4 x5 _ h J
set_option maxHeartbeats 4000000 in
set_option maxRecDepth 100000 in
theorem okX10_commonDivisor {g : tG} {a1 : Int64} {a2 : Int64} {M : tM} {v : Int64} (h : fX10_commonDivisor a1 a2 M = some v) : TMet g yX10_commonDivisor (Cond.code yX10_commonDivisor cX10_commonDivisor 7 (some .long) :: tgd) rmX10_commonDivisor [tl a1, tl a2] M (some (tl v)) M 0 0 := by
  have key : TW g iX10_commonDivisor rmX10_commonDivisor 0 0 (some (tl v)) M 0 0 0 [(0, tl a1), (2, tl a2)] [] M := by
    rw [fX10_commonDivisor] at h
    refine tm_iconst (v := 0) dX10_commonDivisor_0 (by decide) ?_
    refine tm_istore (lc' := [(4, ti 0), (0, tl a1), (2, tl a2)]) dX10_commonDivisor_1 (by decide) rfl ?_
    replace h := obind_some h
    obtain ⟨w6, hE7, h⟩ := h
    refine tm_lcp [0, 2, 4] rfl ?_
    refine okX10_commonDivisor_l3 M FU a1 a2 0 _ hE7 (fun x8 e => ?_)
    subst e
    refine tm_lload_n dX10_commonDivisor_32 rfl rfl ?_
    refine tm_lconst (v := 0) dX10_commonDivisor_33 (by decide) ?_
    refine tm_lcmp dX10_commonDivisor_34 ?_
    refine tm_if_le (tgt := 42) dX10_commonDivisor_35 (by decide) (fun c9 => ?_) (fun c9 => ?_)
    · rw [if_pos c9] at h
      refine tm_lconst (v := 1) dX10_commonDivisor_42 (by decide) ?_
      obtain rfl := Option.some.inj h
      exact tm_lret rfl dX10_commonDivisor_43
    · rw [if_neg c9] at h
      refine tm_lload_n dX10_commonDivisor_38 rfl rfl ?_
      refine tm_goto (tgt := 43) dX10_commonDivisor_39 (by decide) ?_
      obtain rfl := Option.some.inj h
      exact tm_lret rfl dX10_commonDivisor_43
  exact TMet.of (by decide) (Nat.le_of_ble_eq_true rfl) key
theorem wcX0_167 : tCB RX0 167 yX10_commonDivisor cX10_commonDivisor 7 (some .long) 2 ∧ (RX0, 167, yX10_commonDivisor, "EvenFlow") ∈ tNest ∧ Cond.static yX10_commonDivisor ∈ tgd := ⟨⟨(tgd_t 731 (by decide +kernel) (by decide +kernel)), (tgd_t 1 (by decide +kernel) (by decide +kernel)), by decide, by decide +kernel⟩, (by decide +kernel), (tgd_t 730 (by decide +kernel) (by decide +kernel))⟩
abbrev iX0_takeRing : tY := (RX0, cX0_takeRing, 9, some .boolean, "takeRing")
abbrev rmX0_takeRing : Room := { frames := 1, cells := 0, slots := 0, locals := 26 }
def fX0_takeRing_l11 (z1 : Int32) (M : tM) : Nat → Int64 → Int64 → Int32 → Int32 → Option ((Int32 × tM) ⊕ (Int64 × Int64))
  | 0, _, _, _, _ => none
  | n + 1, y2, y4, y6, y7 =>
    if (mI M 0 0 6) ≤ y7 then (
    some (Sum.inr ((y2, y4)))
    ) else (
    chk (inb y6 (mN M 112 0)) <|
    bnd (mI M 112 0 (y6.toNatClampNeg)) fun x3 =>
    if 0 ≤ x3 then (
    chk (inb x3 (mN M 108 0)) <|
    bnd (mI M 108 0 (x3.toNatClampNeg)) fun x6 =>
    chk (inb x6 (mN M 105 0)) <|
    bnd (y2 + ((mI M 105 0 (x6.toNatClampNeg)).toInt64)) fun x8 =>
    chk (inb x3 (mN M 109 0)) <|
    bnd (y4 + ((mI M 109 0 (x3.toNatClampNeg)).toInt64)) fun x10 =>
    if x6 = z1 then (
    some (Sum.inr ((x8, x10)))
    ) else (
    bnd (y7 + 1) fun x12 =>
    fX0_takeRing_l11 z1 M n x8 x10 x6 x12
    )
    ) else (
    some (Sum.inl ((0, M)))
    )
    )
def fX0_takeRing (a1 : Int32) (M : tM) : Option (Int32 × tM) :=
  Option.bind (fX0_takeRing_l11 a1 M FU 0 0 a1 0) fun w13 => match w13 with
  | Sum.inl q24 => some q24
  | Sum.inr ((x15, x16)) =>
    if 0 < (lg_cmp x16 0) then (
    (fX10_commonDivisor x16 x15 M).bind fun x18 =>
    chk (nz8 x18) <|
    bnd (sL M 0 0 1 (x15 / x18)) fun M21 =>
    chk (nz8 x18) <|
    bnd (sL M21 0 0 2 (x16 / x18)) fun M23 =>
    some ((1, M23))
    ) else (
    some ((0, M))
    )
set_option maxHeartbeats 4000000 in
set_option maxRecDepth 100000 in
theorem okX0_takeRing_l11 {g : tG} (z1 : Int32) (M : tM) {r : Option tV} {Mz : tM} : ∀ (n : Nat) (y2 : Int64) (y4 : Int64) (y6 : Int32) (y7 : Int32) (w : (Int32 × tM) ⊕ (Int64 × Int64)), fX0_takeRing_l11 z1 M n y2 y4 y6 y7 = some w → (∀ (w2 : Int64) (w4 : Int64), Sum.inr ((w2, w4)) = w → TW g iX0_takeRing rmX0_takeRing 0 0 r Mz 0 0 84 [(0, tr 0 0), (2, tl w2), (4, tl w4)] [] M) → (∀ (v : Int32) (Mv : tM), Sum.inl ((v, Mv)) = w → r = (some (ti v)) ∧ Mz = Mv) → TW g iX0_takeRing rmX0_takeRing 0 0 r Mz 0 0 11 [(0, tr 0 0), (1, ti z1), (2, tl y2), (4, tl y4), (6, ti y6), (7, ti y7)] [] M := by
  intro n
  induction n with
  | zero => intro y2 y4 y6 y7 w h; cases h
  | succ n ih =>
    intro y2 y4 y6 y7 w h J JR
    rw [fX0_takeRing_l11] at h
    refine tm_iload dX0_takeRing_11 rfl ?_
    refine tm_aload_n dX0_takeRing_13 rfl rfl ?_
    refine tm_get kX0 rfl (j := 6) (by decide) wfX0_67 dX0_takeRing_14 (v := ti (mI M 0 0 6)) rfl ?_
    refine tm_icmp_ge (tgt := 84) dX0_takeRing_17 (by decide) (fun c1 => ?_) (fun c1 => ?_)
    · rw [if_pos c1] at h
      obtain rfl := Option.some.inj h
      refine tm_lcp [0, 2, 4] rfl ?_
      exact J _ _ rfl
    · rw [if_neg c1] at h
      refine tm_aload_n dX0_takeRing_20 rfl rfl ?_
      refine tm_get kX0 rfl (j := 12) (by decide) wfX0_31 dX0_takeRing_21 (v := tr 112 0) rfl ?_
      refine tm_iload dX0_takeRing_24 rfl ?_
      replace h := chk_some h
      obtain ⟨b2, h⟩ := h
      refine tm_iald rfl dX0_takeRing_26 (inb_vp b2) ?_
      replace h := bnd_some h
      obtain ⟨x3, ex3, h⟩ := h
      refine tm_nmI ex3 ?_
      refine tm_istore (lc' := [(8, ti x3), (0, tr 0 0), (1, ti z1), (2, tl y2), (4, tl y4), (6, ti y6), (7, ti y7)]) dX0_takeRing_27 (by decide) rfl ?_
      refine tm_iload dX0_takeRing_29 rfl ?_
      refine tm_if_ge (tgt := 36) dX0_takeRing_31 (by decide) (fun c4 => ?_) (fun c4 => ?_)
      · rw [if_pos c4] at h
        refine tm_aload_n dX0_takeRing_36 rfl rfl ?_
        refine tm_get kX0 rfl (j := 8) (by decide) wfX0_21 dX0_takeRing_37 (v := tr 108 0) rfl ?_
        refine tm_iload dX0_takeRing_40 rfl ?_
        replace h := chk_some h
        obtain ⟨b5, h⟩ := h
        refine tm_iald rfl dX0_takeRing_42 (inb_vp b5) ?_
        replace h := bnd_some h
        obtain ⟨x6, ex6, h⟩ := h
        refine tm_nmI ex6 ?_
        refine tm_istore (lc' := [(6, ti x6), (8, ti x3), (0, tr 0 0), (1, ti z1), (2, tl y2), (4, tl y4), (7, ti y7)]) dX0_takeRing_43 (by decide) rfl ?_
        refine tm_lload_n dX0_takeRing_45 rfl rfl ?_
        refine tm_aload_n dX0_takeRing_46 rfl rfl ?_
        refine tm_get kX0 rfl (j := 5) (by decide) wfX0_15 dX0_takeRing_47 (v := tr 105 0) rfl ?_
        refine tm_iload dX0_takeRing_50 rfl ?_
        replace h := chk_some h
        obtain ⟨b7, h⟩ := h
        refine tm_iald rfl dX0_takeRing_52 (inb_vp b7) ?_
        refine tm_i2l dX0_takeRing_53 ?_
        refine tm_ladd dX0_takeRing_54 ?_
        replace h := bnd_some h
        obtain ⟨x8, ex8, h⟩ := h
        refine tm_nmL ex8 ?_
        refine tm_lstore_n (lc' := [(2, tl x8), (6, ti x6), (8, ti x3), (0, tr 0 0), (1, ti z1), (4, tl y4), (7, ti y7)]) dX0_takeRing_55 rfl (by decide) rfl ?_
        refine tm_lload dX0_takeRing_56 rfl ?_
        refine tm_aload_n dX0_takeRing_58 rfl rfl ?_
        refine tm_get kX0 rfl (j := 9) (by decide) wfX0_24 dX0_takeRing_59 (v := tr 109 0) rfl ?_
        refine tm_iload dX0_takeRing_62 rfl ?_
        replace h := chk_some h
        obtain ⟨b9, h⟩ := h
        refine tm_iald rfl dX0_takeRing_64 (inb_vp b9) ?_
        refine tm_i2l dX0_takeRing_65 ?_
        refine tm_ladd dX0_takeRing_66 ?_
        replace h := bnd_some h
        obtain ⟨x10, ex10, h⟩ := h
        refine tm_nmL ex10 ?_
        refine tm_lstore (lc' := [(4, tl x10), (2, tl x8), (6, ti x6), (8, ti x3), (0, tr 0 0), (1, ti z1), (7, ti y7)]) dX0_takeRing_67 (by decide) rfl ?_
        refine tm_iload dX0_takeRing_69 rfl ?_
        refine tm_iload_n dX0_takeRing_71 rfl rfl ?_
        refine tm_icmp_ne (tgt := 78) dX0_takeRing_72 (by decide) (fun c11 => ?_) (fun c11 => ?_)
        · rw [if_neg c11] at h
          replace h := bnd_some h
          obtain ⟨x12, ex12, h⟩ := h
          refine tm_iinc (v := x12) (lc' := [(7, ti x12), (4, tl x10), (2, tl x8), (6, ti x6), (8, ti x3), (0, tr 0 0), (1, ti z1)]) dX0_takeRing_78 rfl (by rw [ex12]; rfl) (by decide) rfl ?_
          refine tm_goto (tgt := 11) dX0_takeRing_81 (by decide) ?_
          refine tm_lcp [0, 1, 2, 4, 6, 7] rfl ?_
          exact ih x8 x10 x6 x12 _ h J JR
        · rw [if_pos c11] at h
          refine tm_goto (tgt := 84) dX0_takeRing_75 (by decide) ?_
          obtain rfl := Option.some.inj h
          refine tm_lcp [0, 2, 4] rfl ?_
          exact J _ _ rfl
      · rw [if_neg c4] at h
        refine tm_iconst (v := 0) dX0_takeRing_34 (by decide) ?_
        obtain rfl := Option.some.inj h
        obtain ⟨rfl, rfl⟩ := JR _ _ rfl
        exact tm_zret (by decide) rfl dX0_takeRing_35
set_option maxHeartbeats 4000000 in
set_option maxRecDepth 100000 in
theorem okX0_takeRing {g : tG} {a1 : Int32} {M : tM} {v : Int32} {Mz : tM} (h : fX0_takeRing a1 M = some ((v, Mz))) : TMet g yX0_takeRing (Cond.code yX0_takeRing cX0_takeRing 9 (some .boolean) :: tgd) rmX0_takeRing [tr 0 0, ti a1] M (some (ti v)) Mz 0 0 := by
  have key : TW g iX0_takeRing rmX0_takeRing 0 0 (some (ti v)) Mz 0 0 0 [(0, tr 0 0), (1, ti a1)] [] M := by
    rw [fX0_takeRing] at h
    refine tm_lconst (v := 0) dX0_takeRing_0 (by decide) ?_
    refine tm_lstore_n (lc' := [(2, tl 0), (0, tr 0 0), (1, ti a1)]) dX0_takeRing_1 rfl (by decide) rfl ?_
    refine tm_lconst (v := 0) dX0_takeRing_2 (by decide) ?_
    refine tm_lstore (lc' := [(4, tl 0), (2, tl 0), (0, tr 0 0), (1, ti a1)]) dX0_takeRing_3 (by decide) rfl ?_
    refine tm_iload_n dX0_takeRing_5 rfl rfl ?_
    refine tm_istore (lc' := [(6, ti a1), (4, tl 0), (2, tl 0), (0, tr 0 0), (1, ti a1)]) dX0_takeRing_6 (by decide) rfl ?_
    refine tm_iconst (v := 0) dX0_takeRing_8 (by decide) ?_
    refine tm_istore (lc' := [(7, ti 0), (6, ti a1), (4, tl 0), (2, tl 0), (0, tr 0 0), (1, ti a1)]) dX0_takeRing_9 (by decide) rfl ?_
    replace h := obind_some h
    obtain ⟨w13, hE14, h⟩ := h
    refine tm_lcp [0, 1, 2, 4, 6, 7] rfl ?_
    refine okX0_takeRing_l11 a1 M FU 0 0 a1 0 _ hE14 (fun x15 x16 e => ?_) (fun v25 Mv26 e => ?_)
    · subst e
      dsimp only at h
      refine tm_lload dX0_takeRing_84 rfl ?_
      refine tm_lconst (v := 0) dX0_takeRing_86 (by decide) ?_
      refine tm_lcmp dX0_takeRing_87 ?_
      refine tm_if_gt (tgt := 93) dX0_takeRing_88 (by decide) (fun c17 => ?_) (fun c17 => ?_)
      · rw [if_pos c17] at h
        refine tm_lload dX0_takeRing_93 rfl ?_
        refine tm_lload_n dX0_takeRing_95 rfl rfl ?_
        replace h := obind_some h
        obtain ⟨x18, hc19, h⟩ := h
        refine tm_callSN (avs := [tl x16, tl x15]) (st := []) (okX10_commonDivisor hc19) wcX0_167.1 wcX0_167.2.1 wcX0_167.2.2 ⟨rfl, rfl, Nat.le_of_ble_eq_true rfl, Nat.le_of_ble_eq_true rfl⟩ rfl (Nat.le_of_ble_eq_true rfl) ⟨Nat.zero_le _, Nat.zero_le _⟩ dX0_takeRing_96 ?_
        refine tm_lstore (lc' := [(7, tl x18), (0, tr 0 0), (2, tl x15), (4, tl x16)]) dX0_takeRing_99 (by decide) rfl ?_
        refine tm_aload_n dX0_takeRing_101 rfl rfl ?_
        refine tm_lload_n dX0_takeRing_102 rfl rfl ?_
        refine tm_lload dX0_takeRing_103 rfl ?_
        replace h := chk_some h
        obtain ⟨b20, h⟩ := h
        refine tm_ldiv dX0_takeRing_105 (nz8_ne b20) ?_
        replace h := bnd_some h
        obtain ⟨M21, eM21, h⟩ := h
        refine tm_put kX0 rfl (j := 1) (by decide) wfX0_140 rfl dX0_takeRing_106 (fun _ => ⟨rfl, rfl⟩) (tPut_L (x15 / x18) rfl) ?_
        refine tm_nmM eM21 ?_
        refine tm_aload_n dX0_takeRing_109 rfl rfl ?_
        refine tm_lload dX0_takeRing_110 rfl ?_
        refine tm_lload dX0_takeRing_112 rfl ?_
        replace h := chk_some h
        obtain ⟨b22, h⟩ := h
        refine tm_ldiv dX0_takeRing_114 (nz8_ne b22) ?_
        replace h := bnd_some h
        obtain ⟨M23, eM23, h⟩ := h
        refine tm_put kX0 rfl (j := 2) (by decide) wfX0_144 rfl dX0_takeRing_115 (fun _ => ⟨rfl, rfl⟩) (tPut_L (x16 / x18) rfl) ?_
        refine tm_nmM eM23 ?_
        refine tm_iconst (v := 1) dX0_takeRing_118 (by decide) ?_
        obtain ⟨rfl, rfl⟩ := pj2 h
        exact tm_zret (by decide) rfl dX0_takeRing_119
      · rw [if_neg c17] at h
        refine tm_iconst (v := 0) dX0_takeRing_91 (by decide) ?_
        obtain ⟨rfl, rfl⟩ := pj2 h
        exact tm_zret (by decide) rfl dX0_takeRing_92
    · subst e
      obtain ⟨rfl, rfl⟩ := pj2 h
      exact ⟨rfl, rfl⟩
  exact TMet.of (by decide) (Nat.le_of_ble_eq_true rfl) key
theorem wcX0_150 : tCB RX0 150 yJ7_fill_d0a16 cJ7_fill_d0a16 5 (none) 2 ∧ Cond.methodLink RX0 150 yJ7_fill_d0a16 ∈ tgd ∧ Cond.static yJ7_fill_d0a16 ∈ tgd := ⟨⟨(tgd_t 647 (by decide +kernel) (by decide +kernel)), (tgd_t 14 (by decide +kernel) (by decide +kernel)), by decide, by decide +kernel⟩, (tgd_t 1049 (by decide +kernel) (by decide +kernel)), (tgd_t 646 (by decide +kernel) (by decide +kernel))⟩
theorem wcX0_156 : tCB RX0 156 yJ7_fill_53178 cJ7_fill_53178 4 (none) 2 ∧ Cond.methodLink RX0 156 yJ7_fill_53178 ∈ tgd ∧ Cond.static yJ7_fill_53178 ∈ tgd := ⟨⟨(tgd_t 535 (by decide +kernel) (by decide +kernel)), (tgd_t 14 (by decide +kernel) (by decide +kernel)), by decide, by decide +kernel⟩, (tgd_t 1050 (by decide +kernel) (by decide +kernel)), (tgd_t 534 (by decide +kernel) (by decide +kernel))⟩
theorem wcX0_159 : tCB RX0 159 yX0_reachFurther cX0_reachFurther 6 (some .int) 0 ∧ Cond.methodLink RX0 159 yX0_reachFurther ∈ tgd ∧ Cond.instanceMethod yX0_reachFurther ∈ tgd ∧ Cond.selects RX0 yX0_reachFurther yX0_reachFurther ∈ tgd := ⟨⟨(tgd_t 1054 (by decide +kernel) (by decide +kernel)), (tgd_t 8 (by decide +kernel) (by decide +kernel)), by decide, by decide +kernel⟩, (tgd_t 1051 (by decide +kernel) (by decide +kernel)), (tgd_t 1053 (by decide +kernel) (by decide +kernel)), (tgd_p 40 (by decide +kernel) (by decide +kernel))⟩
theorem wcX0_163 : tCB RX0 163 yX0_takeRing cX0_takeRing 9 (some .boolean) 1 ∧ Cond.methodLink RX0 163 yX0_takeRing ∈ tgd ∧ Cond.instanceMethod yX0_takeRing ∈ tgd ∧ Cond.selects RX0 yX0_takeRing yX0_takeRing ∈ tgd := ⟨⟨(tgd_t 1058 (by decide +kernel) (by decide +kernel)), (tgd_t 8 (by decide +kernel) (by decide +kernel)), by decide, by decide +kernel⟩, (tgd_t 1055 (by decide +kernel) (by decide +kernel)), (tgd_t 1057 (by decide +kernel) (by decide +kernel)), (tgd_p 41 (by decide +kernel) (by decide +kernel))⟩
abbrev iX0_findSlowerRing : tY := (RX0, cX0_findSlowerRing, 4, some .boolean, "findSlowerRing")
abbrev rmX0_findSlowerRing : Room := { frames := 2, cells := 0, slots := 0, locals := 54 }
def fX0_findSlowerRing_l22  : Nat → Int32 → Int32 → tM → Option ((Int32 × tM) ⊕ (Int32 × tM))
  | 0, _, _, _ => none
  | n + 1, y1, y2, M =>
    if (mI M 0 0 6) < y2 then (
    some (Sum.inr ((y1, M)))
    ) else (
    (fX0_reachFurther M).bind fun (x6, M8) =>
    if 0 ≤ x6 then (
    bnd (y2 + 1) fun x10 =>
    fX0_findSlowerRing_l22 n x6 x10 M8
    ) else (
    some (Sum.inl ((0, M8)))
    )
    )
def fX0_findSlowerRing_l51  (M : tM) : Nat → Int32 → Int32 → Option ((Int32 × tM) ⊕ (Int32))
  | 0, _, _ => none
  | n + 1, y2, y3 =>
    if (mI M 0 0 6) ≤ y3 then (
    some (Sum.inr y2)
    ) else (
    if y2 < 0 then (
    some (Sum.inl ((0, M)))
    ) else (
    chk (inb y2 (mN M 112 0)) <|
    if 0 ≤ (mI M 112 0 (y2.toNatClampNeg)) then (
    chk (inb y2 (mN M 112 0)) <|
    chk (inb (mI M 112 0 (y2.toNatClampNeg)) (mN M 108 0)) <|
    bnd (mI M 108 0 ((mI M 112 0 (y2.toNatClampNeg)).toNatClampNeg)) fun x21 =>
    bnd (y3 + 1) fun x22 =>
    fX0_findSlowerRing_l51 M n x21 x22
    ) else (
    some (Sum.inl ((0, M)))
    )
    )
    )
def fX0_findSlowerRing  (M : tM) : Option (Int32 × tM) :=
  (fJ7_fill_d0a16 111 0 0 M).bind fun M2 =>
  (fJ7_fill_53178 112 0 (-9) M2).bind fun M4 =>
  Option.bind (fX0_findSlowerRing_l22 FU (-9) 0 M4) fun w11 => match w11 with
  | Sum.inl q33 => some q33
  | Sum.inr ((x13, M14)) =>
    Option.bind (fX0_findSlowerRing_l51 M14 FU x13 0) fun w23 => match w23 with
    | Sum.inl q30 => some q30
    | Sum.inr x25 =>
      (fX0_takeRing x25 M14).bind fun (x26, M28) =>
      chk (tb x26) <|
      some ((x26, M28))
set_option maxHeartbeats 4000000 in
set_option maxRecDepth 100000 in
theorem okX0_findSlowerRing_l22 {g : tG}  {r : Option tV} {Mz : tM} : ∀ (n : Nat) (y1 : Int32) (y2 : Int32) (M : tM) (w : (Int32 × tM) ⊕ (Int32 × tM)), fX0_findSlowerRing_l22 n y1 y2 M = some w → (∀ (w1 : Int32) (Mw : tM), Sum.inr ((w1, Mw)) = w → TW g iX0_findSlowerRing rmX0_findSlowerRing 0 0 r Mz 0 0 47 [(0, tr 0 0), (1, ti w1)] [] Mw) → (∀ (v : Int32) (Mv : tM), Sum.inl ((v, Mv)) = w → r = (some (ti v)) ∧ Mz = Mv) → TW g iX0_findSlowerRing rmX0_findSlowerRing 0 0 r Mz 0 0 22 [(0, tr 0 0), (1, ti y1), (2, ti y2)] [] M := by
  intro n
  induction n with
  | zero => intro y1 y2 M w h; cases h
  | succ n ih =>
    intro y1 y2 M w h J JR
    rw [fX0_findSlowerRing_l22] at h
    refine tm_iload_n dX0_findSlowerRing_22 rfl rfl ?_
    refine tm_aload_n dX0_findSlowerRing_23 rfl rfl ?_
    refine tm_get kX0 rfl (j := 6) (by decide) wfX0_67 dX0_findSlowerRing_24 (v := ti (mI M 0 0 6)) rfl ?_
    refine tm_icmp_gt (tgt := 47) dX0_findSlowerRing_27 (by decide) (fun c5 => ?_) (fun c5 => ?_)
    · rw [if_pos c5] at h
      obtain rfl := Option.some.inj h
      refine tm_lcp [0, 1] rfl ?_
      exact J _ _ rfl
    · rw [if_neg c5] at h
      refine tm_aload_n dX0_findSlowerRing_30 rfl rfl ?_
      replace h := obind_some h
      obtain ⟨⟨x6, M8⟩, hc7, h⟩ := h
      dsimp only at h
      refine tm_callV kX0 rfl (avs := []) (st := []) (okX0_reachFurther hc7) wcX0_159.1 wcX0_159.2.1 wcX0_159.2.2.1 wcX0_159.2.2.2 ⟨rfl, rfl, Nat.le_of_ble_eq_true rfl, Nat.le_of_ble_eq_true rfl⟩ rfl (Nat.le_of_ble_eq_true rfl) ⟨Nat.zero_le _, Nat.zero_le _⟩ dX0_findSlowerRing_31 ?_
      refine tm_istore_n (lc' := [(1, ti x6), (0, tr 0 0), (2, ti y2)]) dX0_findSlowerRing_34 rfl (by decide) rfl ?_
      refine tm_iload_n dX0_findSlowerRing_35 rfl rfl ?_
      refine tm_if_ge (tgt := 41) dX0_findSlowerRing_36 (by decide) (fun c9 => ?_) (fun c9 => ?_)
      · rw [if_pos c9] at h
        replace h := bnd_some h
        obtain ⟨x10, ex10, h⟩ := h
        refine tm_iinc (v := x10) (lc' := [(2, ti x10), (1, ti x6), (0, tr 0 0)]) dX0_findSlowerRing_41 rfl (by rw [ex10]; rfl) (by decide) rfl ?_
        refine tm_goto (tgt := 22) dX0_findSlowerRing_44 (by decide) ?_
        refine tm_lcp [0, 1, 2] rfl ?_
        exact ih x6 x10 M8 _ h J JR
      · rw [if_neg c9] at h
        refine tm_iconst (v := 0) dX0_findSlowerRing_39 (by decide) ?_
        obtain rfl := Option.some.inj h
        obtain ⟨rfl, rfl⟩ := JR _ _ rfl
        exact tm_zret (by decide) rfl dX0_findSlowerRing_40
set_option maxHeartbeats 4000000 in
set_option maxRecDepth 100000 in
theorem okX0_findSlowerRing_l51 {g : tG}  (M : tM) {r : Option tV} {Mz : tM} : ∀ (n : Nat) (y2 : Int32) (y3 : Int32) (w : (Int32 × tM) ⊕ (Int32)), fX0_findSlowerRing_l51 M n y2 y3 = some w → (∀ (w2 : Int32), Sum.inr w2 = w → TW g iX0_findSlowerRing rmX0_findSlowerRing 0 0 r Mz 0 0 92 [(0, tr 0 0), (2, ti w2)] [] M) → (∀ (v : Int32) (Mv : tM), Sum.inl ((v, Mv)) = w → r = (some (ti v)) ∧ Mz = Mv) → TW g iX0_findSlowerRing rmX0_findSlowerRing 0 0 r Mz 0 0 51 [(0, tr 0 0), (2, ti y2), (3, ti y3)] [] M := by
  intro n
  induction n with
  | zero => intro y2 y3 w h; cases h
  | succ n ih =>
    intro y2 y3 w h J JR
    rw [fX0_findSlowerRing_l51] at h
    refine tm_iload_n dX0_findSlowerRing_51 rfl rfl ?_
    refine tm_aload_n dX0_findSlowerRing_52 rfl rfl ?_
    refine tm_get kX0 rfl (j := 6) (by decide) wfX0_67 dX0_findSlowerRing_53 (v := ti (mI M 0 0 6)) rfl ?_
    refine tm_icmp_ge (tgt := 92) dX0_findSlowerRing_56 (by decide) (fun c15 => ?_) (fun c15 => ?_)
    · rw [if_pos c15] at h
      obtain rfl := Option.some.inj h
      refine tm_lcp [0, 2] rfl ?_
      exact J _ rfl
    · rw [if_neg c15] at h
      refine tm_iload_n dX0_findSlowerRing_59 rfl rfl ?_
      refine tm_if_lt (tgt := 72) dX0_findSlowerRing_60 (by decide) (fun c16 => ?_) (fun c16 => ?_)
      · rw [if_pos c16] at h
        refine tm_iconst (v := 0) dX0_findSlowerRing_72 (by decide) ?_
        obtain rfl := Option.some.inj h
        obtain ⟨rfl, rfl⟩ := JR _ _ rfl
        exact tm_zret (by decide) rfl dX0_findSlowerRing_73
      · rw [if_neg c16] at h
        refine tm_aload_n dX0_findSlowerRing_63 rfl rfl ?_
        refine tm_get kX0 rfl (j := 12) (by decide) wfX0_31 dX0_findSlowerRing_64 (v := tr 112 0) rfl ?_
        refine tm_iload_n dX0_findSlowerRing_67 rfl rfl ?_
        replace h := chk_some h
        obtain ⟨b17, h⟩ := h
        refine tm_iald rfl dX0_findSlowerRing_68 (inb_vp b17) ?_
        refine tm_if_ge (tgt := 74) dX0_findSlowerRing_69 (by decide) (fun c18 => ?_) (fun c18 => ?_)
        · rw [if_pos c18] at h
          refine tm_aload_n dX0_findSlowerRing_74 rfl rfl ?_
          refine tm_get kX0 rfl (j := 8) (by decide) wfX0_21 dX0_findSlowerRing_75 (v := tr 108 0) rfl ?_
          refine tm_aload_n dX0_findSlowerRing_78 rfl rfl ?_
          refine tm_get kX0 rfl (j := 12) (by decide) wfX0_31 dX0_findSlowerRing_79 (v := tr 112 0) rfl ?_
          refine tm_iload_n dX0_findSlowerRing_82 rfl rfl ?_
          replace h := chk_some h
          obtain ⟨b19, h⟩ := h
          refine tm_iald rfl dX0_findSlowerRing_83 (inb_vp b19) ?_
          replace h := chk_some h
          obtain ⟨b20, h⟩ := h
          refine tm_iald rfl dX0_findSlowerRing_84 (inb_vp b20) ?_
          replace h := bnd_some h
          obtain ⟨x21, ex21, h⟩ := h
          refine tm_nmI ex21 ?_
          refine tm_istore_n (lc' := [(2, ti x21), (0, tr 0 0), (3, ti y3)]) dX0_findSlowerRing_85 rfl (by decide) rfl ?_
          replace h := bnd_some h
          obtain ⟨x22, ex22, h⟩ := h
          refine tm_iinc (v := x22) (lc' := [(3, ti x22), (2, ti x21), (0, tr 0 0)]) dX0_findSlowerRing_86 rfl (by rw [ex22]; rfl) (by decide) rfl ?_
          refine tm_goto (tgt := 51) dX0_findSlowerRing_89 (by decide) ?_
          refine tm_lcp [0, 2, 3] rfl ?_
          exact ih x21 x22 _ h J JR
        · rw [if_neg c18] at h
          refine tm_iconst (v := 0) dX0_findSlowerRing_72 (by decide) ?_
          obtain rfl := Option.some.inj h
          obtain ⟨rfl, rfl⟩ := JR _ _ rfl
          exact tm_zret (by decide) rfl dX0_findSlowerRing_73
set_option maxHeartbeats 4000000 in
set_option maxRecDepth 100000 in
theorem okX0_findSlowerRing {g : tG}  {M : tM} {v : Int32} {Mz : tM} (h : fX0_findSlowerRing  M = some ((v, Mz))) : TMet g yX0_findSlowerRing (Cond.code yX0_findSlowerRing cX0_findSlowerRing 4 (some .boolean) :: tgd) rmX0_findSlowerRing [tr 0 0] M (some (ti v)) Mz 0 0 := by
  have key : TW g iX0_findSlowerRing rmX0_findSlowerRing 0 0 (some (ti v)) Mz 0 0 0 [(0, tr 0 0)] [] M := by
    rw [fX0_findSlowerRing] at h
    refine tm_aload_n dX0_findSlowerRing_0 rfl rfl ?_
    refine tm_get kX0 rfl (j := 11) (by decide) wfX0_27 dX0_findSlowerRing_1 (v := tr 111 0) rfl ?_
    refine tm_lconst (v := 0) dX0_findSlowerRing_4 (by decide) ?_
    replace h := obind_some h
    obtain ⟨M2, hc1, h⟩ := h
    refine tm_callS (avs := [tr 111 0, tl 0]) (st := []) (okJ7_fill_d0a16 hc1) wcX0_150.1 wcX0_150.2.1 wcX0_150.2.2 ⟨rfl, rfl, Nat.le_of_ble_eq_true rfl, Nat.le_of_ble_eq_true rfl⟩ rfl (Nat.le_of_ble_eq_true rfl) ⟨Nat.zero_le _, Nat.zero_le _⟩ dX0_findSlowerRing_5 ?_
    refine tm_aload_n dX0_findSlowerRing_8 rfl rfl ?_
    refine tm_get kX0 rfl (j := 12) (by decide) wfX0_31 dX0_findSlowerRing_9 (v := tr 112 0) rfl ?_
    refine tm_bipush (v := (-9)) dX0_findSlowerRing_12 (by decide) ?_
    replace h := obind_some h
    obtain ⟨M4, hc3, h⟩ := h
    refine tm_callS (avs := [tr 112 0, ti (-9)]) (st := []) (okJ7_fill_53178 hc3) wcX0_156.1 wcX0_156.2.1 wcX0_156.2.2 ⟨rfl, rfl, Nat.le_of_ble_eq_true rfl, Nat.le_of_ble_eq_true rfl⟩ rfl (Nat.le_of_ble_eq_true rfl) ⟨Nat.zero_le _, Nat.zero_le _⟩ dX0_findSlowerRing_14 ?_
    refine tm_bipush (v := (-9)) dX0_findSlowerRing_17 (by decide) ?_
    refine tm_istore_n (lc' := [(1, ti (-9)), (0, tr 0 0)]) dX0_findSlowerRing_19 rfl (by decide) rfl ?_
    refine tm_iconst (v := 0) dX0_findSlowerRing_20 (by decide) ?_
    refine tm_istore_n (lc' := [(2, ti 0), (1, ti (-9)), (0, tr 0 0)]) dX0_findSlowerRing_21 rfl (by decide) rfl ?_
    replace h := obind_some h
    obtain ⟨w11, hE12, h⟩ := h
    refine tm_lcp [0, 1, 2] rfl ?_
    refine okX0_findSlowerRing_l22  FU (-9) 0 M4 _ hE12 (fun x13 M14 e => ?_) (fun v34 Mv35 e => ?_)
    · subst e
      dsimp only at h
      refine tm_iload_n dX0_findSlowerRing_47 rfl rfl ?_
      refine tm_istore_n (lc' := [(2, ti x13), (0, tr 0 0), (1, ti x13)]) dX0_findSlowerRing_48 rfl (by decide) rfl ?_
      refine tm_iconst (v := 0) dX0_findSlowerRing_49 (by decide) ?_
      refine tm_istore_n (lc' := [(3, ti 0), (2, ti x13), (0, tr 0 0), (1, ti x13)]) dX0_findSlowerRing_50 rfl (by decide) rfl ?_
      replace h := obind_some h
      obtain ⟨w23, hE24, h⟩ := h
      refine tm_lcp [0, 2, 3] rfl ?_
      refine okX0_findSlowerRing_l51 M14 FU x13 0 _ hE24 (fun x25 e => ?_) (fun v31 Mv32 e => ?_)
      · subst e
        dsimp only at h
        refine tm_aload_n dX0_findSlowerRing_92 rfl rfl ?_
        refine tm_iload_n dX0_findSlowerRing_93 rfl rfl ?_
        replace h := obind_some h
        obtain ⟨⟨x26, M28⟩, hc27, h⟩ := h
        dsimp only at h
        refine tm_callV kX0 rfl (avs := [ti x25]) (st := []) (okX0_takeRing hc27) wcX0_163.1 wcX0_163.2.1 wcX0_163.2.2.1 wcX0_163.2.2.2 ⟨rfl, rfl, Nat.le_of_ble_eq_true rfl, Nat.le_of_ble_eq_true rfl⟩ rfl (Nat.le_of_ble_eq_true rfl) ⟨Nat.zero_le _, Nat.zero_le _⟩ dX0_findSlowerRing_94 ?_
        replace h := chk_some h
        obtain ⟨b29, h⟩ := h
        obtain ⟨rfl, rfl⟩ := pj2 h
        exact tm_zret (tb_n b29) rfl dX0_findSlowerRing_97
      · subst e
        obtain ⟨rfl, rfl⟩ := pj2 h
        exact ⟨rfl, rfl⟩
    · subst e
      obtain ⟨rfl, rfl⟩ := pj2 h
      exact ⟨rfl, rfl⟩
  exact TMet.of (by decide) (Nat.le_of_ble_eq_true rfl) key
theorem wcX0_42 : tCB RX0 42 yX0_numberFirings cX0_numberFirings 4 (none) 0 ∧ Cond.methodLink RX0 42 yX0_numberFirings ∈ tgd ∧ Cond.instanceMethod yX0_numberFirings ∈ tgd ∧ Cond.selects RX0 yX0_numberFirings yX0_numberFirings ∈ tgd := ⟨⟨(tgd_t 1018 (by decide +kernel) (by decide +kernel)), (tgd_t 8 (by decide +kernel) (by decide +kernel)), by decide, by decide +kernel⟩, (tgd_t 1015 (by decide +kernel) (by decide +kernel)), (tgd_t 1017 (by decide +kernel) (by decide +kernel)), (tgd_p 34 (by decide +kernel) (by decide +kernel))⟩
theorem wcX0_55 : tCB RX0 55 yX0_addWaitsOn cX0_addWaitsOn 10 (none) 1 ∧ Cond.methodLink RX0 55 yX0_addWaitsOn ∈ tgd ∧ Cond.instanceMethod yX0_addWaitsOn ∈ tgd ∧ Cond.selects RX0 yX0_addWaitsOn yX0_addWaitsOn ∈ tgd := ⟨⟨(tgd_t 1026 (by decide +kernel) (by decide +kernel)), (tgd_t 8 (by decide +kernel) (by decide +kernel)), by decide, by decide +kernel⟩, (tgd_t 1023 (by decide +kernel) (by decide +kernel)), (tgd_t 1025 (by decide +kernel) (by decide +kernel)), (tgd_p 36 (by decide +kernel) (by decide +kernel))⟩
theorem wcX0_59 : tCB RX0 59 yX0_beginWithOwnRings cX0_beginWithOwnRings 3 (none) 0 ∧ Cond.methodLink RX0 59 yX0_beginWithOwnRings ∈ tgd ∧ Cond.instanceMethod yX0_beginWithOwnRings ∈ tgd ∧ Cond.selects RX0 yX0_beginWithOwnRings yX0_beginWithOwnRings ∈ tgd := ⟨⟨(tgd_t 1042 (by decide +kernel) (by decide +kernel)), (tgd_t 8 (by decide +kernel) (by decide +kernel)), by decide, by decide +kernel⟩, (tgd_t 1039 (by decide +kernel) (by decide +kernel)), (tgd_t 1041 (by decide +kernel) (by decide +kernel)), (tgd_p 38 (by decide +kernel) (by decide +kernel))⟩
theorem wcX0_63 : tCB RX0 63 yX0_findSlowerRing cX0_findSlowerRing 4 (some .boolean) 0 ∧ Cond.methodLink RX0 63 yX0_findSlowerRing ∈ tgd ∧ Cond.instanceMethod yX0_findSlowerRing ∈ tgd ∧ Cond.selects RX0 yX0_findSlowerRing yX0_findSlowerRing ∈ tgd := ⟨⟨(tgd_t 1048 (by decide +kernel) (by decide +kernel)), (tgd_t 8 (by decide +kernel) (by decide +kernel)), by decide, by decide +kernel⟩, (tgd_t 1045 (by decide +kernel) (by decide +kernel)), (tgd_t 1047 (by decide +kernel) (by decide +kernel)), (tgd_p 39 (by decide +kernel) (by decide +kernel))⟩
theorem wconstX0_62 : Cond.constant RX0 62 1000000 ∈ tgd := (tgd_t 1044 (by decide +kernel) (by decide +kernel))
theorem wfX0_45 : Cond.fieldLink RX0 45 "EvenFlow$Graph" "lineCount" "I" ∈ tgd := (tgd_t 59 (by decide +kernel) (by decide +kernel))
theorem wfX0_51 : Cond.fieldLink RX0 51 "EvenFlow$Graph" "lines" "[LEvenFlow$Line;" ∈ tgd := (tgd_t 45 (by decide +kernel) (by decide +kernel))
abbrev iX0_know : tY := (RX0, cX0_know, 3, none, "know")
abbrev rmX0_know : Room := { frames := 3, cells := 0, slots := 0, locals := 77 }
def fX0_know_l14  : Nat → Int32 → tM → Option (tM)
  | 0, _, _ => none
  | n + 1, y1, M =>
    if (mI M 1 0 3) ≤ y1 then (
    some M
    ) else (
    chk (inb y1 (mN M 201 0)) <|
    bnd (mR M 201 0 (y1.toNatClampNeg)) fun r6 =>
    (fX0_addWaitsOn r6 M).bind fun M8 =>
    bnd (y1 + 1) fun x9 =>
    fX0_know_l14 n x9 M8
    )
def fX0_know_l52  : Nat → Int32 → Int32 → tM → Option (tM)
  | 0, _, _, _ => none
  | n + 1, y1, y2, M =>
    if 1000000 ≤ y2 then (
    some M
    ) else (
    if y1 = 0 then (
    some M
    ) else (
    (fX0_findSlowerRing M).bind fun (x17, M19) =>
    bnd (y2 + 1) fun x20 =>
    fX0_know_l52 n x17 x20 M19
    )
    )
def fX0_know  (M : tM) : Option (tM) :=
  if (mI M 0 0 3) = 0 then (
  (fX0_numberFirings M).bind fun M3 =>
  Option.bind (fX0_know_l14 FU 0 M3) fun M12 =>
  (fX0_beginWithOwnRings M12).bind fun M14 =>
  Option.bind (fX0_know_l52 FU 1 0 M14) fun M23 =>
  bnd (sI M23 0 0 3 1) fun M24 =>
  some M24
  ) else (
  some M
  )
set_option maxHeartbeats 4000000 in
set_option maxRecDepth 100000 in
theorem okX0_know_l14 {g : tG}  {r : Option tV} {Mz : tM} : ∀ (n : Nat) (y1 : Int32) (M : tM) (w : tM), fX0_know_l14 n y1 M = some w → (∀ (Mw : tM), Mw = w → TW g iX0_know rmX0_know 0 0 r Mz 0 0 44 [(0, tr 0 0)] [] Mw) → TW g iX0_know rmX0_know 0 0 r Mz 0 0 14 [(0, tr 0 0), (1, ti y1)] [] M := by
  intro n
  induction n with
  | zero => intro y1 M w h; cases h
  | succ n ih =>
    intro y1 M w h J
    rw [fX0_know_l14] at h
    refine tm_iload_n dX0_know_14 rfl rfl ?_
    refine tm_aload_n dX0_know_15 rfl rfl ?_
    refine tm_get kX0 rfl (j := 0) (by decide) wfX0_34 dX0_know_16 (v := tr 1 0) rfl ?_
    refine tm_get kX1 rfl (j := 3) (by decide) wfX0_45 dX0_know_19 (v := ti (mI M 1 0 3)) rfl ?_
    refine tm_icmp_ge (tgt := 44) dX0_know_22 (by decide) (fun c4 => ?_) (fun c4 => ?_)
    · rw [if_pos c4] at h
      obtain rfl := Option.some.inj h
      refine tm_lcp [0] rfl ?_
      exact J _ rfl
    · rw [if_neg c4] at h
      refine tm_aload_n dX0_know_25 rfl rfl ?_
      refine tm_aload_n dX0_know_26 rfl rfl ?_
      refine tm_get kX0 rfl (j := 0) (by decide) wfX0_34 dX0_know_27 (v := tr 1 0) rfl ?_
      refine tm_get kX1 rfl (j := 1) (by decide) wfX0_51 dX0_know_30 (v := tr 201 0) rfl ?_
      refine tm_iload_n dX0_know_33 rfl rfl ?_
      replace h := chk_some h
      obtain ⟨b5, h⟩ := h
      refine tm_aald (k2 := 4) ⟨rfl, rfl, rfl, fun _ => rfl⟩ dX0_know_34 (inb_vp b5) ?_
      replace h := bnd_some h
      obtain ⟨r6, er6, h⟩ := h
      refine tm_nmQ er6 ?_
      replace h := obind_some h
      obtain ⟨M8, hc7, h⟩ := h
      refine tm_callV kX0 rfl (avs := [tq 4 r6]) (st := []) (okX0_addWaitsOn hc7) wcX0_55.1 wcX0_55.2.1 wcX0_55.2.2.1 wcX0_55.2.2.2 ⟨rfl, rfl, Nat.le_of_ble_eq_true rfl, Nat.le_of_ble_eq_true rfl⟩ rfl (Nat.le_of_ble_eq_true rfl) ⟨Nat.zero_le _, Nat.zero_le _⟩ dX0_know_35 ?_
      replace h := bnd_some h
      obtain ⟨x9, ex9, h⟩ := h
      refine tm_iinc (v := x9) (lc' := [(1, ti x9), (0, tr 0 0)]) dX0_know_38 rfl (by rw [ex9]; rfl) (by decide) rfl ?_
      refine tm_goto (tgt := 14) dX0_know_41 (by decide) ?_
      refine tm_lcp [0, 1] rfl ?_
      exact ih x9 M8 _ h J
set_option maxHeartbeats 4000000 in
set_option maxRecDepth 100000 in
theorem okX0_know_l52 {g : tG}  {r : Option tV} {Mz : tM} : ∀ (n : Nat) (y1 : Int32) (y2 : Int32) (M : tM) (w : tM), fX0_know_l52 n y1 y2 M = some w → (∀ (Mw : tM), Mw = w → TW g iX0_know rmX0_know 0 0 r Mz 0 0 73 [(0, tr 0 0)] [] Mw) → TW g iX0_know rmX0_know 0 0 r Mz 0 0 52 [(0, tr 0 0), (1, ti y1), (2, ti y2)] [] M := by
  intro n
  induction n with
  | zero => intro y1 y2 M w h; cases h
  | succ n ih =>
    intro y1 y2 M w h J
    rw [fX0_know_l52] at h
    refine tm_iload_n dX0_know_52 rfl rfl ?_
    refine tm_ldc (v := 1000000) dX0_know_53 wconstX0_62 ?_
    refine tm_icmp_ge (tgt := 73) dX0_know_55 (by decide) (fun c15 => ?_) (fun c15 => ?_)
    · rw [if_pos c15] at h
      obtain rfl := Option.some.inj h
      refine tm_lcp [0] rfl ?_
      exact J _ rfl
    · rw [if_neg c15] at h
      refine tm_iload_n dX0_know_58 rfl rfl ?_
      refine tm_if_eq (tgt := 73) dX0_know_59 (by decide) (fun c16 => ?_) (fun c16 => ?_)
      · rw [if_pos c16] at h
        obtain rfl := Option.some.inj h
        refine tm_lcp [0] rfl ?_
        exact J _ rfl
      · rw [if_neg c16] at h
        refine tm_aload_n dX0_know_62 rfl rfl ?_
        replace h := obind_some h
        obtain ⟨⟨x17, M19⟩, hc18, h⟩ := h
        dsimp only at h
        refine tm_callV kX0 rfl (avs := []) (st := []) (okX0_findSlowerRing hc18) wcX0_63.1 wcX0_63.2.1 wcX0_63.2.2.1 wcX0_63.2.2.2 ⟨rfl, rfl, Nat.le_of_ble_eq_true rfl, Nat.le_of_ble_eq_true rfl⟩ rfl (Nat.le_of_ble_eq_true rfl) ⟨Nat.zero_le _, Nat.zero_le _⟩ dX0_know_63 ?_
        refine tm_istore_n (lc' := [(1, ti x17), (0, tr 0 0), (2, ti y2)]) dX0_know_66 rfl (by decide) rfl ?_
        replace h := bnd_some h
        obtain ⟨x20, ex20, h⟩ := h
        refine tm_iinc (v := x20) (lc' := [(2, ti x20), (1, ti x17), (0, tr 0 0)]) dX0_know_67 rfl (by rw [ex20]; rfl) (by decide) rfl ?_
        refine tm_goto (tgt := 52) dX0_know_70 (by decide) ?_
        refine tm_lcp [0, 1, 2] rfl ?_
        exact ih x17 x20 M19 _ h J
set_option maxHeartbeats 4000000 in
set_option maxRecDepth 100000 in
theorem okX0_know {g : tG}  {M : tM} {Mz : tM} (h : fX0_know  M = some Mz) : TMet g yX0_know (Cond.code yX0_know cX0_know 3 (none) :: tgd) rmX0_know [tr 0 0] M none Mz 0 0 := by
  have key : TW g iX0_know rmX0_know 0 0 none Mz 0 0 0 [(0, tr 0 0)] [] M := by
    rw [fX0_know] at h
    refine tm_aload_n dX0_know_0 rfl rfl ?_
    refine tm_get kX0 rfl (j := 3) (by decide) wfX0_38 dX0_know_1 (v := ti (mI M 0 0 3)) rfl ?_
    refine tm_if_eq (tgt := 8) dX0_know_4 (by decide) (fun c1 => ?_) (fun c1 => ?_)
    · rw [if_pos c1] at h
      refine tm_aload_n dX0_know_8 rfl rfl ?_
      replace h := obind_some h
      obtain ⟨M3, hc2, h⟩ := h
      refine tm_callV kX0 rfl (avs := []) (st := []) (okX0_numberFirings hc2) wcX0_42.1 wcX0_42.2.1 wcX0_42.2.2.1 wcX0_42.2.2.2 ⟨rfl, rfl, Nat.le_of_ble_eq_true rfl, Nat.le_of_ble_eq_true rfl⟩ rfl (Nat.le_of_ble_eq_true rfl) ⟨Nat.zero_le _, Nat.zero_le _⟩ dX0_know_9 ?_
      refine tm_iconst (v := 0) dX0_know_12 (by decide) ?_
      refine tm_istore_n (lc' := [(1, ti 0), (0, tr 0 0)]) dX0_know_13 rfl (by decide) rfl ?_
      replace h := obind_some h
      obtain ⟨w10, hE11, h⟩ := h
      refine tm_lcp [0, 1] rfl ?_
      refine okX0_know_l14  FU 0 M3 _ hE11 (fun M12 e => ?_)
      subst e
      refine tm_aload_n dX0_know_44 rfl rfl ?_
      replace h := obind_some h
      obtain ⟨M14, hc13, h⟩ := h
      refine tm_callV kX0 rfl (avs := []) (st := []) (okX0_beginWithOwnRings hc13) wcX0_59.1 wcX0_59.2.1 wcX0_59.2.2.1 wcX0_59.2.2.2 ⟨rfl, rfl, Nat.le_of_ble_eq_true rfl, Nat.le_of_ble_eq_true rfl⟩ rfl (Nat.le_of_ble_eq_true rfl) ⟨Nat.zero_le _, Nat.zero_le _⟩ dX0_know_45 ?_
      refine tm_iconst (v := 1) dX0_know_48 (by decide) ?_
      refine tm_istore_n (lc' := [(1, ti 1), (0, tr 0 0)]) dX0_know_49 rfl (by decide) rfl ?_
      refine tm_iconst (v := 0) dX0_know_50 (by decide) ?_
      refine tm_istore_n (lc' := [(2, ti 0), (1, ti 1), (0, tr 0 0)]) dX0_know_51 rfl (by decide) rfl ?_
      replace h := obind_some h
      obtain ⟨w21, hE22, h⟩ := h
      refine tm_lcp [0, 1, 2] rfl ?_
      refine okX0_know_l52  FU 1 0 M14 _ hE22 (fun M23 e => ?_)
      subst e
      refine tm_aload_n dX0_know_73 rfl rfl ?_
      refine tm_iconst (v := 1) dX0_know_74 (by decide) ?_
      replace h := bnd_some h
      obtain ⟨M24, eM24, h⟩ := h
      refine tm_put kX0 rfl (j := 3) (by decide) wfX0_38 rfl dX0_know_75 (tb_f (x := 1) (by decide)) (tPut_I 1 rfl) ?_
      refine tm_nmM eM24 ?_
      obtain rfl := Option.some.inj h
      exact tm_vret rfl dX0_know_78
    · rw [if_neg c1] at h
      obtain rfl := Option.some.inj h
      exact tm_vret rfl dX0_know_7
  exact TMet.of (by decide) (Nat.le_of_ble_eq_true rfl) key
