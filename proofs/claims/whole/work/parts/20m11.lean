theorem wcX11_393 : tCB RX11 393 yX11_setWaits cX11_setWaits 8 (none) 0 ∧ Cond.methodLink RX11 393 yX11_setWaits ∈ tgd ∧ Cond.instanceMethod yX11_setWaits ∈ tgd ∧ Cond.selects RX11 yX11_setWaits yX11_setWaits ∈ tgd := ⟨⟨(tgd_t 1737 (by decide +kernel) (by decide +kernel)), (tgd_t 10 (by decide +kernel) (by decide +kernel)), by decide, by decide +kernel⟩, (tgd_t 1734 (by decide +kernel) (by decide +kernel)), (tgd_t 1736 (by decide +kernel) (by decide +kernel)), (tgd_p 91 (by decide +kernel) (by decide +kernel))⟩
theorem wcX11_396 : tCB RX11 396 yX11_isLonger cX11_isLonger 11 (some .boolean) 0 ∧ Cond.methodLink RX11 396 yX11_isLonger ∈ tgd ∧ Cond.instanceMethod yX11_isLonger ∈ tgd ∧ Cond.selects RX11 yX11_isLonger yX11_isLonger ∈ tgd := ⟨⟨(tgd_t 1753 (by decide +kernel) (by decide +kernel)), (tgd_t 10 (by decide +kernel) (by decide +kernel)), by decide, by decide +kernel⟩, (tgd_t 1750 (by decide +kernel) (by decide +kernel)), (tgd_t 1752 (by decide +kernel) (by decide +kernel)), (tgd_p 94 (by decide +kernel) (by decide +kernel))⟩
abbrev iX11_beat : tY := (RX11, cX11_beat, 4, some .int, "beat")
abbrev rmX11_beat : Room := { frames := 5, cells := 0, slots := 0, locals := 146 }
def fX11_beat_l40 (z1 : Int32) : Nat → Int32 → tM → Option (tM)
  | 0, _, _ => none
  | n + 1, y3, M =>
    if y3 = 0 then (
    some M
    ) else (
    (fX11_isLonger M).bind fun (x11, M13) =>
    fX11_beat_l40 z1 n x11 M13
    )
def fX11_beat (a1 : Int32) (M : tM) : Option (Int32 × tM) :=
  (fX11_barred 1 M).bind fun (x1, M3) =>
  if 0 ≤ x1 then (
  if (mI M3 11 0 36) ≤ 60 then (
  (fX11_setWaits M3).bind fun M7 =>
  bnd (sL M7 11 0 74 0) fun M8 =>
  bnd (sL M8 11 0 75 1) fun M9 =>
  Option.bind (fX11_beat_l40 a1 FU 1 M9) fun M16 =>
  if a1 = 0 then (
  some (((mL M16 11 0 74).toInt32, M16))
  ) else (
  some (((mL M16 11 0 75).toInt32, M16))
  )
  ) else (
  some (((-4), M3))
  )
  ) else (
  some ((x1, M3))
  )
set_option maxHeartbeats 4000000 in
set_option maxRecDepth 100000 in
theorem okX11_beat_l40 {g : tG} (z1 : Int32) {r : Option tV} {Mz : tM} : ∀ (n : Nat) (y3 : Int32) (M : tM) (w : tM), fX11_beat_l40 z1 n y3 M = some w → (∀ (Mw : tM), Mw = w → TW g iX11_beat rmX11_beat 0 0 r Mz 0 0 52 [(0, tr 11 0), (1, ti z1)] [] Mw) → TW g iX11_beat rmX11_beat 0 0 r Mz 0 0 40 [(0, tr 11 0), (1, ti z1), (3, ti y3)] [] M := by
  intro n
  induction n with
  | zero => intro y3 M w h; cases h
  | succ n ih =>
    intro y3 M w h J
    rw [fX11_beat_l40] at h
    refine tm_iload_n dX11_beat_40 rfl rfl ?_
    refine tm_if_eq (tgt := 52) dX11_beat_41 (by decide) (fun c10 => ?_) (fun c10 => ?_)
    · rw [if_pos c10] at h
      obtain rfl := Option.some.inj h
      refine tm_lcp [0, 1] rfl ?_
      exact J _ rfl
    · rw [if_neg c10] at h
      refine tm_aload_n dX11_beat_44 rfl rfl ?_
      obtain ⟨⟨x11, M13⟩, hc12, h⟩ := obind_some h
      dsimp only at h
      refine tm_callV kX11 rfl (avs := []) (st := []) (okX11_isLonger hc12) wcX11_396.1 wcX11_396.2.1 wcX11_396.2.2.1 wcX11_396.2.2.2 ⟨rfl, rfl, Nat.le_of_ble_eq_true rfl, Nat.le_of_ble_eq_true rfl⟩ rfl (Nat.le_of_ble_eq_true rfl) ⟨Nat.zero_le _, Nat.zero_le _⟩ dX11_beat_45 ?_
      refine tm_istore_n (lc' := [(3, ti x11), (0, tr 11 0), (1, ti z1)]) dX11_beat_48 rfl (by decide) rfl ?_
      refine tm_goto (tgt := 40) dX11_beat_49 (by decide) ?_
      refine tm_lcp [0, 1, 3] rfl ?_
      exact ih x11 M13 _ h J
set_option maxHeartbeats 4000000 in
set_option maxRecDepth 100000 in
theorem okX11_beat {g : tG} {a1 : Int32} {M : tM} {v : Int32} {Mz : tM} (h : fX11_beat a1 M = some ((v, Mz))) : TMet g yX11_beat (Cond.code yX11_beat cX11_beat 4 (some .int) :: tgd) rmX11_beat [tr 11 0, ti a1] M (some (ti v)) Mz 0 0 := by
  have key : TW g iX11_beat rmX11_beat 0 0 (some (ti v)) Mz 0 0 0 [(0, tr 11 0), (1, ti a1)] [] M := by
    rw [fX11_beat] at h
    refine tm_aload_n dX11_beat_0 rfl rfl ?_
    refine tm_iconst (v := 1) dX11_beat_1 (by decide) ?_
    obtain ⟨⟨x1, M3⟩, hc2, h⟩ := obind_some h
    dsimp only at h
    refine tm_callV kX11 rfl (avs := [ti 1]) (st := []) (okX11_barred hc2) wcX11_304.1 wcX11_304.2.1 wcX11_304.2.2.1 wcX11_304.2.2.2 ⟨rfl, rfl, Nat.le_of_ble_eq_true rfl, Nat.le_of_ble_eq_true rfl⟩ rfl (Nat.le_of_ble_eq_true rfl) ⟨Nat.zero_le _, Nat.zero_le _⟩ dX11_beat_2 ?_
    refine tm_istore_n (lc' := [(2, ti x1), (0, tr 11 0), (1, ti a1)]) dX11_beat_5 rfl (by decide) rfl ?_
    refine tm_iload_n dX11_beat_6 rfl rfl ?_
    refine tm_if_ge (tgt := 12) dX11_beat_7 (by decide) (fun c4 => ?_) (fun c4 => ?_)
    · rw [if_pos c4] at h
      refine tm_aload_n dX11_beat_12 rfl rfl ?_
      refine tm_get kX11 rfl (j := 36) (by decide) wfX11_273 dX11_beat_13 (v := ti (mI M3 11 0 36)) rfl ?_
      refine tm_bipush (v := 60) dX11_beat_16 (by decide) ?_
      refine tm_icmp_le (tgt := 24) dX11_beat_18 (by decide) (fun c5 => ?_) (fun c5 => ?_)
      · rw [if_pos c5] at h
        refine tm_aload_n dX11_beat_24 rfl rfl ?_
        obtain ⟨M7, hc6, h⟩ := obind_some h
        refine tm_callV kX11 rfl (avs := []) (st := []) (okX11_setWaits hc6) wcX11_393.1 wcX11_393.2.1 wcX11_393.2.2.1 wcX11_393.2.2.2 ⟨rfl, rfl, Nat.le_of_ble_eq_true rfl, Nat.le_of_ble_eq_true rfl⟩ rfl (Nat.le_of_ble_eq_true rfl) ⟨Nat.zero_le _, Nat.zero_le _⟩ dX11_beat_25 ?_
        refine tm_aload_n dX11_beat_28 rfl rfl ?_
        refine tm_lconst (v := 0) dX11_beat_29 (by decide) ?_
        obtain ⟨M8, eM8, h⟩ := bnd_some h
        refine tm_put kX11 rfl (j := 74) (by decide) wfX11_390 rfl dX11_beat_30 (fun _ => ⟨rfl, rfl⟩) (tPut_L 0 rfl) ?_
        refine tm_nmM eM8 ?_
        refine tm_aload_n dX11_beat_33 rfl rfl ?_
        refine tm_lconst (v := 1) dX11_beat_34 (by decide) ?_
        obtain ⟨M9, eM9, h⟩ := bnd_some h
        refine tm_put kX11 rfl (j := 75) (by decide) wfX11_386 rfl dX11_beat_35 (fun _ => ⟨rfl, rfl⟩) (tPut_L 1 rfl) ?_
        refine tm_nmM eM9 ?_
        refine tm_iconst (v := 1) dX11_beat_38 (by decide) ?_
        refine tm_istore_n (lc' := [(3, ti 1), (2, ti x1), (0, tr 11 0), (1, ti a1)]) dX11_beat_39 rfl (by decide) rfl ?_
        obtain ⟨w14, hE15, h⟩ := obind_some h
        refine tm_lcp [0, 1, 3] rfl ?_
        refine okX11_beat_l40 a1 FU 1 M9 _ hE15 (fun M16 e => ?_)
        subst e
        refine tm_iload_n dX11_beat_52 rfl rfl ?_
        refine tm_if_eq (tgt := 63) dX11_beat_53 (by decide) (fun c17 => ?_) (fun c17 => ?_)
        · rw [if_pos c17] at h
          refine tm_aload_n dX11_beat_63 rfl rfl ?_
          refine tm_get kX11 rfl (j := 74) (by decide) wfX11_390 dX11_beat_64 (v := tl (mL M16 11 0 74)) rfl ?_
          refine tm_l2i dX11_beat_67 ?_
          obtain ⟨rfl, rfl⟩ := pj2 h
          exact tm_iret rfl dX11_beat_68
        · rw [if_neg c17] at h
          refine tm_aload_n dX11_beat_56 rfl rfl ?_
          refine tm_get kX11 rfl (j := 75) (by decide) wfX11_386 dX11_beat_57 (v := tl (mL M16 11 0 75)) rfl ?_
          refine tm_goto (tgt := 67) dX11_beat_60 (by decide) ?_
          refine tm_l2i dX11_beat_67 ?_
          obtain ⟨rfl, rfl⟩ := pj2 h
          exact tm_iret rfl dX11_beat_68
      · rw [if_neg c5] at h
        refine tm_bipush (v := (-4)) dX11_beat_21 (by decide) ?_
        obtain ⟨rfl, rfl⟩ := pj2 h
        exact tm_iret rfl dX11_beat_23
    · rw [if_neg c4] at h
      refine tm_iload_n dX11_beat_10 rfl rfl ?_
      obtain ⟨rfl, rfl⟩ := pj2 h
      exact tm_iret rfl dX11_beat_11
  exact TMet.of (by decide) (Nat.le_of_ble_eq_true rfl) key
abbrev iX11_mayFire : tY := (RX11, cX11_mayFire, 4, some .boolean, "mayFire")
abbrev rmX11_mayFire : Room := { frames := 0, cells := 0, slots := 0, locals := 0 }
def fX11_mayFire_l4 (z1 : Int32) (M : tM) : Nat → Int32 → Int32 → Option (Int32)
  | 0, _, _ => none
  | n + 1, y2, y3 =>
    if (mI M 11 0 12) ≤ y3 then (
    some y2
    ) else (
    Option.bind (α := Int32) (
    if y2 = 0 then (
    some 0
    ) else (
    chk (inb y3 (mN M 1214 0)) <|
    if (mI M 1214 0 (y3.toNatClampNeg)) = z1 then (
    chk (inb y3 (mN M 1221 0)) <|
    chk (inb z1 (mN M 1219 0)) <|
    chk (inb ((4 * y3) + (mI M 1219 0 (z1.toNatClampNeg))) (mN M 1216 0)) <|
    if (mI M 1221 0 (y3.toNatClampNeg)) < (mI M 1216 0 (((4 * y3) + (mI M 1219 0 (z1.toNatClampNeg))).toNatClampNeg)) then (
    some 0
    ) else (
    some 1
    )
    ) else (
    some 1
    )
    )
    ) fun x3 =>
    bnd (y3 + 1) fun x9 =>
    fX11_mayFire_l4 z1 M n x3 x9
    )
def fX11_mayFire (a1 : Int32) (M : tM) : Option (Int32) :=
  Option.bind (fX11_mayFire_l4 a1 M FU 1 0) fun x12 =>
  chk (tb x12) <|
  some x12
set_option maxHeartbeats 4000000 in
set_option maxRecDepth 100000 in
theorem okX11_mayFire_l4 {g : tG} (z1 : Int32) (M : tM) {r : Option tV} {Mz : tM} : ∀ (n : Nat) (y2 : Int32) (y3 : Int32) (w : Int32), fX11_mayFire_l4 z1 M n y2 y3 = some w → (∀ (w2 : Int32), w2 = w → TW g iX11_mayFire rmX11_mayFire 0 0 r Mz 0 0 62 [(2, ti w2)] [] M) → TW g iX11_mayFire rmX11_mayFire 0 0 r Mz 0 0 4 [(0, tr 11 0), (1, ti z1), (2, ti y2), (3, ti y3)] [] M := by
  intro n
  induction n with
  | zero => intro y2 y3 w h; cases h
  | succ n ih =>
    intro y2 y3 w h J
    rw [fX11_mayFire_l4] at h
    refine tm_iload_n dX11_mayFire_4 rfl rfl ?_
    refine tm_aload_n dX11_mayFire_5 rfl rfl ?_
    refine tm_get kX11 rfl (j := 12) (by decide) wfX11_209 dX11_mayFire_6 (v := ti (mI M 11 0 12)) rfl ?_
    refine tm_icmp_ge (tgt := 62) dX11_mayFire_9 (by decide) (fun c1 => ?_) (fun c1 => ?_)
    · rw [if_pos c1] at h
      obtain rfl := Option.some.inj h
      refine tm_lcp [2] rfl ?_
      exact J _ rfl
    · rw [if_neg c1] at h
      refine tm_iload_n dX11_mayFire_12 rfl rfl ?_
      obtain ⟨x3, hE4, h⟩ := obind_some h
      have J5 : TW g iX11_mayFire rmX11_mayFire 0 0 r Mz 0 0 55 [(0, tr 11 0), (1, ti z1), (3, ti y3)] [ti x3] M := by
        refine tm_istore_n (lc' := [(2, ti x3), (0, tr 11 0), (1, ti z1), (3, ti y3)]) dX11_mayFire_55 rfl (by decide) rfl ?_
        obtain ⟨x9, ex9, h⟩ := bnd_some h
        refine tm_iinc (v := x9) (lc' := [(3, ti x9), (2, ti x3), (0, tr 11 0), (1, ti z1)]) dX11_mayFire_56 rfl (by rw [ex9]; rfl) (by decide) rfl ?_
        refine tm_goto (tgt := 4) dX11_mayFire_59 (by decide) ?_
        refine tm_lcp [0, 1, 2, 3] rfl ?_
        exact ih x3 x9 _ h J
      refine tm_if_eq (tgt := 54) dX11_mayFire_13 (by decide) (fun c2 => ?_) (fun c2 => ?_)
      · rw [if_pos c2] at hE4
        refine tm_iconst (v := 0) dX11_mayFire_54 (by decide) ?_
        obtain rfl := Option.some.inj hE4
        refine tm_lcp [0, 1, 3] rfl ?_
        exact J5
      · rw [if_neg c2] at hE4
        refine tm_aload_n dX11_mayFire_16 rfl rfl ?_
        refine tm_get kX11 rfl (j := 14) (by decide) wfX11_44 dX11_mayFire_17 (v := tr 1214 0) rfl ?_
        refine tm_iload_n dX11_mayFire_20 rfl rfl ?_
        obtain ⟨b3, hE4⟩ := chk_some hE4
        refine tm_iald rfl dX11_mayFire_21 (inb_vp b3) ?_
        refine tm_iload_n dX11_mayFire_22 rfl rfl ?_
        refine tm_icmp_ne (tgt := 50) dX11_mayFire_23 (by decide) (fun c4 => ?_) (fun c4 => ?_)
        · rw [if_neg c4] at hE4
          refine tm_iconst (v := 1) dX11_mayFire_50 (by decide) ?_
          refine tm_goto (tgt := 55) dX11_mayFire_51 (by decide) ?_
          obtain rfl := Option.some.inj hE4
          refine tm_lcp [0, 1, 3] rfl ?_
          exact J5
        · rw [if_pos c4] at hE4
          refine tm_aload_n dX11_mayFire_26 rfl rfl ?_
          refine tm_get kX11 rfl (j := 21) (by decide) wfX11_65 dX11_mayFire_27 (v := tr 1221 0) rfl ?_
          refine tm_iload_n dX11_mayFire_30 rfl rfl ?_
          obtain ⟨b5, hE4⟩ := chk_some hE4
          refine tm_iald rfl dX11_mayFire_31 (inb_vp b5) ?_
          refine tm_aload_n dX11_mayFire_32 rfl rfl ?_
          refine tm_get kX11 rfl (j := 16) (by decide) wfX11_50 dX11_mayFire_33 (v := tr 1216 0) rfl ?_
          refine tm_iconst (v := 4) dX11_mayFire_36 (by decide) ?_
          refine tm_iload_n dX11_mayFire_37 rfl rfl ?_
          refine tm_imul dX11_mayFire_38 ?_
          refine tm_aload_n dX11_mayFire_39 rfl rfl ?_
          refine tm_get kX11 rfl (j := 19) (by decide) wfX11_59 dX11_mayFire_40 (v := tr 1219 0) rfl ?_
          refine tm_iload_n dX11_mayFire_43 rfl rfl ?_
          obtain ⟨b6, hE4⟩ := chk_some hE4
          refine tm_iald rfl dX11_mayFire_44 (inb_vp b6) ?_
          refine tm_iadd dX11_mayFire_45 ?_
          obtain ⟨b7, hE4⟩ := chk_some hE4
          refine tm_iald rfl dX11_mayFire_46 (inb_vp b7) ?_
          refine tm_icmp_lt (tgt := 54) dX11_mayFire_47 (by decide) (fun c8 => ?_) (fun c8 => ?_)
          · rw [if_pos c8] at hE4
            refine tm_iconst (v := 0) dX11_mayFire_54 (by decide) ?_
            obtain rfl := Option.some.inj hE4
            refine tm_lcp [0, 1, 3] rfl ?_
            exact J5
          · rw [if_neg c8] at hE4
            refine tm_iconst (v := 1) dX11_mayFire_50 (by decide) ?_
            refine tm_goto (tgt := 55) dX11_mayFire_51 (by decide) ?_
            obtain rfl := Option.some.inj hE4
            refine tm_lcp [0, 1, 3] rfl ?_
            exact J5
set_option maxHeartbeats 4000000 in
set_option maxRecDepth 100000 in
theorem okX11_mayFire {g : tG} {a1 : Int32} {M : tM} {v : Int32} (h : fX11_mayFire a1 M = some v) : TMet g yX11_mayFire (Cond.code yX11_mayFire cX11_mayFire 4 (some .boolean) :: tgd) rmX11_mayFire [tr 11 0, ti a1] M (some (ti v)) M 0 0 := by
  have key : TW g iX11_mayFire rmX11_mayFire 0 0 (some (ti v)) M 0 0 0 [(0, tr 11 0), (1, ti a1)] [] M := by
    rw [fX11_mayFire] at h
    refine tm_iconst (v := 1) dX11_mayFire_0 (by decide) ?_
    refine tm_istore_n (lc' := [(2, ti 1), (0, tr 11 0), (1, ti a1)]) dX11_mayFire_1 rfl (by decide) rfl ?_
    refine tm_iconst (v := 0) dX11_mayFire_2 (by decide) ?_
    refine tm_istore_n (lc' := [(3, ti 0), (2, ti 1), (0, tr 11 0), (1, ti a1)]) dX11_mayFire_3 rfl (by decide) rfl ?_
    obtain ⟨w10, hE11, h⟩ := obind_some h
    refine tm_lcp [0, 1, 2, 3] rfl ?_
    refine okX11_mayFire_l4 a1 M FU 1 0 _ hE11 (fun x12 e => ?_)
    subst e
    refine tm_iload_n dX11_mayFire_62 rfl rfl ?_
    obtain ⟨b13, h⟩ := chk_some h
    obtain rfl := Option.some.inj h
    exact tm_zret (tb_n b13) rfl dX11_mayFire_63
  exact TMet.of (by decide) (Nat.le_of_ble_eq_true rfl) key
theorem wcX11_399 : tCB RX11 399 yX11_mayFire cX11_mayFire 4 (some .boolean) 1 ∧ Cond.methodLink RX11 399 yX11_mayFire ∈ tgd ∧ Cond.instanceMethod yX11_mayFire ∈ tgd ∧ Cond.selects RX11 yX11_mayFire yX11_mayFire ∈ tgd := ⟨⟨(tgd_t 1761 (by decide +kernel) (by decide +kernel)), (tgd_t 10 (by decide +kernel) (by decide +kernel)), by decide, by decide +kernel⟩, (tgd_t 1758 (by decide +kernel) (by decide +kernel)), (tgd_t 1760 (by decide +kernel) (by decide +kernel)), (tgd_p 95 (by decide +kernel) (by decide +kernel))⟩
abbrev iX11_may : tY := (RX11, cX11_may, 2, some .int, "may")
abbrev rmX11_may : Room := { frames := 2, cells := 0, slots := 0, locals := 43 }
def fX11_may (a1 : Int32) (M : tM) : Option (Int32) :=
  (fX11_isPart a1 M).bind fun x1 =>
  if x1 = 0 then (
  some (-1)
  ) else (
  (fX11_mayFire a1 M).bind fun x4 =>
  if x4 = 0 then (
  some 0
  ) else (
  some 1
  )
  )
set_option maxHeartbeats 4000000 in
set_option maxRecDepth 100000 in
theorem okX11_may {g : tG} {a1 : Int32} {M : tM} {v : Int32} (h : fX11_may a1 M = some v) : TMet g yX11_may (Cond.code yX11_may cX11_may 2 (some .int) :: tgd) rmX11_may [tr 11 0, ti a1] M (some (ti v)) M 0 0 := by
  have key : TW g iX11_may rmX11_may 0 0 (some (ti v)) M 0 0 0 [(0, tr 11 0), (1, ti a1)] [] M := by
    rw [fX11_may] at h
    refine tm_aload_n dX11_may_0 rfl rfl ?_
    refine tm_iload_n dX11_may_1 rfl rfl ?_
    obtain ⟨x1, hc2, h⟩ := obind_some h
    refine tm_callV kX11 rfl (avs := [ti a1]) (st := []) (okX11_isPart hc2) wcX11_228.1 wcX11_228.2.1 wcX11_228.2.2.1 wcX11_228.2.2.2 ⟨rfl, rfl, Nat.le_of_ble_eq_true rfl, Nat.le_of_ble_eq_true rfl⟩ rfl (Nat.le_of_ble_eq_true rfl) ⟨Nat.zero_le _, Nat.zero_le _⟩ dX11_may_2 ?_
    refine tm_if_ne (tgt := 12) dX11_may_5 (by decide) (fun c3 => ?_) (fun c3 => ?_)
    · rw [if_neg c3] at h
      refine tm_aload_n dX11_may_12 rfl rfl ?_
      refine tm_iload_n dX11_may_13 rfl rfl ?_
      obtain ⟨x4, hc5, h⟩ := obind_some h
      refine tm_callV kX11 rfl (avs := [ti a1]) (st := []) (okX11_mayFire hc5) wcX11_399.1 wcX11_399.2.1 wcX11_399.2.2.1 wcX11_399.2.2.2 ⟨rfl, rfl, Nat.le_of_ble_eq_true rfl, Nat.le_of_ble_eq_true rfl⟩ rfl (Nat.le_of_ble_eq_true rfl) ⟨Nat.zero_le _, Nat.zero_le _⟩ dX11_may_14 ?_
      refine tm_if_eq (tgt := 24) dX11_may_17 (by decide) (fun c6 => ?_) (fun c6 => ?_)
      · rw [if_pos c6] at h
        refine tm_iconst (v := 0) dX11_may_24 (by decide) ?_
        obtain rfl := Option.some.inj h
        exact tm_iret rfl dX11_may_25
      · rw [if_neg c6] at h
        refine tm_iconst (v := 1) dX11_may_20 (by decide) ?_
        refine tm_goto (tgt := 25) dX11_may_21 (by decide) ?_
        obtain rfl := Option.some.inj h
        exact tm_iret rfl dX11_may_25
    · rw [if_pos c3] at h
      refine tm_iconst (v := (-1)) dX11_may_8 (by decide) ?_
      refine tm_goto (tgt := 25) dX11_may_9 (by decide) ?_
      obtain rfl := Option.some.inj h
      exact tm_iret rfl dX11_may_25
  exact TMet.of (by decide) (Nat.le_of_ble_eq_true rfl) key
abbrev iX11_isRoom : tY := (RX11, cX11_isRoom, 5, some .boolean, "isRoom")
abbrev rmX11_isRoom : Room := { frames := 0, cells := 0, slots := 0, locals := 0 }
def fX11_isRoom_l4 (z1 : Int32) (M : tM) : Nat → Int32 → Int32 → Option (Int32)
  | 0, _, _ => none
  | n + 1, y2, y3 =>
    if (mI M 11 0 12) ≤ y3 then (
    some y2
    ) else (
    chk (inb y3 (mN M 1221 0)) <|
    chk (inb y3 (mN M 1214 0)) <|
    Option.bind (α := Int32) (
    if (mI M 1214 0 (y3.toNatClampNeg)) = z1 then (
    chk (inb z1 (mN M 1219 0)) <|
    chk (inb ((4 * y3) + (mI M 1219 0 (z1.toNatClampNeg))) (mN M 1216 0)) <|
    some (mI M 1216 0 (((4 * y3) + (mI M 1219 0 (z1.toNatClampNeg))).toNatClampNeg))
    ) else (
    some 0
    )
    ) fun x5 =>
    chk (inb y3 (mN M 1213 0)) <|
    Option.bind (α := Int32) (
    if (mI M 1213 0 (y3.toNatClampNeg)) = z1 then (
    chk (inb z1 (mN M 1219 0)) <|
    chk (inb ((4 * y3) + (mI M 1219 0 (z1.toNatClampNeg))) (mN M 1215 0)) <|
    some (mI M 1215 0 (((4 * y3) + (mI M 1219 0 (z1.toNatClampNeg))).toNatClampNeg))
    ) else (
    some 0
    )
    ) fun x10 =>
    bnd (((mI M 1221 0 (y3.toNatClampNeg)) - x5) + x10) fun x13 =>
    Option.bind (α := Int32) (
    if y2 = 0 then (
    some 0
    ) else (
    if 400 < x13 then (
    some 0
    ) else (
    some 1
    )
    )
    ) fun x15 =>
    bnd (y3 + 1) fun x18 =>
    fX11_isRoom_l4 z1 M n x15 x18
    )
def fX11_isRoom (a1 : Int32) (M : tM) : Option (Int32) :=
  Option.bind (fX11_isRoom_l4 a1 M FU 1 0) fun x21 =>
  chk (tb x21) <|
  some x21
set_option maxHeartbeats 4000000 in
set_option maxRecDepth 100000 in
theorem okX11_isRoom_l4 {g : tG} (z1 : Int32) (M : tM) {r : Option tV} {Mz : tM} : ∀ (n : Nat) (y2 : Int32) (y3 : Int32) (w : Int32), fX11_isRoom_l4 z1 M n y2 y3 = some w → (∀ (w2 : Int32), w2 = w → TW g iX11_isRoom rmX11_isRoom 0 0 r Mz 0 0 104 [(2, ti w2)] [] M) → TW g iX11_isRoom rmX11_isRoom 0 0 r Mz 0 0 4 [(0, tr 11 0), (1, ti z1), (2, ti y2), (3, ti y3)] [] M := by
  intro n
  induction n with
  | zero => intro y2 y3 w h; cases h
  | succ n ih =>
    intro y2 y3 w h J
    rw [fX11_isRoom_l4] at h
    refine tm_iload_n dX11_isRoom_4 rfl rfl ?_
    refine tm_aload_n dX11_isRoom_5 rfl rfl ?_
    refine tm_get kX11 rfl (j := 12) (by decide) wfX11_209 dX11_isRoom_6 (v := ti (mI M 11 0 12)) rfl ?_
    refine tm_icmp_ge (tgt := 104) dX11_isRoom_9 (by decide) (fun c1 => ?_) (fun c1 => ?_)
    · rw [if_pos c1] at h
      obtain rfl := Option.some.inj h
      refine tm_lcp [2] rfl ?_
      exact J _ rfl
    · rw [if_neg c1] at h
      refine tm_aload_n dX11_isRoom_12 rfl rfl ?_
      refine tm_get kX11 rfl (j := 21) (by decide) wfX11_65 dX11_isRoom_13 (v := tr 1221 0) rfl ?_
      refine tm_iload_n dX11_isRoom_16 rfl rfl ?_
      obtain ⟨b2, h⟩ := chk_some h
      refine tm_iald rfl dX11_isRoom_17 (inb_vp b2) ?_
      refine tm_aload_n dX11_isRoom_18 rfl rfl ?_
      refine tm_get kX11 rfl (j := 14) (by decide) wfX11_44 dX11_isRoom_19 (v := tr 1214 0) rfl ?_
      refine tm_iload_n dX11_isRoom_22 rfl rfl ?_
      obtain ⟨b3, h⟩ := chk_some h
      refine tm_iald rfl dX11_isRoom_23 (inb_vp b3) ?_
      refine tm_iload_n dX11_isRoom_24 rfl rfl ?_
      obtain ⟨x5, hE6, h⟩ := obind_some h
      have J7 : TW g iX11_isRoom rmX11_isRoom 0 0 r Mz 0 0 47 [(0, tr 11 0), (1, ti z1), (2, ti y2), (3, ti y3)] [ti x5, ti (mI M 1221 0 (y3.toNatClampNeg))] M := by
        refine tm_isub dX11_isRoom_47 ?_
        refine tm_aload_n dX11_isRoom_48 rfl rfl ?_
        refine tm_get kX11 rfl (j := 13) (by decide) wfX11_41 dX11_isRoom_49 (v := tr 1213 0) rfl ?_
        refine tm_iload_n dX11_isRoom_52 rfl rfl ?_
        obtain ⟨b8, h⟩ := chk_some h
        refine tm_iald rfl dX11_isRoom_53 (inb_vp b8) ?_
        refine tm_iload_n dX11_isRoom_54 rfl rfl ?_
        obtain ⟨x10, hE11, h⟩ := obind_some h
        have J12 : TW g iX11_isRoom rmX11_isRoom 0 0 r Mz 0 0 77 [(0, tr 11 0), (1, ti z1), (2, ti y2), (3, ti y3)] [ti x10, ti ((mI M 1221 0 (y3.toNatClampNeg)) - x5)] M := by
          refine tm_iadd dX11_isRoom_77 ?_
          obtain ⟨x13, ex13, h⟩ := bnd_some h
          refine tm_nmI ex13 ?_
          refine tm_istore (lc' := [(4, ti x13), (0, tr 11 0), (1, ti z1), (2, ti y2), (3, ti y3)]) dX11_isRoom_78 (by decide) rfl ?_
          refine tm_iload_n dX11_isRoom_80 rfl rfl ?_
          obtain ⟨x15, hE16, h⟩ := obind_some h
          have J17 : TW g iX11_isRoom rmX11_isRoom 0 0 r Mz 0 0 97 [(0, tr 11 0), (1, ti z1), (3, ti y3)] [ti x15] M := by
            refine tm_istore_n (lc' := [(2, ti x15), (0, tr 11 0), (1, ti z1), (3, ti y3)]) dX11_isRoom_97 rfl (by decide) rfl ?_
            obtain ⟨x18, ex18, h⟩ := bnd_some h
            refine tm_iinc (v := x18) (lc' := [(3, ti x18), (2, ti x15), (0, tr 11 0), (1, ti z1)]) dX11_isRoom_98 rfl (by rw [ex18]; rfl) (by decide) rfl ?_
            refine tm_goto (tgt := 4) dX11_isRoom_101 (by decide) ?_
            refine tm_lcp [0, 1, 2, 3] rfl ?_
            exact ih x15 x18 _ h J
          refine tm_if_eq (tgt := 96) dX11_isRoom_81 (by decide) (fun c14 => ?_) (fun c14 => ?_)
          · rw [if_pos c14] at hE16
            refine tm_iconst (v := 0) dX11_isRoom_96 (by decide) ?_
            obtain rfl := Option.some.inj hE16
            refine tm_lcp [0, 1, 3] rfl ?_
            exact J17
          · rw [if_neg c14] at hE16
            refine tm_iload dX11_isRoom_84 rfl ?_
            refine tm_sipush (v := 400) dX11_isRoom_86 (by decide) ?_
            refine tm_icmp_gt (tgt := 96) dX11_isRoom_89 (by decide) (fun c15 => ?_) (fun c15 => ?_)
            · rw [if_pos c15] at hE16
              refine tm_iconst (v := 0) dX11_isRoom_96 (by decide) ?_
              obtain rfl := Option.some.inj hE16
              refine tm_lcp [0, 1, 3] rfl ?_
              exact J17
            · rw [if_neg c15] at hE16
              refine tm_iconst (v := 1) dX11_isRoom_92 (by decide) ?_
              refine tm_goto (tgt := 97) dX11_isRoom_93 (by decide) ?_
              obtain rfl := Option.some.inj hE16
              refine tm_lcp [0, 1, 3] rfl ?_
              exact J17
        refine tm_icmp_ne (tgt := 76) dX11_isRoom_55 (by decide) (fun c9 => ?_) (fun c9 => ?_)
        · rw [if_neg c9] at hE11
          refine tm_iconst (v := 0) dX11_isRoom_76 (by decide) ?_
          obtain rfl := Option.some.inj hE11
          refine tm_lcp [0, 1, 2, 3] rfl ?_
          exact J12
        · rw [if_pos c9] at hE11
          refine tm_aload_n dX11_isRoom_58 rfl rfl ?_
          refine tm_get kX11 rfl (j := 15) (by decide) wfX11_47 dX11_isRoom_59 (v := tr 1215 0) rfl ?_
          refine tm_iconst (v := 4) dX11_isRoom_62 (by decide) ?_
          refine tm_iload_n dX11_isRoom_63 rfl rfl ?_
          refine tm_imul dX11_isRoom_64 ?_
          refine tm_aload_n dX11_isRoom_65 rfl rfl ?_
          refine tm_get kX11 rfl (j := 19) (by decide) wfX11_59 dX11_isRoom_66 (v := tr 1219 0) rfl ?_
          refine tm_iload_n dX11_isRoom_69 rfl rfl ?_
          obtain ⟨b10, hE11⟩ := chk_some hE11
          refine tm_iald rfl dX11_isRoom_70 (inb_vp b10) ?_
          refine tm_iadd dX11_isRoom_71 ?_
          obtain ⟨b11, hE11⟩ := chk_some hE11
          refine tm_iald rfl dX11_isRoom_72 (inb_vp b11) ?_
          refine tm_goto (tgt := 77) dX11_isRoom_73 (by decide) ?_
          obtain rfl := Option.some.inj hE11
          refine tm_lcp [0, 1, 2, 3] rfl ?_
          exact J12
      refine tm_icmp_ne (tgt := 46) dX11_isRoom_25 (by decide) (fun c4 => ?_) (fun c4 => ?_)
      · rw [if_neg c4] at hE6
        refine tm_iconst (v := 0) dX11_isRoom_46 (by decide) ?_
        obtain rfl := Option.some.inj hE6
        refine tm_lcp [0, 1, 2, 3] rfl ?_
        exact J7
      · rw [if_pos c4] at hE6
        refine tm_aload_n dX11_isRoom_28 rfl rfl ?_
        refine tm_get kX11 rfl (j := 16) (by decide) wfX11_50 dX11_isRoom_29 (v := tr 1216 0) rfl ?_
        refine tm_iconst (v := 4) dX11_isRoom_32 (by decide) ?_
        refine tm_iload_n dX11_isRoom_33 rfl rfl ?_
        refine tm_imul dX11_isRoom_34 ?_
        refine tm_aload_n dX11_isRoom_35 rfl rfl ?_
        refine tm_get kX11 rfl (j := 19) (by decide) wfX11_59 dX11_isRoom_36 (v := tr 1219 0) rfl ?_
        refine tm_iload_n dX11_isRoom_39 rfl rfl ?_
        obtain ⟨b5, hE6⟩ := chk_some hE6
        refine tm_iald rfl dX11_isRoom_40 (inb_vp b5) ?_
        refine tm_iadd dX11_isRoom_41 ?_
        obtain ⟨b6, hE6⟩ := chk_some hE6
        refine tm_iald rfl dX11_isRoom_42 (inb_vp b6) ?_
        refine tm_goto (tgt := 47) dX11_isRoom_43 (by decide) ?_
        obtain rfl := Option.some.inj hE6
        refine tm_lcp [0, 1, 2, 3] rfl ?_
        exact J7
set_option maxHeartbeats 4000000 in
set_option maxRecDepth 100000 in
theorem okX11_isRoom {g : tG} {a1 : Int32} {M : tM} {v : Int32} (h : fX11_isRoom a1 M = some v) : TMet g yX11_isRoom (Cond.code yX11_isRoom cX11_isRoom 5 (some .boolean) :: tgd) rmX11_isRoom [tr 11 0, ti a1] M (some (ti v)) M 0 0 := by
  have key : TW g iX11_isRoom rmX11_isRoom 0 0 (some (ti v)) M 0 0 0 [(0, tr 11 0), (1, ti a1)] [] M := by
    rw [fX11_isRoom] at h
    refine tm_iconst (v := 1) dX11_isRoom_0 (by decide) ?_
    refine tm_istore_n (lc' := [(2, ti 1), (0, tr 11 0), (1, ti a1)]) dX11_isRoom_1 rfl (by decide) rfl ?_
    refine tm_iconst (v := 0) dX11_isRoom_2 (by decide) ?_
    refine tm_istore_n (lc' := [(3, ti 0), (2, ti 1), (0, tr 11 0), (1, ti a1)]) dX11_isRoom_3 rfl (by decide) rfl ?_
    obtain ⟨w19, hE20, h⟩ := obind_some h
    refine tm_lcp [0, 1, 2, 3] rfl ?_
    refine okX11_isRoom_l4 a1 M FU 1 0 _ hE20 (fun x21 e => ?_)
    subst e
    refine tm_iload_n dX11_isRoom_104 rfl rfl ?_
    obtain ⟨b22, h⟩ := chk_some h
    obtain rfl := Option.some.inj h
    exact tm_zret (tb_n b22) rfl dX11_isRoom_105
  exact TMet.of (by decide) (Nat.le_of_ble_eq_true rfl) key
theorem wfX11_77 : Cond.fieldLink RX11 77 "EvenFlowModel" "trace" "[I" ∈ tgd := (tgd_t 1252 (by decide +kernel) (by decide +kernel))
theorem wfX11_402 : Cond.fieldLink RX11 402 "EvenFlowModel" "traced" "I" ∈ tgd := (tgd_t 1253 (by decide +kernel) (by decide +kernel))
abbrev iX11_body : tY := (RX11, cX11_body, 2, none, "body")
abbrev rmX11_body : Room := { frames := 0, cells := 0, slots := 0, locals := 0 }
def fX11_body (a1 : Int32) (M : tM) : Option (tM) :=
  chk (inb (mI M 11 0 28) (mN M 1227 0)) <|
  bnd (sI M 1227 0 ((mI M 11 0 28).toNatClampNeg) a1) fun M2 =>
  bnd (sI M2 11 0 28 ((mI M2 11 0 28) + 1)) fun M3 =>
  some M3
set_option maxHeartbeats 4000000 in
set_option maxRecDepth 100000 in
theorem okX11_body {g : tG} {a1 : Int32} {M : tM} {Mz : tM} (h : fX11_body a1 M = some Mz) : TMet g yX11_body (Cond.code yX11_body cX11_body 2 (none) :: tgd) rmX11_body [tr 11 0, ti a1] M none Mz 0 0 := by
  have key : TW g iX11_body rmX11_body 0 0 none Mz 0 0 0 [(0, tr 11 0), (1, ti a1)] [] M := by
    rw [fX11_body] at h
    refine tm_aload_n dX11_body_0 rfl rfl ?_
    refine tm_get kX11 rfl (j := 27) (by decide) wfX11_77 dX11_body_1 (v := tr 1227 0) rfl ?_
    refine tm_aload_n dX11_body_4 rfl rfl ?_
    refine tm_get kX11 rfl (j := 28) (by decide) wfX11_402 dX11_body_5 (v := ti (mI M 11 0 28)) rfl ?_
    refine tm_iload_n dX11_body_8 rfl rfl ?_
    obtain ⟨b1, h⟩ := chk_some h
    obtain ⟨M2, eM2, h⟩ := bnd_some h
    refine tm_iast rfl dX11_body_9 (inb_vp b1) ?_
    refine tm_nmM eM2 ?_
    refine tm_aload_n dX11_body_10 rfl rfl ?_
    refine tm_dup dX11_body_11 rfl ?_
    refine tm_get kX11 rfl (j := 28) (by decide) wfX11_402 dX11_body_12 (v := ti (mI M2 11 0 28)) rfl ?_
    refine tm_iconst (v := 1) dX11_body_15 (by decide) ?_
    refine tm_iadd dX11_body_16 ?_
    obtain ⟨M3, eM3, h⟩ := bnd_some h
    refine tm_put kX11 rfl (j := 28) (by decide) wfX11_402 rfl dX11_body_17 (fun _ => ⟨rfl, rfl⟩) (tPut_I ((mI M2 11 0 28) + 1) rfl) ?_
    refine tm_nmM eM3 ?_
    obtain rfl := Option.some.inj h
    exact tm_vret rfl dX11_body_20
  exact TMet.of (by decide) (Nat.le_of_ble_eq_true rfl) key
abbrev iX11_summed : tY := (RX11, cX11_summed, 6, some .long, "summed")
abbrev rmX11_summed : Room := { frames := 0, cells := 0, slots := 0, locals := 0 }
def fX11_summed_l22 (z1 : Int32) (z4 : Int32) (M : tM) : Nat → Int64 → Int32 → Option (Int64)
  | 0, _, _ => none
  | n + 1, y2, y5 =>
    chk (inb z1 (mN M 1219 0)) <|
    chk (inb ((4 * z4) + (mI M 1219 0 (z1.toNatClampNeg))) (mN M 1216 0)) <|
    if (mI M 1216 0 (((4 * z4) + (mI M 1219 0 (z1.toNatClampNeg))).toNatClampNeg)) ≤ y5 then (
    some y2
    ) else (
    chk (inb z4 (mN M 1214 0)) <|
    if (mI M 1214 0 (z4.toNatClampNeg)) = z1 then (
    chk (inb ((450 * z4) + y5) (mN M 1222 0)) <|
    bnd (y2 + (mL M 1222 0 (((450 * z4) + y5).toNatClampNeg))) fun x10 =>
    bnd (y5 + 1) fun x11 =>
    fX11_summed_l22 z1 z4 M n x10 x11
    ) else (
    some y2
    )
    )
def fX11_summed_l10 (z1 : Int32) (M : tM) : Nat → Int64 → Int32 → Option (Int64)
  | 0, _, _ => none
  | n + 1, y2, y4 =>
    if (mI M 11 0 12) ≤ y4 then (
    some y2
    ) else (
    Option.bind (fX11_summed_l22 z1 y4 M FU y2 0) fun x14 =>
    bnd (y4 + 1) fun x15 =>
    fX11_summed_l10 z1 M n x14 x15
    )
def fX11_summed (a1 : Int32) (M : tM) : Option (Int64) :=
  chk (inb a1 (mN M 1204 0)) <|
  bnd (mL M 1204 0 (a1.toNatClampNeg)) fun x2 =>
  Option.bind (fX11_summed_l10 a1 M FU x2 0) fun x18 =>
  some x18
set_option maxHeartbeats 4000000 in
set_option maxRecDepth 100000 in
theorem okX11_summed_l22 {g : tG} (z1 : Int32) (z4 : Int32) (M : tM) {r : Option tV} {Mz : tM} : ∀ (n : Nat) (y2 : Int64) (y5 : Int32) (w : Int64), fX11_summed_l22 z1 z4 M n y2 y5 = some w → (∀ (w2 : Int64), w2 = w → TW g iX11_summed rmX11_summed 0 0 r Mz 0 0 77 [(0, tr 11 0), (1, ti z1), (2, tl w2), (4, ti z4)] [] M) → TW g iX11_summed rmX11_summed 0 0 r Mz 0 0 22 [(0, tr 11 0), (1, ti z1), (2, tl y2), (4, ti z4), (5, ti y5)] [] M := by
  intro n
  induction n with
  | zero => intro y2 y5 w h; cases h
  | succ n ih =>
    intro y2 y5 w h J
    rw [fX11_summed_l22] at h
    refine tm_iload dX11_summed_22 rfl ?_
    refine tm_aload_n dX11_summed_24 rfl rfl ?_
    refine tm_get kX11 rfl (j := 16) (by decide) wfX11_50 dX11_summed_25 (v := tr 1216 0) rfl ?_
    refine tm_iconst (v := 4) dX11_summed_28 (by decide) ?_
    refine tm_iload dX11_summed_29 rfl ?_
    refine tm_imul dX11_summed_31 ?_
    refine tm_aload_n dX11_summed_32 rfl rfl ?_
    refine tm_get kX11 rfl (j := 19) (by decide) wfX11_59 dX11_summed_33 (v := tr 1219 0) rfl ?_
    refine tm_iload_n dX11_summed_36 rfl rfl ?_
    obtain ⟨b4, h⟩ := chk_some h
    refine tm_iald rfl dX11_summed_37 (inb_vp b4) ?_
    refine tm_iadd dX11_summed_38 ?_
    obtain ⟨b5, h⟩ := chk_some h
    refine tm_iald rfl dX11_summed_39 (inb_vp b5) ?_
    refine tm_icmp_ge (tgt := 77) dX11_summed_40 (by decide) (fun c6 => ?_) (fun c6 => ?_)
    · rw [if_pos c6] at h
      obtain rfl := Option.some.inj h
      refine tm_lcp [0, 1, 2, 4] rfl ?_
      exact J _ rfl
    · rw [if_neg c6] at h
      refine tm_aload_n dX11_summed_43 rfl rfl ?_
      refine tm_get kX11 rfl (j := 14) (by decide) wfX11_44 dX11_summed_44 (v := tr 1214 0) rfl ?_
      refine tm_iload dX11_summed_47 rfl ?_
      obtain ⟨b7, h⟩ := chk_some h
      refine tm_iald rfl dX11_summed_49 (inb_vp b7) ?_
      refine tm_iload_n dX11_summed_50 rfl rfl ?_
      refine tm_icmp_ne (tgt := 77) dX11_summed_51 (by decide) (fun c8 => ?_) (fun c8 => ?_)
      · rw [if_neg c8] at h
        obtain rfl := Option.some.inj h
        refine tm_lcp [0, 1, 2, 4] rfl ?_
        exact J _ rfl
      · rw [if_pos c8] at h
        refine tm_lload_n dX11_summed_54 rfl rfl ?_
        refine tm_aload_n dX11_summed_55 rfl rfl ?_
        refine tm_get kX11 rfl (j := 22) (by decide) wfX11_68 dX11_summed_56 (v := tr 1222 0) rfl ?_
        refine tm_sipush (v := 450) dX11_summed_59 (by decide) ?_
        refine tm_iload dX11_summed_62 rfl ?_
        refine tm_imul dX11_summed_64 ?_
        refine tm_iload dX11_summed_65 rfl ?_
        refine tm_iadd dX11_summed_67 ?_
        obtain ⟨b9, h⟩ := chk_some h
        refine tm_lald rfl dX11_summed_68 (inb_vp b9) ?_
        refine tm_ladd dX11_summed_69 ?_
        obtain ⟨x10, ex10, h⟩ := bnd_some h
        refine tm_nmL ex10 ?_
        refine tm_lstore_n (lc' := [(2, tl x10), (0, tr 11 0), (1, ti z1), (4, ti z4), (5, ti y5)]) dX11_summed_70 rfl (by decide) rfl ?_
        obtain ⟨x11, ex11, h⟩ := bnd_some h
        refine tm_iinc (v := x11) (lc' := [(5, ti x11), (2, tl x10), (0, tr 11 0), (1, ti z1), (4, ti z4)]) dX11_summed_71 rfl (by rw [ex11]; rfl) (by decide) rfl ?_
        refine tm_goto (tgt := 22) dX11_summed_74 (by decide) ?_
        refine tm_lcp [0, 1, 2, 4, 5] rfl ?_
        exact ih x10 x11 _ h J
set_option maxHeartbeats 4000000 in
set_option maxRecDepth 100000 in
theorem okX11_summed_l10 {g : tG} (z1 : Int32) (M : tM) {r : Option tV} {Mz : tM} : ∀ (n : Nat) (y2 : Int64) (y4 : Int32) (w : Int64), fX11_summed_l10 z1 M n y2 y4 = some w → (∀ (w2 : Int64), w2 = w → TW g iX11_summed rmX11_summed 0 0 r Mz 0 0 83 [(2, tl w2)] [] M) → TW g iX11_summed rmX11_summed 0 0 r Mz 0 0 10 [(0, tr 11 0), (1, ti z1), (2, tl y2), (4, ti y4)] [] M := by
  intro n
  induction n with
  | zero => intro y2 y4 w h; cases h
  | succ n ih =>
    intro y2 y4 w h J
    rw [fX11_summed_l10] at h
    refine tm_iload dX11_summed_10 rfl ?_
    refine tm_aload_n dX11_summed_12 rfl rfl ?_
    refine tm_get kX11 rfl (j := 12) (by decide) wfX11_209 dX11_summed_13 (v := ti (mI M 11 0 12)) rfl ?_
    refine tm_icmp_ge (tgt := 83) dX11_summed_16 (by decide) (fun c3 => ?_) (fun c3 => ?_)
    · rw [if_pos c3] at h
      obtain rfl := Option.some.inj h
      refine tm_lcp [2] rfl ?_
      exact J _ rfl
    · rw [if_neg c3] at h
      refine tm_iconst (v := 0) dX11_summed_19 (by decide) ?_
      refine tm_istore (lc' := [(5, ti 0), (0, tr 11 0), (1, ti z1), (2, tl y2), (4, ti y4)]) dX11_summed_20 (by decide) rfl ?_
      obtain ⟨w12, hE13, h⟩ := obind_some h
      refine tm_lcp [0, 1, 2, 4, 5] rfl ?_
      refine okX11_summed_l22 z1 y4 M FU y2 0 _ hE13 (fun x14 e => ?_)
      subst e
      obtain ⟨x15, ex15, h⟩ := bnd_some h
      refine tm_iinc (v := x15) (lc' := [(4, ti x15), (0, tr 11 0), (1, ti z1), (2, tl x14)]) dX11_summed_77 rfl (by rw [ex15]; rfl) (by decide) rfl ?_
      refine tm_goto (tgt := 10) dX11_summed_80 (by decide) ?_
      refine tm_lcp [0, 1, 2, 4] rfl ?_
      exact ih x14 x15 _ h J
set_option maxHeartbeats 4000000 in
set_option maxRecDepth 100000 in
theorem okX11_summed {g : tG} {a1 : Int32} {M : tM} {v : Int64} (h : fX11_summed a1 M = some v) : TMet g yX11_summed (Cond.code yX11_summed cX11_summed 6 (some .long) :: tgd) rmX11_summed [tr 11 0, ti a1] M (some (tl v)) M 0 0 := by
  have key : TW g iX11_summed rmX11_summed 0 0 (some (tl v)) M 0 0 0 [(0, tr 11 0), (1, ti a1)] [] M := by
    rw [fX11_summed] at h
    refine tm_aload_n dX11_summed_0 rfl rfl ?_
    refine tm_get kX11 rfl (j := 4) (by decide) wfX11_16 dX11_summed_1 (v := tr 1204 0) rfl ?_
    refine tm_iload_n dX11_summed_4 rfl rfl ?_
    obtain ⟨b1, h⟩ := chk_some h
    refine tm_lald rfl dX11_summed_5 (inb_vp b1) ?_
    obtain ⟨x2, ex2, h⟩ := bnd_some h
    refine tm_nmL ex2 ?_
    refine tm_lstore_n (lc' := [(2, tl x2), (0, tr 11 0), (1, ti a1)]) dX11_summed_6 rfl (by decide) rfl ?_
    refine tm_iconst (v := 0) dX11_summed_7 (by decide) ?_
    refine tm_istore (lc' := [(4, ti 0), (2, tl x2), (0, tr 11 0), (1, ti a1)]) dX11_summed_8 (by decide) rfl ?_
    obtain ⟨w16, hE17, h⟩ := obind_some h
    refine tm_lcp [0, 1, 2, 4] rfl ?_
    refine okX11_summed_l10 a1 M FU x2 0 _ hE17 (fun x18 e => ?_)
    subst e
    refine tm_lload_n dX11_summed_83 rfl rfl ?_
    obtain rfl := Option.some.inj h
    exact tm_lret rfl dX11_summed_84
  exact TMet.of (by decide) (Nat.le_of_ble_eq_true rfl) key
theorem wcX11_405 : tCB RX11 405 yX11_body cX11_body 2 (none) 1 ∧ Cond.methodLink RX11 405 yX11_body ∈ tgd ∧ Cond.instanceMethod yX11_body ∈ tgd ∧ Cond.selects RX11 yX11_body yX11_body ∈ tgd := ⟨⟨(tgd_t 1785 (by decide +kernel) (by decide +kernel)), (tgd_t 10 (by decide +kernel) (by decide +kernel)), by decide, by decide +kernel⟩, (tgd_t 1782 (by decide +kernel) (by decide +kernel)), (tgd_t 1784 (by decide +kernel) (by decide +kernel)), (tgd_p 100 (by decide +kernel) (by decide +kernel))⟩
theorem wcX11_408 : tCB RX11 408 yX11_summed cX11_summed 6 (some .long) 1 ∧ Cond.methodLink RX11 408 yX11_summed ∈ tgd ∧ Cond.instanceMethod yX11_summed ∈ tgd ∧ Cond.selects RX11 yX11_summed yX11_summed ∈ tgd := ⟨⟨(tgd_t 1789 (by decide +kernel) (by decide +kernel)), (tgd_t 10 (by decide +kernel) (by decide +kernel)), by decide, by decide +kernel⟩, (tgd_t 1786 (by decide +kernel) (by decide +kernel)), (tgd_t 1788 (by decide +kernel) (by decide +kernel)), (tgd_p 101 (by decide +kernel) (by decide +kernel))⟩
abbrev iX11_fixed : tY := (RX11, cX11_fixed, 2, some .long, "fixed")
abbrev rmX11_fixed : Room := { frames := 1, cells := 0, slots := 0, locals := 25 }
def fX11_fixed (a1 : Int32) (M : tM) : Option (Int64 × tM) :=
  (fX11_body 1 M).bind fun M2 =>
  (fX11_summed a1 M2).bind fun x3 =>
  some ((x3, M2))
set_option maxHeartbeats 4000000 in
set_option maxRecDepth 100000 in
theorem okX11_fixed {g : tG} {a1 : Int32} {M : tM} {v : Int64} {Mz : tM} (h : fX11_fixed a1 M = some ((v, Mz))) : TMet g yX11_fixed (Cond.code yX11_fixed cX11_fixed 2 (some .long) :: tgd) rmX11_fixed [tr 11 0, ti a1] M (some (tl v)) Mz 0 0 := by
  have key : TW g iX11_fixed rmX11_fixed 0 0 (some (tl v)) Mz 0 0 0 [(0, tr 11 0), (1, ti a1)] [] M := by
    rw [fX11_fixed] at h
    refine tm_aload_n dX11_fixed_0 rfl rfl ?_
    refine tm_iconst (v := 1) dX11_fixed_1 (by decide) ?_
    obtain ⟨M2, hc1, h⟩ := obind_some h
    refine tm_callV kX11 rfl (avs := [ti 1]) (st := []) (okX11_body hc1) wcX11_405.1 wcX11_405.2.1 wcX11_405.2.2.1 wcX11_405.2.2.2 ⟨rfl, rfl, Nat.le_of_ble_eq_true rfl, Nat.le_of_ble_eq_true rfl⟩ rfl (Nat.le_of_ble_eq_true rfl) ⟨Nat.zero_le _, Nat.zero_le _⟩ dX11_fixed_2 ?_
    refine tm_aload_n dX11_fixed_5 rfl rfl ?_
    refine tm_iload_n dX11_fixed_6 rfl rfl ?_
    obtain ⟨x3, hc4, h⟩ := obind_some h
    refine tm_callV kX11 rfl (avs := [ti a1]) (st := []) (okX11_summed hc4) wcX11_408.1 wcX11_408.2.1 wcX11_408.2.2.1 wcX11_408.2.2.2 ⟨rfl, rfl, Nat.le_of_ble_eq_true rfl, Nat.le_of_ble_eq_true rfl⟩ rfl (Nat.le_of_ble_eq_true rfl) ⟨Nat.zero_le _, Nat.zero_le _⟩ dX11_fixed_7 ?_
    obtain ⟨rfl, rfl⟩ := pj2 h
    exact tm_lret rfl dX11_fixed_10
  exact TMet.of (by decide) (Nat.le_of_ble_eq_true rfl) key
theorem wcX11_412 : tCB RX11 412 yX11_fixed cX11_fixed 2 (some .long) 1 ∧ Cond.methodLink RX11 412 yX11_fixed ∈ tgd ∧ Cond.instanceMethod yX11_fixed ∈ tgd ∧ Cond.selects RX11 yX11_fixed yX11_fixed ∈ tgd := ⟨⟨(tgd_t 1781 (by decide +kernel) (by decide +kernel)), (tgd_t 10 (by decide +kernel) (by decide +kernel)), by decide, by decide +kernel⟩, (tgd_t 1778 (by decide +kernel) (by decide +kernel)), (tgd_t 1780 (by decide +kernel) (by decide +kernel)), (tgd_p 99 (by decide +kernel) (by decide +kernel))⟩
abbrev iX11_scaled : tY := (RX11, cX11_scaled, 2, some .long, "scaled")
abbrev rmX11_scaled : Room := { frames := 2, cells := 0, slots := 0, locals := 46 }
def fX11_scaled (a1 : Int32) (M : tM) : Option (Int64 × tM) :=
  (fX11_body 2 M).bind fun M2 =>
  chk (inb a1 (mN M2 1204 0)) <|
  (fX11_fixed a1 M2).bind fun (x4, M6) =>
  some (((mL M2 1204 0 (a1.toNatClampNeg)) * x4, M6))
set_option maxHeartbeats 4000000 in
set_option maxRecDepth 100000 in
theorem okX11_scaled {g : tG} {a1 : Int32} {M : tM} {v : Int64} {Mz : tM} (h : fX11_scaled a1 M = some ((v, Mz))) : TMet g yX11_scaled (Cond.code yX11_scaled cX11_scaled 2 (some .long) :: tgd) rmX11_scaled [tr 11 0, ti a1] M (some (tl v)) Mz 0 0 := by
  have key : TW g iX11_scaled rmX11_scaled 0 0 (some (tl v)) Mz 0 0 0 [(0, tr 11 0), (1, ti a1)] [] M := by
    rw [fX11_scaled] at h
    refine tm_aload_n dX11_scaled_0 rfl rfl ?_
    refine tm_iconst (v := 2) dX11_scaled_1 (by decide) ?_
    obtain ⟨M2, hc1, h⟩ := obind_some h
    refine tm_callV kX11 rfl (avs := [ti 2]) (st := []) (okX11_body hc1) wcX11_405.1 wcX11_405.2.1 wcX11_405.2.2.1 wcX11_405.2.2.2 ⟨rfl, rfl, Nat.le_of_ble_eq_true rfl, Nat.le_of_ble_eq_true rfl⟩ rfl (Nat.le_of_ble_eq_true rfl) ⟨Nat.zero_le _, Nat.zero_le _⟩ dX11_scaled_2 ?_
    refine tm_aload_n dX11_scaled_5 rfl rfl ?_
    refine tm_get kX11 rfl (j := 4) (by decide) wfX11_16 dX11_scaled_6 (v := tr 1204 0) rfl ?_
    refine tm_iload_n dX11_scaled_9 rfl rfl ?_
    obtain ⟨b3, h⟩ := chk_some h
    refine tm_lald rfl dX11_scaled_10 (inb_vp b3) ?_
    refine tm_aload_n dX11_scaled_11 rfl rfl ?_
    refine tm_iload_n dX11_scaled_12 rfl rfl ?_
    obtain ⟨⟨x4, M6⟩, hc5, h⟩ := obind_some h
    dsimp only at h
    refine tm_callV kX11 rfl (avs := [ti a1]) (st := [tl (mL M2 1204 0 (a1.toNatClampNeg))]) (okX11_fixed hc5) wcX11_412.1 wcX11_412.2.1 wcX11_412.2.2.1 wcX11_412.2.2.2 ⟨rfl, rfl, Nat.le_of_ble_eq_true rfl, Nat.le_of_ble_eq_true rfl⟩ rfl (Nat.le_of_ble_eq_true rfl) ⟨Nat.zero_le _, Nat.zero_le _⟩ dX11_scaled_13 ?_
    refine tm_lmul dX11_scaled_16 ?_
    obtain ⟨rfl, rfl⟩ := pj2 h
    exact tm_lret rfl dX11_scaled_17
  exact TMet.of (by decide) (Nat.le_of_ble_eq_true rfl) key
theorem wcX11_415 : tCB RX11 415 yX11_scaled cX11_scaled 2 (some .long) 1 ∧ Cond.methodLink RX11 415 yX11_scaled ∈ tgd ∧ Cond.instanceMethod yX11_scaled ∈ tgd ∧ Cond.selects RX11 yX11_scaled yX11_scaled ∈ tgd := ⟨⟨(tgd_t 1793 (by decide +kernel) (by decide +kernel)), (tgd_t 10 (by decide +kernel) (by decide +kernel)), by decide, by decide +kernel⟩, (tgd_t 1790 (by decide +kernel) (by decide +kernel)), (tgd_t 1792 (by decide +kernel) (by decide +kernel)), (tgd_p 102 (by decide +kernel) (by decide +kernel))⟩
theorem wfX11_418 : Cond.fieldLink RX11 418 "EvenFlowModel" "finds" "I" ∈ tgd := (tgd_t 1301 (by decide +kernel) (by decide +kernel))
abbrev iX11_shared : tY := (RX11, cX11_shared, 8, some .long, "shared")
abbrev rmX11_shared : Room := { frames := 3, cells := 0, slots := 0, locals := 67 }
def fX11_shared_l20 (z1 : Int32) (z2 : Int64) (M : tM) : Nat → Int64 → Int32 → Int32 → Option (Int64)
  | 0, _, _, _ => none
  | n + 1, y4, y6, y7 =>
    if (mI M 11 0 12) ≤ y7 then (
    some y4
    ) else (
    if y6 = 0 then (
    chk (inb y7 (mN M 1214 0)) <|
    Option.bind (α := Int64 × Int32) (
    if (mI M 1214 0 (y7.toNatClampNeg)) = z1 then (
    chk (inb z1 (mN M 1219 0)) <|
    chk (inb ((4 * y7) + (mI M 1219 0 (z1.toNatClampNeg))) (mN M 1216 0)) <|
    if (mI M 1216 0 (((4 * y7) + (mI M 1219 0 (z1.toNatClampNeg))).toNatClampNeg)) ≤ 0 then (
    some ((y4, y6))
    ) else (
    chk (inb (450 * y7) (mN M 1222 0)) <|
    bnd (mL M 1222 0 ((450 * y7).toNatClampNeg)) fun x14 =>
    some ((x14, 1))
    )
    ) else (
    some ((y4, y6))
    )
    ) fun (x10, x11) =>
    bnd (y7 + 1) fun x15 =>
    fX11_shared_l20 z1 z2 M n x10 x11 x15
    ) else (
    some y4
    )
    )
def fX11_shared (a1 : Int32) (M : tM) : Option (Int64 × tM) :=
  (fX11_body 4 M).bind fun M2 =>
  (fX11_scaled a1 M2).bind fun (x3, M5) =>
  Option.bind (fX11_shared_l20 a1 x3 M5 FU 0 0 0) fun x18 =>
  if (lg_cmp x18 0) = 0 then (
  bnd (sI M5 11 0 76 4) fun M21 =>
  some ((0, M21))
  ) else (
  chk (nz8 x18) <|
  some ((x3 / x18, M5))
  )
set_option maxHeartbeats 4000000 in
set_option maxRecDepth 100000 in
theorem okX11_shared_l20 {g : tG} (z1 : Int32) (z2 : Int64) (M : tM) {r : Option tV} {Mz : tM} : ∀ (n : Nat) (y4 : Int64) (y6 : Int32) (y7 : Int32) (w : Int64), fX11_shared_l20 z1 z2 M n y4 y6 y7 = some w → (∀ (w4 : Int64), w4 = w → TW g iX11_shared rmX11_shared 0 0 r Mz 0 0 86 [(0, tr 11 0), (2, tl z2), (4, tl w4)] [] M) → TW g iX11_shared rmX11_shared 0 0 r Mz 0 0 20 [(0, tr 11 0), (1, ti z1), (2, tl z2), (4, tl y4), (6, ti y6), (7, ti y7)] [] M := by
  intro n
  induction n with
  | zero => intro y4 y6 y7 w h; cases h
  | succ n ih =>
    intro y4 y6 y7 w h J
    rw [fX11_shared_l20] at h
    refine tm_iload dX11_shared_20 rfl ?_
    refine tm_aload_n dX11_shared_22 rfl rfl ?_
    refine tm_get kX11 rfl (j := 12) (by decide) wfX11_209 dX11_shared_23 (v := ti (mI M 11 0 12)) rfl ?_
    refine tm_icmp_ge (tgt := 86) dX11_shared_26 (by decide) (fun c6 => ?_) (fun c6 => ?_)
    · rw [if_pos c6] at h
      obtain rfl := Option.some.inj h
      refine tm_lcp [0, 2, 4] rfl ?_
      exact J _ rfl
    · rw [if_neg c6] at h
      refine tm_iload dX11_shared_29 rfl ?_
      refine tm_if_ne (tgt := 86) dX11_shared_31 (by decide) (fun c7 => ?_) (fun c7 => ?_)
      · rw [if_neg c7] at h
        obtain rfl := Option.some.inj h
        refine tm_lcp [0, 2, 4] rfl ?_
        exact J _ rfl
      · rw [if_pos c7] at h
        refine tm_aload_n dX11_shared_34 rfl rfl ?_
        refine tm_get kX11 rfl (j := 14) (by decide) wfX11_44 dX11_shared_35 (v := tr 1214 0) rfl ?_
        refine tm_iload dX11_shared_38 rfl ?_
        obtain ⟨b8, h⟩ := chk_some h
        refine tm_iald rfl dX11_shared_40 (inb_vp b8) ?_
        refine tm_iload_n dX11_shared_41 rfl rfl ?_
        obtain ⟨⟨x10, x11⟩, hE12, h⟩ := obind_some h
        dsimp only at h
        have J13 : TW g iX11_shared rmX11_shared 0 0 r Mz 0 0 80 [(0, tr 11 0), (1, ti z1), (2, tl z2), (4, tl x10), (6, ti x11), (7, ti y7)] [] M := by
          obtain ⟨x15, ex15, h⟩ := bnd_some h
          refine tm_iinc (v := x15) (lc' := [(7, ti x15), (0, tr 11 0), (1, ti z1), (2, tl z2), (4, tl x10), (6, ti x11)]) dX11_shared_80 rfl (by rw [ex15]; rfl) (by decide) rfl ?_
          refine tm_goto (tgt := 20) dX11_shared_83 (by decide) ?_
          refine tm_lcp [0, 1, 2, 4, 6, 7] rfl ?_
          exact ih x10 x11 x15 _ h J
        refine tm_icmp_ne (tgt := 80) dX11_shared_42 (by decide) (fun c9 => ?_) (fun c9 => ?_)
        · rw [if_neg c9] at hE12
          obtain ⟨rfl, rfl⟩ := pj2 hE12
          refine tm_lcp [0, 1, 2, 4, 6, 7] rfl ?_
          exact J13
        · rw [if_pos c9] at hE12
          refine tm_aload_n dX11_shared_45 rfl rfl ?_
          refine tm_get kX11 rfl (j := 16) (by decide) wfX11_50 dX11_shared_46 (v := tr 1216 0) rfl ?_
          refine tm_iconst (v := 4) dX11_shared_49 (by decide) ?_
          refine tm_iload dX11_shared_50 rfl ?_
          refine tm_imul dX11_shared_52 ?_
          refine tm_aload_n dX11_shared_53 rfl rfl ?_
          refine tm_get kX11 rfl (j := 19) (by decide) wfX11_59 dX11_shared_54 (v := tr 1219 0) rfl ?_
          refine tm_iload_n dX11_shared_57 rfl rfl ?_
          obtain ⟨b10, hE12⟩ := chk_some hE12
          refine tm_iald rfl dX11_shared_58 (inb_vp b10) ?_
          refine tm_iadd dX11_shared_59 ?_
          obtain ⟨b11, hE12⟩ := chk_some hE12
          refine tm_iald rfl dX11_shared_60 (inb_vp b11) ?_
          refine tm_if_le (tgt := 80) dX11_shared_61 (by decide) (fun c12 => ?_) (fun c12 => ?_)
          · rw [if_pos c12] at hE12
            obtain ⟨rfl, rfl⟩ := pj2 hE12
            refine tm_lcp [0, 1, 2, 4, 6, 7] rfl ?_
            exact J13
          · rw [if_neg c12] at hE12
            refine tm_aload_n dX11_shared_64 rfl rfl ?_
            refine tm_get kX11 rfl (j := 22) (by decide) wfX11_68 dX11_shared_65 (v := tr 1222 0) rfl ?_
            refine tm_sipush (v := 450) dX11_shared_68 (by decide) ?_
            refine tm_iload dX11_shared_71 rfl ?_
            refine tm_imul dX11_shared_73 ?_
            obtain ⟨b13, hE12⟩ := chk_some hE12
            refine tm_lald rfl dX11_shared_74 (inb_vp b13) ?_
            obtain ⟨x14, ex14, hE12⟩ := bnd_some hE12
            refine tm_nmL ex14 ?_
            refine tm_lstore (lc' := [(4, tl x14), (0, tr 11 0), (1, ti z1), (2, tl z2), (6, ti y6), (7, ti y7)]) dX11_shared_75 (by decide) rfl ?_
            refine tm_iconst (v := 1) dX11_shared_77 (by decide) ?_
            refine tm_istore (lc' := [(6, ti 1), (4, tl x14), (0, tr 11 0), (1, ti z1), (2, tl z2), (7, ti y7)]) dX11_shared_78 (by decide) rfl ?_
            obtain ⟨rfl, rfl⟩ := pj2 hE12
            refine tm_lcp [0, 1, 2, 4, 6, 7] rfl ?_
            exact J13
set_option maxHeartbeats 4000000 in
set_option maxRecDepth 100000 in
theorem okX11_shared {g : tG} {a1 : Int32} {M : tM} {v : Int64} {Mz : tM} (h : fX11_shared a1 M = some ((v, Mz))) : TMet g yX11_shared (Cond.code yX11_shared cX11_shared 8 (some .long) :: tgd) rmX11_shared [tr 11 0, ti a1] M (some (tl v)) Mz 0 0 := by
  have key : TW g iX11_shared rmX11_shared 0 0 (some (tl v)) Mz 0 0 0 [(0, tr 11 0), (1, ti a1)] [] M := by
    rw [fX11_shared] at h
    refine tm_aload_n dX11_shared_0 rfl rfl ?_
    refine tm_iconst (v := 4) dX11_shared_1 (by decide) ?_
    obtain ⟨M2, hc1, h⟩ := obind_some h
    refine tm_callV kX11 rfl (avs := [ti 4]) (st := []) (okX11_body hc1) wcX11_405.1 wcX11_405.2.1 wcX11_405.2.2.1 wcX11_405.2.2.2 ⟨rfl, rfl, Nat.le_of_ble_eq_true rfl, Nat.le_of_ble_eq_true rfl⟩ rfl (Nat.le_of_ble_eq_true rfl) ⟨Nat.zero_le _, Nat.zero_le _⟩ dX11_shared_2 ?_
    refine tm_aload_n dX11_shared_5 rfl rfl ?_
    refine tm_iload_n dX11_shared_6 rfl rfl ?_
    obtain ⟨⟨x3, M5⟩, hc4, h⟩ := obind_some h
    dsimp only at h
    refine tm_callV kX11 rfl (avs := [ti a1]) (st := []) (okX11_scaled hc4) wcX11_415.1 wcX11_415.2.1 wcX11_415.2.2.1 wcX11_415.2.2.2 ⟨rfl, rfl, Nat.le_of_ble_eq_true rfl, Nat.le_of_ble_eq_true rfl⟩ rfl (Nat.le_of_ble_eq_true rfl) ⟨Nat.zero_le _, Nat.zero_le _⟩ dX11_shared_7 ?_
    refine tm_lstore_n (lc' := [(2, tl x3), (0, tr 11 0), (1, ti a1)]) dX11_shared_10 rfl (by decide) rfl ?_
    refine tm_lconst (v := 0) dX11_shared_11 (by decide) ?_
    refine tm_lstore (lc' := [(4, tl 0), (2, tl x3), (0, tr 11 0), (1, ti a1)]) dX11_shared_12 (by decide) rfl ?_
    refine tm_iconst (v := 0) dX11_shared_14 (by decide) ?_
    refine tm_istore (lc' := [(6, ti 0), (4, tl 0), (2, tl x3), (0, tr 11 0), (1, ti a1)]) dX11_shared_15 (by decide) rfl ?_
    refine tm_iconst (v := 0) dX11_shared_17 (by decide) ?_
    refine tm_istore (lc' := [(7, ti 0), (6, ti 0), (4, tl 0), (2, tl x3), (0, tr 11 0), (1, ti a1)]) dX11_shared_18 (by decide) rfl ?_
    obtain ⟨w16, hE17, h⟩ := obind_some h
    refine tm_lcp [0, 1, 2, 4, 6, 7] rfl ?_
    refine okX11_shared_l20 a1 x3 M5 FU 0 0 0 _ hE17 (fun x18 e => ?_)
    subst e
    refine tm_lload dX11_shared_86 rfl ?_
    refine tm_lconst (v := 0) dX11_shared_88 (by decide) ?_
    refine tm_lcmp dX11_shared_89 ?_
    refine tm_if_ne (tgt := 100) dX11_shared_90 (by decide) (fun c19 => ?_) (fun c19 => ?_)
    · rw [if_neg c19] at h
      refine tm_lload_n dX11_shared_100 rfl rfl ?_
      refine tm_lload dX11_shared_101 rfl ?_
      obtain ⟨b20, h⟩ := chk_some h
      refine tm_ldiv dX11_shared_103 (nz8_ne b20) ?_
      obtain ⟨rfl, rfl⟩ := pj2 h
      exact tm_lret rfl dX11_shared_104
    · rw [if_pos c19] at h
      refine tm_aload_n dX11_shared_93 rfl rfl ?_
      refine tm_iconst (v := 4) dX11_shared_94 (by decide) ?_
      obtain ⟨M21, eM21, h⟩ := bnd_some h
      refine tm_put kX11 rfl (j := 76) (by decide) wfX11_418 rfl dX11_shared_95 (fun _ => ⟨rfl, rfl⟩) (tPut_I 4 rfl) ?_
      refine tm_nmM eM21 ?_
      refine tm_lconst (v := 0) dX11_shared_98 (by decide) ?_
      obtain ⟨rfl, rfl⟩ := pj2 h
      exact tm_lret rfl dX11_shared_99
  exact TMet.of (by decide) (Nat.le_of_ble_eq_true rfl) key
abbrev iX11_delayed : tY := (RX11, cX11_delayed, 7, some .long, "delayed")
abbrev rmX11_delayed : Room := { frames := 2, cells := 0, slots := 0, locals := 46 }
def fX11_delayed_l53 (z1 : Int32) (z2 : Int64) (z4 : Int64) : Nat → Int32 → tM → Option (tM)
  | 0, _, _ => none
  | n + 1, y6, M =>
    chk (inb z1 (mN M 1208 0)) <|
    if (mI M 1208 0 (z1.toNatClampNeg)) ≤ y6 then (
    some M
    ) else (
    chk (inb ((12 * z1) + y6) (mN M 1209 0)) <|
    chk (inb (((12 * z1) + y6) - 1) (mN M 1209 0)) <|
    bnd (sL M 1209 0 ((((12 * z1) + y6) - 1).toNatClampNeg) (mL M 1209 0 (((12 * z1) + y6).toNatClampNeg))) fun M16 =>
    bnd (y6 + 1) fun x17 =>
    fX11_delayed_l53 z1 z2 z4 n x17 M16
    )
def fX11_delayed (a1 : Int32) (M : tM) : Option (Int64 × tM) :=
  (fX11_body 6 M).bind fun M2 =>
  chk (inb a1 (mN M2 1208 0)) <|
  if 0 ≤ (mI M2 1208 0 (a1.toNatClampNeg)) then (
  (fX11_fixed a1 M2).bind fun (x5, M7) =>
  chk (inb a1 (mN M7 1208 0)) <|
  if (mI M7 1208 0 (a1.toNatClampNeg)) = 0 then (
  some ((x5, M7))
  ) else (
  chk (inb (12 * a1) (mN M7 1209 0)) <|
  bnd (mL M7 1209 0 ((12 * a1).toNatClampNeg)) fun x11 =>
  Option.bind (fX11_delayed_l53 a1 x5 x11 FU 1 M7) fun M20 =>
  chk (inb a1 (mN M20 1208 0)) <|
  chk (inb (((12 * a1) + (mI M20 1208 0 (a1.toNatClampNeg))) - 1) (mN M20 1209 0)) <|
  bnd (sL M20 1209 0 ((((12 * a1) + (mI M20 1208 0 (a1.toNatClampNeg))) - 1).toNatClampNeg) x5) fun M23 =>
  some ((x11, M23))
  )
  ) else (
  bnd (sI M2 11 0 76 1) fun M24 =>
  some ((0, M24))
  )
set_option maxHeartbeats 4000000 in
set_option maxRecDepth 100000 in
theorem okX11_delayed_l53 {g : tG} (z1 : Int32) (z2 : Int64) (z4 : Int64) {r : Option tV} {Mz : tM} : ∀ (n : Nat) (y6 : Int32) (M : tM) (w : tM), fX11_delayed_l53 z1 z2 z4 n y6 M = some w → (∀ (Mw : tM), Mw = w → TW g iX11_delayed rmX11_delayed 0 0 r Mz 0 0 96 [(0, tr 11 0), (1, ti z1), (2, tl z2), (4, tl z4)] [] Mw) → TW g iX11_delayed rmX11_delayed 0 0 r Mz 0 0 53 [(0, tr 11 0), (1, ti z1), (2, tl z2), (4, tl z4), (6, ti y6)] [] M := by
  intro n
  induction n with
  | zero => intro y6 M w h; cases h
  | succ n ih =>
    intro y6 M w h J
    rw [fX11_delayed_l53] at h
    refine tm_iload dX11_delayed_53 rfl ?_
    refine tm_aload_n dX11_delayed_55 rfl rfl ?_
    refine tm_get kX11 rfl (j := 8) (by decide) wfX11_29 dX11_delayed_56 (v := tr 1208 0) rfl ?_
    refine tm_iload_n dX11_delayed_59 rfl rfl ?_
    obtain ⟨b12, h⟩ := chk_some h
    refine tm_iald rfl dX11_delayed_60 (inb_vp b12) ?_
    refine tm_icmp_ge (tgt := 96) dX11_delayed_61 (by decide) (fun c13 => ?_) (fun c13 => ?_)
    · rw [if_pos c13] at h
      obtain rfl := Option.some.inj h
      refine tm_lcp [0, 1, 2, 4] rfl ?_
      exact J _ rfl
    · rw [if_neg c13] at h
      refine tm_aload_n dX11_delayed_64 rfl rfl ?_
      refine tm_get kX11 rfl (j := 9) (by decide) wfX11_32 dX11_delayed_65 (v := tr 1209 0) rfl ?_
      refine tm_bipush (v := 12) dX11_delayed_68 (by decide) ?_
      refine tm_iload_n dX11_delayed_70 rfl rfl ?_
      refine tm_imul dX11_delayed_71 ?_
      refine tm_iload dX11_delayed_72 rfl ?_
      refine tm_iadd dX11_delayed_74 ?_
      refine tm_iconst (v := 1) dX11_delayed_75 (by decide) ?_
      refine tm_isub dX11_delayed_76 ?_
      refine tm_aload_n dX11_delayed_77 rfl rfl ?_
      refine tm_get kX11 rfl (j := 9) (by decide) wfX11_32 dX11_delayed_78 (v := tr 1209 0) rfl ?_
      refine tm_bipush (v := 12) dX11_delayed_81 (by decide) ?_
      refine tm_iload_n dX11_delayed_83 rfl rfl ?_
      refine tm_imul dX11_delayed_84 ?_
      refine tm_iload dX11_delayed_85 rfl ?_
      refine tm_iadd dX11_delayed_87 ?_
      obtain ⟨b14, h⟩ := chk_some h
      refine tm_lald rfl dX11_delayed_88 (inb_vp b14) ?_
      obtain ⟨b15, h⟩ := chk_some h
      obtain ⟨M16, eM16, h⟩ := bnd_some h
      refine tm_last rfl dX11_delayed_89 (inb_vp b15) ?_
      refine tm_nmM eM16 ?_
      obtain ⟨x17, ex17, h⟩ := bnd_some h
      refine tm_iinc (v := x17) (lc' := [(6, ti x17), (0, tr 11 0), (1, ti z1), (2, tl z2), (4, tl z4)]) dX11_delayed_90 rfl (by rw [ex17]; rfl) (by decide) rfl ?_
      refine tm_goto (tgt := 53) dX11_delayed_93 (by decide) ?_
      refine tm_lcp [0, 1, 2, 4, 6] rfl ?_
      exact ih x17 M16 _ h J
set_option maxHeartbeats 4000000 in
set_option maxRecDepth 100000 in
theorem okX11_delayed {g : tG} {a1 : Int32} {M : tM} {v : Int64} {Mz : tM} (h : fX11_delayed a1 M = some ((v, Mz))) : TMet g yX11_delayed (Cond.code yX11_delayed cX11_delayed 7 (some .long) :: tgd) rmX11_delayed [tr 11 0, ti a1] M (some (tl v)) Mz 0 0 := by
  have key : TW g iX11_delayed rmX11_delayed 0 0 (some (tl v)) Mz 0 0 0 [(0, tr 11 0), (1, ti a1)] [] M := by
    rw [fX11_delayed] at h
    refine tm_aload_n dX11_delayed_0 rfl rfl ?_
    refine tm_bipush (v := 6) dX11_delayed_1 (by decide) ?_
    obtain ⟨M2, hc1, h⟩ := obind_some h
    refine tm_callV kX11 rfl (avs := [ti 6]) (st := []) (okX11_body hc1) wcX11_405.1 wcX11_405.2.1 wcX11_405.2.2.1 wcX11_405.2.2.2 ⟨rfl, rfl, Nat.le_of_ble_eq_true rfl, Nat.le_of_ble_eq_true rfl⟩ rfl (Nat.le_of_ble_eq_true rfl) ⟨Nat.zero_le _, Nat.zero_le _⟩ dX11_delayed_3 ?_
    refine tm_aload_n dX11_delayed_6 rfl rfl ?_
    refine tm_get kX11 rfl (j := 8) (by decide) wfX11_29 dX11_delayed_7 (v := tr 1208 0) rfl ?_
    refine tm_iload_n dX11_delayed_10 rfl rfl ?_
    obtain ⟨b3, h⟩ := chk_some h
    refine tm_iald rfl dX11_delayed_11 (inb_vp b3) ?_
    refine tm_if_ge (tgt := 22) dX11_delayed_12 (by decide) (fun c4 => ?_) (fun c4 => ?_)
    · rw [if_pos c4] at h
      refine tm_aload_n dX11_delayed_22 rfl rfl ?_
      refine tm_iload_n dX11_delayed_23 rfl rfl ?_
      obtain ⟨⟨x5, M7⟩, hc6, h⟩ := obind_some h
      dsimp only at h
      refine tm_callV kX11 rfl (avs := [ti a1]) (st := []) (okX11_fixed hc6) wcX11_412.1 wcX11_412.2.1 wcX11_412.2.2.1 wcX11_412.2.2.2 ⟨rfl, rfl, Nat.le_of_ble_eq_true rfl, Nat.le_of_ble_eq_true rfl⟩ rfl (Nat.le_of_ble_eq_true rfl) ⟨Nat.zero_le _, Nat.zero_le _⟩ dX11_delayed_24 ?_
      refine tm_lstore_n (lc' := [(2, tl x5), (0, tr 11 0), (1, ti a1)]) dX11_delayed_27 rfl (by decide) rfl ?_
      refine tm_aload_n dX11_delayed_28 rfl rfl ?_
      refine tm_get kX11 rfl (j := 8) (by decide) wfX11_29 dX11_delayed_29 (v := tr 1208 0) rfl ?_
      refine tm_iload_n dX11_delayed_32 rfl rfl ?_
      obtain ⟨b8, h⟩ := chk_some h
      refine tm_iald rfl dX11_delayed_33 (inb_vp b8) ?_
      refine tm_if_ne (tgt := 39) dX11_delayed_34 (by decide) (fun c9 => ?_) (fun c9 => ?_)
      · rw [if_neg c9] at h
        refine tm_aload_n dX11_delayed_39 rfl rfl ?_
        refine tm_get kX11 rfl (j := 9) (by decide) wfX11_32 dX11_delayed_40 (v := tr 1209 0) rfl ?_
        refine tm_bipush (v := 12) dX11_delayed_43 (by decide) ?_
        refine tm_iload_n dX11_delayed_45 rfl rfl ?_
        refine tm_imul dX11_delayed_46 ?_
        obtain ⟨b10, h⟩ := chk_some h
        refine tm_lald rfl dX11_delayed_47 (inb_vp b10) ?_
        obtain ⟨x11, ex11, h⟩ := bnd_some h
        refine tm_nmL ex11 ?_
        refine tm_lstore (lc' := [(4, tl x11), (2, tl x5), (0, tr 11 0), (1, ti a1)]) dX11_delayed_48 (by decide) rfl ?_
        refine tm_iconst (v := 1) dX11_delayed_50 (by decide) ?_
        refine tm_istore (lc' := [(6, ti 1), (4, tl x11), (2, tl x5), (0, tr 11 0), (1, ti a1)]) dX11_delayed_51 (by decide) rfl ?_
        obtain ⟨w18, hE19, h⟩ := obind_some h
        refine tm_lcp [0, 1, 2, 4, 6] rfl ?_
        refine okX11_delayed_l53 a1 x5 x11 FU 1 M7 _ hE19 (fun M20 e => ?_)
        subst e
        refine tm_aload_n dX11_delayed_96 rfl rfl ?_
        refine tm_get kX11 rfl (j := 9) (by decide) wfX11_32 dX11_delayed_97 (v := tr 1209 0) rfl ?_
        refine tm_bipush (v := 12) dX11_delayed_100 (by decide) ?_
        refine tm_iload_n dX11_delayed_102 rfl rfl ?_
        refine tm_imul dX11_delayed_103 ?_
        refine tm_aload_n dX11_delayed_104 rfl rfl ?_
        refine tm_get kX11 rfl (j := 8) (by decide) wfX11_29 dX11_delayed_105 (v := tr 1208 0) rfl ?_
        refine tm_iload_n dX11_delayed_108 rfl rfl ?_
        obtain ⟨b21, h⟩ := chk_some h
        refine tm_iald rfl dX11_delayed_109 (inb_vp b21) ?_
        refine tm_iadd dX11_delayed_110 ?_
        refine tm_iconst (v := 1) dX11_delayed_111 (by decide) ?_
        refine tm_isub dX11_delayed_112 ?_
        refine tm_lload_n dX11_delayed_113 rfl rfl ?_
        obtain ⟨b22, h⟩ := chk_some h
        obtain ⟨M23, eM23, h⟩ := bnd_some h
        refine tm_last rfl dX11_delayed_114 (inb_vp b22) ?_
        refine tm_nmM eM23 ?_
        refine tm_lload dX11_delayed_115 rfl ?_
        obtain ⟨rfl, rfl⟩ := pj2 h
        exact tm_lret rfl dX11_delayed_117
      · rw [if_pos c9] at h
        refine tm_lload_n dX11_delayed_37 rfl rfl ?_
        obtain ⟨rfl, rfl⟩ := pj2 h
        exact tm_lret rfl dX11_delayed_38
    · rw [if_neg c4] at h
      refine tm_aload_n dX11_delayed_15 rfl rfl ?_
      refine tm_iconst (v := 1) dX11_delayed_16 (by decide) ?_
      obtain ⟨M24, eM24, h⟩ := bnd_some h
      refine tm_put kX11 rfl (j := 76) (by decide) wfX11_418 rfl dX11_delayed_17 (fun _ => ⟨rfl, rfl⟩) (tPut_I 1 rfl) ?_
      refine tm_nmM eM24 ?_
      refine tm_lconst (v := 0) dX11_delayed_20 (by decide) ?_
      obtain ⟨rfl, rfl⟩ := pj2 h
      exact tm_lret rfl dX11_delayed_21
  exact TMet.of (by decide) (Nat.le_of_ble_eq_true rfl) key
