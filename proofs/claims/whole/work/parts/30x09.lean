abbrev iX8_adopt : tY := (RX8, cX8_adopt, 5, some .int, "adopt")
abbrev rmX8_adopt : Room := { frames := 3, cells := 0, slots := 0, locals := 64 }
def fX8_adopt_l9 (kz1 : Nat) (z1 : Nat) (z2 : Int32) : Nat → Int32 → tM → Option (tM)
  | 0, _, _ => none
  | n + 1, y3, M =>
    if z2 ≤ y3 then (
    some M
    ) else (
    chk (decide (tO kz1 = none)) <|
    chk (!tRO kz1) <|
    if (nI (mN M kz1 z1)) ≤ y3 then (
    some M
    ) else (
    if (nI (mN M 902 0)) ≤ y3 then (
    some M
    ) else (
    chk (tIsI kz1) <|
    chk (inb y3 (mN M kz1 z1)) <|
    chk (inb y3 (mN M 902 0)) <|
    bnd (sI M 902 0 (y3.toNatClampNeg) (mI M kz1 z1 (y3.toNatClampNeg))) fun M11 =>
    chk (tIsI kz1) <|
    chk (inb y3 (mN M11 kz1 z1)) <|
    (fX1_partAt (mI M11 kz1 z1 (y3.toNatClampNeg)) M11).bind fun r14 =>
    Option.bind (α := tM) (
    if r14 = none then (
    some M11
    ) else (
    (fX5_step r14 M11).bind fun M18 =>
    some M18
    )
    ) fun M17 =>
    bnd (y3 + 1) fun x20 =>
    fX8_adopt_l9 kz1 z1 z2 n x20 M17
    )
    )
    )
def fX8_adopt (k1 : Nat) (a1 : Nat) (a2 : Int32) (M : tM) : Option (Int32 × tM) :=
  (fX5_begin M).bind fun M2 =>
  Option.bind (fX8_adopt_l9 k1 a1 a2 FU 0 M2) fun M23 =>
  (fX8_settle a2 M23).bind fun (x24, M26) =>
  some ((x24, M26))
set_option maxHeartbeats 4000000 in
set_option maxRecDepth 100000 in
theorem okX8_adopt_l9 {g : tG} (kz1 : Nat) (z1 : Nat) (z2 : Int32) {r : Option tV} {Mz : tM} : ∀ (n : Nat) (y3 : Int32) (M : tM) (w : tM), fX8_adopt_l9 kz1 z1 z2 n y3 M = some w → (∀ (Mw : tM), Mw = w → TW g iX8_adopt rmX8_adopt 0 0 r Mz 0 0 70 [(0, tr 8 0), (2, ti z2)] [] Mw) → TW g iX8_adopt rmX8_adopt 0 0 r Mz 0 0 9 [(0, tr 8 0), (1, tr kz1 z1), (2, ti z2), (3, ti y3)] [] M := by
  intro n
  induction n with
  | zero => intro y3 M w h; cases h
  | succ n ih =>
    intro y3 M w h J
    rw [fX8_adopt_l9] at h
    refine tm_iload_n dX8_adopt_9 rfl rfl ?_
    refine tm_iload_n dX8_adopt_10 rfl rfl ?_
    refine tm_icmp_ge (tgt := 70) dX8_adopt_11 (by decide) (fun c3 => ?_) (fun c3 => ?_)
    · rw [if_pos c3] at h
      obtain rfl := Option.some.inj h
      refine tm_lcp [0, 2] rfl ?_
      exact J _ rfl
    · rw [if_neg c3] at h
      refine tm_iload_n dX8_adopt_14 rfl rfl ?_
      refine tm_aload_n dX8_adopt_15 rfl rfl ?_
      replace h := chk_some h
      obtain ⟨b4, h⟩ := h
      replace h := chk_some h
      obtain ⟨b5, h⟩ := h
      refine tm_alen ⟨(of_decide_eq_true b4), (by simpa using b5)⟩ dX8_adopt_16 ?_
      refine tm_icmp_ge (tgt := 70) dX8_adopt_17 (by decide) (fun c6 => ?_) (fun c6 => ?_)
      · rw [if_pos c6] at h
        obtain rfl := Option.some.inj h
        refine tm_lcp [0, 2] rfl ?_
        exact J _ rfl
      · rw [if_neg c6] at h
        refine tm_iload_n dX8_adopt_20 rfl rfl ?_
        refine tm_aload_n dX8_adopt_21 rfl rfl ?_
        refine tm_get kX8 rfl (j := 2) (by decide) wfX8_9 dX8_adopt_22 (v := tr 902 0) rfl ?_
        refine tm_alen ⟨rfl, rfl⟩ dX8_adopt_25 ?_
        refine tm_icmp_ge (tgt := 70) dX8_adopt_26 (by decide) (fun c7 => ?_) (fun c7 => ?_)
        · rw [if_pos c7] at h
          obtain rfl := Option.some.inj h
          refine tm_lcp [0, 2] rfl ?_
          exact J _ rfl
        · rw [if_neg c7] at h
          refine tm_aload_n dX8_adopt_29 rfl rfl ?_
          refine tm_get kX8 rfl (j := 2) (by decide) wfX8_9 dX8_adopt_30 (v := tr 902 0) rfl ?_
          refine tm_iload_n dX8_adopt_33 rfl rfl ?_
          refine tm_aload_n dX8_adopt_34 rfl rfl ?_
          refine tm_iload_n dX8_adopt_35 rfl rfl ?_
          replace h := chk_some h
          obtain ⟨b8, h⟩ := h
          replace h := chk_some h
          obtain ⟨b9, h⟩ := h
          refine tm_iald b8 dX8_adopt_36 (inb_vp b9) ?_
          replace h := chk_some h
          obtain ⟨b10, h⟩ := h
          replace h := bnd_some h
          obtain ⟨M11, eM11, h⟩ := h
          refine tm_iast rfl dX8_adopt_37 (inb_vp b10) ?_
          refine tm_nmM eM11 ?_
          refine tm_aload_n dX8_adopt_38 rfl rfl ?_
          refine tm_get kX8 rfl (j := 0) (by decide) wfX8_21 dX8_adopt_39 (v := tr 1 0) rfl ?_
          refine tm_aload_n dX8_adopt_42 rfl rfl ?_
          refine tm_iload_n dX8_adopt_43 rfl rfl ?_
          replace h := chk_some h
          obtain ⟨b12, h⟩ := h
          replace h := chk_some h
          obtain ⟨b13, h⟩ := h
          refine tm_iald b12 dX8_adopt_44 (inb_vp b13) ?_
          replace h := obind_some h
          obtain ⟨r14, hc15, h⟩ := h
          refine tm_callV kX1 rfl (avs := [ti (mI M11 kz1 z1 (y3.toNatClampNeg))]) (st := []) (okX1_partAt hc15) wcX8_66.1 wcX8_66.2.1 wcX8_66.2.2.1 wcX8_66.2.2.2 ⟨rfl, rfl, Nat.le_of_ble_eq_true rfl, Nat.le_of_ble_eq_true rfl⟩ rfl (Nat.le_of_ble_eq_true rfl) ⟨Nat.zero_le _, Nat.zero_le _⟩ dX8_adopt_45 ?_
          refine tm_astore (lc' := [(4, tq 7 r14), (0, tr 8 0), (1, tr kz1 z1), (2, ti z2), (3, ti y3)]) dX8_adopt_48 (by decide) rfl ?_
          refine tm_aload dX8_adopt_50 rfl ?_
          replace h := obind_some h
          obtain ⟨M17, hE18, h⟩ := h
          have J19 : TW g iX8_adopt rmX8_adopt 0 0 r Mz 0 0 64 [(0, tr 8 0), (1, tr kz1 z1), (2, ti z2), (3, ti y3)] [] M17 := by
            replace h := bnd_some h
            obtain ⟨x20, ex20, h⟩ := h
            refine tm_iinc (v := x20) (lc' := [(3, ti x20), (0, tr 8 0), (1, tr kz1 z1), (2, ti z2)]) dX8_adopt_64 rfl (by rw [ex20]; rfl) (by decide) rfl ?_
            refine tm_goto (tgt := 9) dX8_adopt_67 (by decide) ?_
            refine tm_lcp [0, 1, 2, 3] rfl ?_
            exact ih x20 M17 _ h J
          refine tm_ifnull (k2 := 7) (q := r14) (tgt := 64) dX8_adopt_52 (by decide) (fun c16 => ?_) (fun c16 => ?_)
          · rw [if_pos c16] at hE18
            obtain rfl := Option.some.inj hE18
            refine tm_lcp [0, 1, 2, 3] rfl ?_
            exact J19
          · rw [if_neg c16] at hE18
            refine tm_aload_n dX8_adopt_55 rfl rfl ?_
            refine tm_get kX8 rfl (j := 1) (by decide) wfX8_25 dX8_adopt_56 (v := tr 5 0) rfl ?_
            refine tm_aload dX8_adopt_59 rfl ?_
            replace hE18 := obind_some hE18
            obtain ⟨M18, hc17, hE18⟩ := hE18
            refine tm_callV kX5 rfl (avs := [tq 7 r14]) (st := []) (okX5_step hc17) wcX8_58.1 wcX8_58.2.1 wcX8_58.2.2.1 wcX8_58.2.2.2 ⟨rfl, rfl, Nat.le_of_ble_eq_true rfl, Nat.le_of_ble_eq_true rfl⟩ rfl (Nat.le_of_ble_eq_true rfl) ⟨Nat.zero_le _, Nat.zero_le _⟩ dX8_adopt_61 ?_
            obtain rfl := Option.some.inj hE18
            refine tm_lcp [0, 1, 2, 3] rfl ?_
            exact J19
set_option maxHeartbeats 4000000 in
set_option maxRecDepth 100000 in
theorem okX8_adopt {g : tG} {k1 : Nat} {a1 : Nat} {a2 : Int32} {M : tM} {v : Int32} {Mz : tM} (h : fX8_adopt k1 a1 a2 M = some ((v, Mz))) : TMet g yX8_adopt (Cond.code yX8_adopt cX8_adopt 5 (some .int) :: tgd) rmX8_adopt [tr 8 0, tr k1 a1, ti a2] M (some (ti v)) Mz 0 0 := by
  have key : TW g iX8_adopt rmX8_adopt 0 0 (some (ti v)) Mz 0 0 0 [(0, tr 8 0), (1, tr k1 a1), (2, ti a2)] [] M := by
    rw [fX8_adopt] at h
    refine tm_aload_n dX8_adopt_0 rfl rfl ?_
    refine tm_get kX8 rfl (j := 1) (by decide) wfX8_25 dX8_adopt_1 (v := tr 5 0) rfl ?_
    replace h := obind_some h
    obtain ⟨M2, hc1, h⟩ := h
    refine tm_callV kX5 rfl (avs := []) (st := []) (okX5_begin hc1) wcX8_39.1 wcX8_39.2.1 wcX8_39.2.2.1 wcX8_39.2.2.2 ⟨rfl, rfl, Nat.le_of_ble_eq_true rfl, Nat.le_of_ble_eq_true rfl⟩ rfl (Nat.le_of_ble_eq_true rfl) ⟨Nat.zero_le _, Nat.zero_le _⟩ dX8_adopt_4 ?_
    refine tm_iconst (v := 0) dX8_adopt_7 (by decide) ?_
    refine tm_istore_n (lc' := [(3, ti 0), (0, tr 8 0), (1, tr k1 a1), (2, ti a2)]) dX8_adopt_8 rfl (by decide) rfl ?_
    replace h := obind_some h
    obtain ⟨w21, hE22, h⟩ := h
    refine tm_lcp [0, 1, 2, 3] rfl ?_
    refine okX8_adopt_l9 k1 a1 a2 FU 0 M2 _ hE22 (fun M23 e => ?_)
    subst e
    refine tm_aload_n dX8_adopt_70 rfl rfl ?_
    refine tm_iload_n dX8_adopt_71 rfl rfl ?_
    replace h := obind_some h
    obtain ⟨⟨x24, M26⟩, hc25, h⟩ := h
    dsimp only at h
    refine tm_callV kX8 rfl (avs := [ti a2]) (st := []) (okX8_settle hc25) wcX8_62.1 wcX8_62.2.1 wcX8_62.2.2.1 wcX8_62.2.2.2 ⟨rfl, rfl, Nat.le_of_ble_eq_true rfl, Nat.le_of_ble_eq_true rfl⟩ rfl (Nat.le_of_ble_eq_true rfl) ⟨Nat.zero_le _, Nat.zero_le _⟩ dX8_adopt_72 ?_
    obtain ⟨rfl, rfl⟩ := pj2 h
    exact tm_iret rfl dX8_adopt_75
  exact TMet.of (by decide) (Nat.le_of_ble_eq_true rfl) key
theorem wcX8_104 : tCB RX8 104 yX4_takesIn cX4_takesIn 2 (some .int) 1 ∧ Cond.methodLink RX8 104 yX4_takesIn ∈ tgd ∧ Cond.instanceMethod yX4_takesIn ∈ tgd ∧ Cond.selects RX4 yX4_takesIn yX4_takesIn ∈ tgd := ⟨⟨(tgd_t 697 (by decide +kernel) (by decide +kernel)), (tgd_t 15 (by decide +kernel) (by decide +kernel)), by decide, by decide +kernel⟩, (tgd_t 987 (by decide +kernel) (by decide +kernel)), (tgd_t 695 (by decide +kernel) (by decide +kernel)), (tgd_t 696 (by decide +kernel) (by decide +kernel))⟩
theorem wcX8_107 : tCB RX8 107 yX7_phaseBehind cX7_phaseBehind 2 (some .int) 1 ∧ Cond.methodLink RX8 107 yX7_phaseBehind ∈ tgd ∧ Cond.instanceMethod yX7_phaseBehind ∈ tgd ∧ Cond.selects RX7 yX7_phaseBehind yX7_phaseBehind ∈ tgd := ⟨⟨(tgd_t 795 (by decide +kernel) (by decide +kernel)), (tgd_t 11 (by decide +kernel) (by decide +kernel)), by decide, by decide +kernel⟩, (tgd_t 988 (by decide +kernel) (by decide +kernel)), (tgd_t 793 (by decide +kernel) (by decide +kernel)), (tgd_t 794 (by decide +kernel) (by decide +kernel))⟩
theorem wcX8_113 : tCB RX8 113 yX4_givesIn cX4_givesIn 2 (some .int) 1 ∧ Cond.methodLink RX8 113 yX4_givesIn ∈ tgd ∧ Cond.instanceMethod yX4_givesIn ∈ tgd ∧ Cond.selects RX4 yX4_givesIn yX4_givesIn ∈ tgd := ⟨⟨(tgd_t 693 (by decide +kernel) (by decide +kernel)), (tgd_t 15 (by decide +kernel) (by decide +kernel)), by decide, by decide +kernel⟩, (tgd_t 989 (by decide +kernel) (by decide +kernel)), (tgd_t 691 (by decide +kernel) (by decide +kernel)), (tgd_t 692 (by decide +kernel) (by decide +kernel))⟩
theorem wfX8_95 : Cond.fieldLink RX8 95 "EvenFlow$Line" "firstCount" "I" ∈ tgd := (tgd_t 584 (by decide +kernel) (by decide +kernel))
theorem wfX8_100 : Cond.fieldLink RX8 100 "EvenFlow$Line" "to" "LEvenFlow$Part;" ∈ tgd := (tgd_t 568 (by decide +kernel) (by decide +kernel))
theorem wfX8_110 : Cond.fieldLink RX8 110 "EvenFlow$Line" "from" "LEvenFlow$Part;" ∈ tgd := (tgd_t 562 (by decide +kernel) (by decide +kernel))
abbrev iX8_onLineBehind : tY := (RX8, cX8_onLineBehind, 7, some .int, "onLineBehind")
abbrev rmX8_onLineBehind : Room := { frames := 1, cells := 0, slots := 0, locals := 21 }
def fX8_onLineBehind_l14 (z1 : Nat) (z2 : Int32) (M : tM) : Nat → Int32 → Int32 → Int32 → Int32 → Option (Int32)
  | 0, _, _, _, _ => none
  | n + 1, y3, y4, y5, y6 =>
    if z2 ≤ y6 then (
    some y3
    ) else (
    if (mI M 8 0 3) ≤ y6 then (
    some y3
    ) else (
    chk (inb y6 (mN M 902 0)) <|
    bnd (mR M 4 z1 2) fun r6 =>
    Option.bind r6 fun i7 =>
    Option.bind (α := Int32 × Int32) (
    if (mI M 902 0 (y6.toNatClampNeg)) = (mI M 7 i7 0) then (
    (fX4_takesIn z1 y5 M).bind fun x9 =>
    bnd (y3 - x9) fun x11 =>
    bnd (mR M 4 z1 2) fun r12 =>
    Option.bind r12 fun i13 =>
    (fX7_phaseBehind i13 y5 M).bind fun x14 =>
    some ((x11, x14))
    ) else (
    some ((y3, y5))
    )
    ) fun (x9, x10) =>
    chk (inb y6 (mN M 902 0)) <|
    bnd (mR M 4 z1 1) fun r17 =>
    Option.bind r17 fun i18 =>
    Option.bind (α := Int32 × Int32) (
    if (mI M 902 0 (y6.toNatClampNeg)) = (mI M 7 i18 0) then (
    (fX4_givesIn z1 y4 M).bind fun x20 =>
    bnd (x9 + x20) fun x22 =>
    bnd (mR M 4 z1 1) fun r23 =>
    Option.bind r23 fun i24 =>
    (fX7_phaseBehind i24 y4 M).bind fun x25 =>
    some ((x22, x25))
    ) else (
    some ((x9, y4))
    )
    ) fun (x20, x21) =>
    bnd (y6 + 1) fun x27 =>
    fX8_onLineBehind_l14 z1 z2 M n x20 x21 x10 x27
    )
    )
def fX8_onLineBehind (a1 : Option Nat) (a2 : Int32) (M : tM) : Option (Int32) :=
  Option.bind a1 fun i1 =>
  bnd (mI M 4 i1 6) fun x2 =>
  Option.bind (fX8_onLineBehind_l14 i1 a2 M FU x2 0 0 0) fun x30 =>
  some x30
set_option maxHeartbeats 4000000 in
set_option maxRecDepth 100000 in
theorem okX8_onLineBehind_l14 {g : tG} (z1 : Nat) (z2 : Int32) (M : tM) {r : Option tV} {Mz : tM} : ∀ (n : Nat) (y3 : Int32) (y4 : Int32) (y5 : Int32) (y6 : Int32) (w : Int32), fX8_onLineBehind_l14 z1 z2 M n y3 y4 y5 y6 = some w → (∀ (w3 : Int32), w3 = w → TW g iX8_onLineBehind rmX8_onLineBehind 0 0 r Mz 0 0 109 [(3, ti w3)] [] M) → TW g iX8_onLineBehind rmX8_onLineBehind 0 0 r Mz 0 0 14 [(0, tr 8 0), (1, tr 4 z1), (2, ti z2), (3, ti y3), (4, ti y4), (5, ti y5), (6, ti y6)] [] M := by
  intro n
  induction n with
  | zero => intro y3 y4 y5 y6 w h; cases h
  | succ n ih =>
    intro y3 y4 y5 y6 w h J
    rw [fX8_onLineBehind_l14] at h
    refine tm_iload dX8_onLineBehind_14 rfl ?_
    refine tm_iload_n dX8_onLineBehind_16 rfl rfl ?_
    refine tm_icmp_ge (tgt := 109) dX8_onLineBehind_17 (by decide) (fun c3 => ?_) (fun c3 => ?_)
    · rw [if_pos c3] at h
      obtain rfl := Option.some.inj h
      refine tm_lcp [3] rfl ?_
      exact J _ rfl
    · rw [if_neg c3] at h
      refine tm_iload dX8_onLineBehind_20 rfl ?_
      refine tm_aload_n dX8_onLineBehind_22 rfl rfl ?_
      refine tm_get kX8 rfl (j := 3) (by decide) wfX8_29 dX8_onLineBehind_23 (v := ti (mI M 8 0 3)) rfl ?_
      refine tm_icmp_ge (tgt := 109) dX8_onLineBehind_26 (by decide) (fun c4 => ?_) (fun c4 => ?_)
      · rw [if_pos c4] at h
        obtain rfl := Option.some.inj h
        refine tm_lcp [3] rfl ?_
        exact J _ rfl
      · rw [if_neg c4] at h
        refine tm_aload_n dX8_onLineBehind_29 rfl rfl ?_
        refine tm_get kX8 rfl (j := 2) (by decide) wfX8_9 dX8_onLineBehind_30 (v := tr 902 0) rfl ?_
        refine tm_iload dX8_onLineBehind_33 rfl ?_
        replace h := chk_some h
        obtain ⟨b5, h⟩ := h
        refine tm_iald rfl dX8_onLineBehind_35 (inb_vp b5) ?_
        refine tm_aload_n dX8_onLineBehind_36 rfl rfl ?_
        refine tm_get kX4 rfl (j := 2) (by decide) wfX8_100 dX8_onLineBehind_37 (v := tq 7 (mR M 4 z1 2)) rfl ?_
        replace h := bnd_some h
        obtain ⟨r6, er6, h⟩ := h
        refine tm_nmQ er6 ?_
        replace h := obind_some h
        obtain ⟨i7, ei7, h⟩ := h
        subst ei7
        refine tm_get kX7 rfl (j := 0) (by decide) wfX8_53 dX8_onLineBehind_40 (v := ti (mI M 7 i7 0)) rfl ?_
        replace h := obind_some h
        obtain ⟨⟨x9, x10⟩, hE11, h⟩ := h
        dsimp only at h
        have J12 : TW g iX8_onLineBehind rmX8_onLineBehind 0 0 r Mz 0 0 66 [(0, tr 8 0), (1, tr 4 z1), (2, ti z2), (3, ti x9), (4, ti y4), (5, ti x10), (6, ti y6)] [] M := by
          refine tm_aload_n dX8_onLineBehind_66 rfl rfl ?_
          refine tm_get kX8 rfl (j := 2) (by decide) wfX8_9 dX8_onLineBehind_67 (v := tr 902 0) rfl ?_
          refine tm_iload dX8_onLineBehind_70 rfl ?_
          replace h := chk_some h
          obtain ⟨b16, h⟩ := h
          refine tm_iald rfl dX8_onLineBehind_72 (inb_vp b16) ?_
          refine tm_aload_n dX8_onLineBehind_73 rfl rfl ?_
          refine tm_get kX4 rfl (j := 1) (by decide) wfX8_110 dX8_onLineBehind_74 (v := tq 7 (mR M 4 z1 1)) rfl ?_
          replace h := bnd_some h
          obtain ⟨r17, er17, h⟩ := h
          refine tm_nmQ er17 ?_
          replace h := obind_some h
          obtain ⟨i18, ei18, h⟩ := h
          subst ei18
          refine tm_get kX7 rfl (j := 0) (by decide) wfX8_53 dX8_onLineBehind_77 (v := ti (mI M 7 i18 0)) rfl ?_
          replace h := obind_some h
          obtain ⟨⟨x20, x21⟩, hE22, h⟩ := h
          dsimp only at h
          have J23 : TW g iX8_onLineBehind rmX8_onLineBehind 0 0 r Mz 0 0 103 [(0, tr 8 0), (1, tr 4 z1), (2, ti z2), (3, ti x20), (4, ti x21), (5, ti x10), (6, ti y6)] [] M := by
            replace h := bnd_some h
            obtain ⟨x27, ex27, h⟩ := h
            refine tm_iinc (v := x27) (lc' := [(6, ti x27), (0, tr 8 0), (1, tr 4 z1), (2, ti z2), (3, ti x20), (4, ti x21), (5, ti x10)]) dX8_onLineBehind_103 rfl (by rw [ex27]; rfl) (by decide) rfl ?_
            refine tm_goto (tgt := 14) dX8_onLineBehind_106 (by decide) ?_
            refine tm_lcp [0, 1, 2, 3, 4, 5, 6] rfl ?_
            exact ih x20 x21 x10 x27 _ h J
          refine tm_icmp_ne (tgt := 103) dX8_onLineBehind_80 (by decide) (fun c19 => ?_) (fun c19 => ?_)
          · rw [if_neg c19] at hE22
            obtain ⟨rfl, rfl⟩ := pj2 hE22
            refine tm_lcp [0, 1, 2, 3, 4, 5, 6] rfl ?_
            exact J23
          · rw [if_pos c19] at hE22
            refine tm_iload_n dX8_onLineBehind_83 rfl rfl ?_
            refine tm_aload_n dX8_onLineBehind_84 rfl rfl ?_
            refine tm_iload dX8_onLineBehind_85 rfl ?_
            replace hE22 := obind_some hE22
            obtain ⟨x20, hc21, hE22⟩ := hE22
            refine tm_callV kX4 rfl (avs := [ti y4]) (st := [ti x9]) (okX4_givesIn hc21) wcX8_113.1 wcX8_113.2.1 wcX8_113.2.2.1 wcX8_113.2.2.2 ⟨rfl, rfl, Nat.le_of_ble_eq_true rfl, Nat.le_of_ble_eq_true rfl⟩ rfl (Nat.le_of_ble_eq_true rfl) ⟨Nat.zero_le _, Nat.zero_le _⟩ dX8_onLineBehind_87 ?_
            refine tm_iadd dX8_onLineBehind_90 ?_
            replace hE22 := bnd_some hE22
            obtain ⟨x22, ex22, hE22⟩ := hE22
            refine tm_nmI ex22 ?_
            refine tm_istore_n (lc' := [(3, ti x22), (0, tr 8 0), (1, tr 4 z1), (2, ti z2), (4, ti y4), (5, ti x10), (6, ti y6)]) dX8_onLineBehind_91 rfl (by decide) rfl ?_
            refine tm_aload_n dX8_onLineBehind_92 rfl rfl ?_
            refine tm_get kX4 rfl (j := 1) (by decide) wfX8_110 dX8_onLineBehind_93 (v := tq 7 (mR M 4 z1 1)) rfl ?_
            replace hE22 := bnd_some hE22
            obtain ⟨r23, er23, hE22⟩ := hE22
            refine tm_nmQ er23 ?_
            refine tm_iload dX8_onLineBehind_96 rfl ?_
            replace hE22 := obind_some hE22
            obtain ⟨i24, ei24, hE22⟩ := hE22
            subst ei24
            replace hE22 := obind_some hE22
            obtain ⟨x25, hc26, hE22⟩ := hE22
            refine tm_callV kX7 rfl (avs := [ti y4]) (st := []) (okX7_phaseBehind hc26) wcX8_107.1 wcX8_107.2.1 wcX8_107.2.2.1 wcX8_107.2.2.2 ⟨rfl, rfl, Nat.le_of_ble_eq_true rfl, Nat.le_of_ble_eq_true rfl⟩ rfl (Nat.le_of_ble_eq_true rfl) ⟨Nat.zero_le _, Nat.zero_le _⟩ dX8_onLineBehind_98 ?_
            refine tm_istore (lc' := [(4, ti x25), (3, ti x22), (0, tr 8 0), (1, tr 4 z1), (2, ti z2), (5, ti x10), (6, ti y6)]) dX8_onLineBehind_101 (by decide) rfl ?_
            obtain ⟨rfl, rfl⟩ := pj2 hE22
            refine tm_lcp [0, 1, 2, 3, 4, 5, 6] rfl ?_
            exact J23
        refine tm_icmp_ne (tgt := 66) dX8_onLineBehind_43 (by decide) (fun c8 => ?_) (fun c8 => ?_)
        · rw [if_neg c8] at hE11
          obtain ⟨rfl, rfl⟩ := pj2 hE11
          refine tm_lcp [0, 1, 2, 3, 4, 5, 6] rfl ?_
          exact J12
        · rw [if_pos c8] at hE11
          refine tm_iload_n dX8_onLineBehind_46 rfl rfl ?_
          refine tm_aload_n dX8_onLineBehind_47 rfl rfl ?_
          refine tm_iload dX8_onLineBehind_48 rfl ?_
          replace hE11 := obind_some hE11
          obtain ⟨x9, hc10, hE11⟩ := hE11
          refine tm_callV kX4 rfl (avs := [ti y5]) (st := [ti y3]) (okX4_takesIn hc10) wcX8_104.1 wcX8_104.2.1 wcX8_104.2.2.1 wcX8_104.2.2.2 ⟨rfl, rfl, Nat.le_of_ble_eq_true rfl, Nat.le_of_ble_eq_true rfl⟩ rfl (Nat.le_of_ble_eq_true rfl) ⟨Nat.zero_le _, Nat.zero_le _⟩ dX8_onLineBehind_50 ?_
          refine tm_isub dX8_onLineBehind_53 ?_
          replace hE11 := bnd_some hE11
          obtain ⟨x11, ex11, hE11⟩ := hE11
          refine tm_nmI ex11 ?_
          refine tm_istore_n (lc' := [(3, ti x11), (0, tr 8 0), (1, tr 4 z1), (2, ti z2), (4, ti y4), (5, ti y5), (6, ti y6)]) dX8_onLineBehind_54 rfl (by decide) rfl ?_
          refine tm_aload_n dX8_onLineBehind_55 rfl rfl ?_
          refine tm_get kX4 rfl (j := 2) (by decide) wfX8_100 dX8_onLineBehind_56 (v := tq 7 (mR M 4 z1 2)) rfl ?_
          replace hE11 := bnd_some hE11
          obtain ⟨r12, er12, hE11⟩ := hE11
          refine tm_nmQ er12 ?_
          refine tm_iload dX8_onLineBehind_59 rfl ?_
          replace hE11 := obind_some hE11
          obtain ⟨i13, ei13, hE11⟩ := hE11
          subst ei13
          replace hE11 := obind_some hE11
          obtain ⟨x14, hc15, hE11⟩ := hE11
          refine tm_callV kX7 rfl (avs := [ti y5]) (st := []) (okX7_phaseBehind hc15) wcX8_107.1 wcX8_107.2.1 wcX8_107.2.2.1 wcX8_107.2.2.2 ⟨rfl, rfl, Nat.le_of_ble_eq_true rfl, Nat.le_of_ble_eq_true rfl⟩ rfl (Nat.le_of_ble_eq_true rfl) ⟨Nat.zero_le _, Nat.zero_le _⟩ dX8_onLineBehind_61 ?_
          refine tm_istore (lc' := [(5, ti x14), (3, ti x11), (0, tr 8 0), (1, tr 4 z1), (2, ti z2), (4, ti y4), (6, ti y6)]) dX8_onLineBehind_64 (by decide) rfl ?_
          obtain ⟨rfl, rfl⟩ := pj2 hE11
          refine tm_lcp [0, 1, 2, 3, 4, 5, 6] rfl ?_
          exact J12
set_option maxHeartbeats 4000000 in
set_option maxRecDepth 100000 in
theorem okX8_onLineBehind {g : tG} {a1 : Option Nat} {a2 : Int32} {M : tM} {v : Int32} (h : fX8_onLineBehind a1 a2 M = some v) : TMet g yX8_onLineBehind (Cond.code yX8_onLineBehind cX8_onLineBehind 7 (some .int) :: tgd) rmX8_onLineBehind [tr 8 0, tq 4 a1, ti a2] M (some (ti v)) M 0 0 := by
  have key : TW g iX8_onLineBehind rmX8_onLineBehind 0 0 (some (ti v)) M 0 0 0 [(0, tr 8 0), (1, tq 4 a1), (2, ti a2)] [] M := by
    rw [fX8_onLineBehind] at h
    refine tm_aload_n dX8_onLineBehind_0 rfl rfl ?_
    replace h := obind_some h
    obtain ⟨i1, ei1, h⟩ := h
    subst ei1
    refine tm_get kX4 rfl (j := 6) (by decide) wfX8_95 dX8_onLineBehind_1 (v := ti (mI M 4 i1 6)) rfl ?_
    replace h := bnd_some h
    obtain ⟨x2, ex2, h⟩ := h
    refine tm_nmI ex2 ?_
    refine tm_istore_n (lc' := [(3, ti x2), (0, tr 8 0), (1, tr 4 i1), (2, ti a2)]) dX8_onLineBehind_4 rfl (by decide) rfl ?_
    refine tm_iconst (v := 0) dX8_onLineBehind_5 (by decide) ?_
    refine tm_istore (lc' := [(4, ti 0), (3, ti x2), (0, tr 8 0), (1, tr 4 i1), (2, ti a2)]) dX8_onLineBehind_6 (by decide) rfl ?_
    refine tm_iconst (v := 0) dX8_onLineBehind_8 (by decide) ?_
    refine tm_istore (lc' := [(5, ti 0), (4, ti 0), (3, ti x2), (0, tr 8 0), (1, tr 4 i1), (2, ti a2)]) dX8_onLineBehind_9 (by decide) rfl ?_
    refine tm_iconst (v := 0) dX8_onLineBehind_11 (by decide) ?_
    refine tm_istore (lc' := [(6, ti 0), (5, ti 0), (4, ti 0), (3, ti x2), (0, tr 8 0), (1, tr 4 i1), (2, ti a2)]) dX8_onLineBehind_12 (by decide) rfl ?_
    replace h := obind_some h
    obtain ⟨w28, hE29, h⟩ := h
    refine tm_lcp [0, 1, 2, 3, 4, 5, 6] rfl ?_
    refine okX8_onLineBehind_l14 i1 a2 M FU x2 0 0 0 _ hE29 (fun x30 e => ?_)
    subst e
    refine tm_iload_n dX8_onLineBehind_109 rfl rfl ?_
    obtain rfl := Option.some.inj h
    exact tm_iret rfl dX8_onLineBehind_110
  exact TMet.of (by decide) (Nat.le_of_ble_eq_true rfl) key
theorem wfX8_116 : Cond.fieldLink RX8 116 "EvenFlow$Part" "thread" "I" ∈ tgd := (tgd_t 424 (by decide +kernel) (by decide +kernel))
abbrev iX8_nextPlaceOf : tY := (RX8, cX8_nextPlaceOf, 5, some .int, "nextPlaceOf")
abbrev rmX8_nextPlaceOf : Room := { frames := 1, cells := 0, slots := 0, locals := 21 }
def fX8_nextPlaceOf_l2 (z1 : Int32) (M : tM) : Nat → Int32 → Option ((Int32) ⊕ (Unit))
  | 0, _ => none
  | n + 1, y2 =>
    if (mI M 8 0 3) ≤ y2 then (
    some (Sum.inr (()))
    ) else (
    chk (inb z1 (mN M 905 0)) <|
    chk (nz4 (mI M 8 0 3)) <|
    bnd (((mI M 905 0 (z1.toNatClampNeg)) + y2) - ((mI M 905 0 (z1.toNatClampNeg)) + y2) / (mI M 8 0 3) * (mI M 8 0 3)) fun x4 =>
    chk (inb x4 (mN M 902 0)) <|
    (fX1_partAt (mI M 902 0 (x4.toNatClampNeg)) M).bind fun r6 =>
    if r6 = none then (
    bnd (y2 + 1) fun x9 =>
    fX8_nextPlaceOf_l2 z1 M n x9
    ) else (
    Option.bind r6 fun i10 =>
    if (mI M 7 i10 5) = z1 then (
    some (Sum.inl x4)
    ) else (
    bnd (y2 + 1) fun x12 =>
    fX8_nextPlaceOf_l2 z1 M n x12
    )
    )
    )
def fX8_nextPlaceOf (a1 : Int32) (M : tM) : Option (Int32) :=
  Option.bind (fX8_nextPlaceOf_l2 a1 M FU 0) fun w13 => match w13 with
  | Sum.inl q16 => some q16
  | Sum.inr u15 =>
    some (-9)
set_option maxHeartbeats 4000000 in
set_option maxRecDepth 100000 in
theorem okX8_nextPlaceOf_l2 {g : tG} (z1 : Int32) (M : tM) {r : Option tV} {Mz : tM} : ∀ (n : Nat) (y2 : Int32) (w : (Int32) ⊕ (Unit)), fX8_nextPlaceOf_l2 z1 M n y2 = some w → (∀ (uw : Unit), Sum.inr uw = w → TW g iX8_nextPlaceOf rmX8_nextPlaceOf 0 0 r Mz 0 0 61 [] [] M) → (∀ (v : Int32), Sum.inl v = w → r = (some (ti v)) ∧ Mz = M) → TW g iX8_nextPlaceOf rmX8_nextPlaceOf 0 0 r Mz 0 0 2 [(0, tr 8 0), (1, ti z1), (2, ti y2)] [] M := by
  intro n
  induction n with
  | zero => intro y2 w h; cases h
  | succ n ih =>
    intro y2 w h J JR
    rw [fX8_nextPlaceOf_l2] at h
    refine tm_iload_n dX8_nextPlaceOf_2 rfl rfl ?_
    refine tm_aload_n dX8_nextPlaceOf_3 rfl rfl ?_
    refine tm_get kX8 rfl (j := 3) (by decide) wfX8_29 dX8_nextPlaceOf_4 (v := ti (mI M 8 0 3)) rfl ?_
    refine tm_icmp_ge (tgt := 61) dX8_nextPlaceOf_7 (by decide) (fun c1 => ?_) (fun c1 => ?_)
    · rw [if_pos c1] at h
      obtain rfl := Option.some.inj h
      refine tm_lcp [] rfl ?_
      exact J _ rfl
    · rw [if_neg c1] at h
      refine tm_aload_n dX8_nextPlaceOf_10 rfl rfl ?_
      refine tm_get kX8 rfl (j := 5) (by decide) wfX8_18 dX8_nextPlaceOf_11 (v := tr 905 0) rfl ?_
      refine tm_iload_n dX8_nextPlaceOf_14 rfl rfl ?_
      replace h := chk_some h
      obtain ⟨b2, h⟩ := h
      refine tm_iald rfl dX8_nextPlaceOf_15 (inb_vp b2) ?_
      refine tm_iload_n dX8_nextPlaceOf_16 rfl rfl ?_
      refine tm_iadd dX8_nextPlaceOf_17 ?_
      refine tm_aload_n dX8_nextPlaceOf_18 rfl rfl ?_
      refine tm_get kX8 rfl (j := 3) (by decide) wfX8_29 dX8_nextPlaceOf_19 (v := ti (mI M 8 0 3)) rfl ?_
      replace h := chk_some h
      obtain ⟨b3, h⟩ := h
      refine tm_irem dX8_nextPlaceOf_22 (nz4_ne b3) ?_
      replace h := bnd_some h
      obtain ⟨x4, ex4, h⟩ := h
      refine tm_nmI ex4 ?_
      refine tm_istore_n (lc' := [(3, ti x4), (0, tr 8 0), (1, ti z1), (2, ti y2)]) dX8_nextPlaceOf_23 rfl (by decide) rfl ?_
      refine tm_aload_n dX8_nextPlaceOf_24 rfl rfl ?_
      refine tm_get kX8 rfl (j := 0) (by decide) wfX8_21 dX8_nextPlaceOf_25 (v := tr 1 0) rfl ?_
      refine tm_aload_n dX8_nextPlaceOf_28 rfl rfl ?_
      refine tm_get kX8 rfl (j := 2) (by decide) wfX8_9 dX8_nextPlaceOf_29 (v := tr 902 0) rfl ?_
      refine tm_iload_n dX8_nextPlaceOf_32 rfl rfl ?_
      replace h := chk_some h
      obtain ⟨b5, h⟩ := h
      refine tm_iald rfl dX8_nextPlaceOf_33 (inb_vp b5) ?_
      replace h := obind_some h
      obtain ⟨r6, hc7, h⟩ := h
      refine tm_callV kX1 rfl (avs := [ti (mI M 902 0 (x4.toNatClampNeg))]) (st := []) (okX1_partAt hc7) wcX8_66.1 wcX8_66.2.1 wcX8_66.2.2.1 wcX8_66.2.2.2 ⟨rfl, rfl, Nat.le_of_ble_eq_true rfl, Nat.le_of_ble_eq_true rfl⟩ rfl (Nat.le_of_ble_eq_true rfl) ⟨Nat.zero_le _, Nat.zero_le _⟩ dX8_nextPlaceOf_34 ?_
      refine tm_astore (lc' := [(4, tq 7 r6), (3, ti x4), (0, tr 8 0), (1, ti z1), (2, ti y2)]) dX8_nextPlaceOf_37 (by decide) rfl ?_
      refine tm_aload dX8_nextPlaceOf_39 rfl ?_
      refine tm_ifnull (k2 := 7) (q := r6) (tgt := 55) dX8_nextPlaceOf_41 (by decide) (fun c8 => ?_) (fun c8 => ?_)
      · rw [if_pos c8] at h
        replace h := bnd_some h
        obtain ⟨x9, ex9, h⟩ := h
        refine tm_iinc (v := x9) (lc' := [(2, ti x9), (4, tq 7 r6), (3, ti x4), (0, tr 8 0), (1, ti z1)]) dX8_nextPlaceOf_55 rfl (by rw [ex9]; rfl) (by decide) rfl ?_
        refine tm_goto (tgt := 2) dX8_nextPlaceOf_58 (by decide) ?_
        refine tm_lcp [0, 1, 2] rfl ?_
        exact ih x9 _ h J JR
      · rw [if_neg c8] at h
        refine tm_aload dX8_nextPlaceOf_44 rfl ?_
        replace h := obind_some h
        obtain ⟨i10, ei10, h⟩ := h
        subst ei10
        refine tm_get kX7 rfl (j := 5) (by decide) wfX8_116 dX8_nextPlaceOf_46 (v := ti (mI M 7 i10 5)) rfl ?_
        refine tm_iload_n dX8_nextPlaceOf_49 rfl rfl ?_
        refine tm_icmp_ne (tgt := 55) dX8_nextPlaceOf_50 (by decide) (fun c11 => ?_) (fun c11 => ?_)
        · rw [if_neg c11] at h
          replace h := bnd_some h
          obtain ⟨x12, ex12, h⟩ := h
          refine tm_iinc (v := x12) (lc' := [(2, ti x12), (4, tr 7 i10), (3, ti x4), (0, tr 8 0), (1, ti z1)]) dX8_nextPlaceOf_55 rfl (by rw [ex12]; rfl) (by decide) rfl ?_
          refine tm_goto (tgt := 2) dX8_nextPlaceOf_58 (by decide) ?_
          refine tm_lcp [0, 1, 2] rfl ?_
          exact ih x12 _ h J JR
        · rw [if_pos c11] at h
          refine tm_iload_n dX8_nextPlaceOf_53 rfl rfl ?_
          obtain rfl := Option.some.inj h
          obtain ⟨rfl, rfl⟩ := JR _ rfl
          exact tm_iret rfl dX8_nextPlaceOf_54
set_option maxHeartbeats 4000000 in
set_option maxRecDepth 100000 in
theorem okX8_nextPlaceOf {g : tG} {a1 : Int32} {M : tM} {v : Int32} (h : fX8_nextPlaceOf a1 M = some v) : TMet g yX8_nextPlaceOf (Cond.code yX8_nextPlaceOf cX8_nextPlaceOf 5 (some .int) :: tgd) rmX8_nextPlaceOf [tr 8 0, ti a1] M (some (ti v)) M 0 0 := by
  have key : TW g iX8_nextPlaceOf rmX8_nextPlaceOf 0 0 (some (ti v)) M 0 0 0 [(0, tr 8 0), (1, ti a1)] [] M := by
    rw [fX8_nextPlaceOf] at h
    refine tm_iconst (v := 0) dX8_nextPlaceOf_0 (by decide) ?_
    refine tm_istore_n (lc' := [(2, ti 0), (0, tr 8 0), (1, ti a1)]) dX8_nextPlaceOf_1 rfl (by decide) rfl ?_
    replace h := obind_some h
    obtain ⟨w13, hE14, h⟩ := h
    refine tm_lcp [0, 1, 2] rfl ?_
    refine okX8_nextPlaceOf_l2 a1 M FU 0 _ hE14 (fun u15 e => ?_) (fun v17 e => ?_)
    · subst e
      dsimp only at h
      refine tm_bipush (v := (-9)) dX8_nextPlaceOf_61 (by decide) ?_
      obtain rfl := Option.some.inj h
      exact tm_iret rfl dX8_nextPlaceOf_63
    · subst e
      obtain rfl := Option.some.inj h
      exact ⟨rfl, rfl⟩
  exact TMet.of (by decide) (Nat.le_of_ble_eq_true rfl) key
theorem wcX9_32 : tCB RX9 32 yX7_toFirst cX7_toFirst 1 (none) 0 ∧ Cond.methodLink RX9 32 yX7_toFirst ∈ tgd ∧ Cond.instanceMethod yX7_toFirst ∈ tgd ∧ Cond.selects RX7 yX7_toFirst yX7_toFirst ∈ tgd := ⟨⟨(tgd_t 517 (by decide +kernel) (by decide +kernel)), (tgd_t 11 (by decide +kernel) (by decide +kernel)), by decide, by decide +kernel⟩, (tgd_t 514 (by decide +kernel) (by decide +kernel)), (tgd_t 515 (by decide +kernel) (by decide +kernel)), (tgd_t 516 (by decide +kernel) (by decide +kernel))⟩
theorem wcX9_44 : tCB RX9 44 yX4_toFirst cX4_toFirst 1 (none) 0 ∧ Cond.methodLink RX9 44 yX4_toFirst ∈ tgd ∧ Cond.instanceMethod yX4_toFirst ∈ tgd ∧ Cond.selects RX4 yX4_toFirst yX4_toFirst ∈ tgd := ⟨⟨(tgd_t 527 (by decide +kernel) (by decide +kernel)), (tgd_t 15 (by decide +kernel) (by decide +kernel)), by decide, by decide +kernel⟩, (tgd_t 524 (by decide +kernel) (by decide +kernel)), (tgd_t 525 (by decide +kernel) (by decide +kernel)), (tgd_t 526 (by decide +kernel) (by decide +kernel))⟩
theorem wfX9_15 : Cond.fieldLink RX9 15 "EvenFlow$Works" "graph" "LEvenFlow$Graph;" ∈ tgd := (tgd_t 318 (by decide +kernel) (by decide +kernel))
theorem wfX9_19 : Cond.fieldLink RX9 19 "EvenFlow$Works" "done" "I" ∈ tgd := (tgd_t 319 (by decide +kernel) (by decide +kernel))
theorem wfX9_23 : Cond.fieldLink RX9 23 "EvenFlow$Graph" "partCount" "I" ∈ tgd := (tgd_t 49 (by decide +kernel) (by decide +kernel))
theorem wfX9_28 : Cond.fieldLink RX9 28 "EvenFlow$Graph" "parts" "[LEvenFlow$Part;" ∈ tgd := (tgd_t 35 (by decide +kernel) (by decide +kernel))
theorem wfX9_37 : Cond.fieldLink RX9 37 "EvenFlow$Graph" "lineCount" "I" ∈ tgd := (tgd_t 56 (by decide +kernel) (by decide +kernel))
theorem wfX9_40 : Cond.fieldLink RX9 40 "EvenFlow$Graph" "lines" "[LEvenFlow$Line;" ∈ tgd := (tgd_t 43 (by decide +kernel) (by decide +kernel))
abbrev iX9_toFirst : tY := (RX9, cX9_toFirst, 2, none, "toFirst")
abbrev rmX9_toFirst : Room := { frames := 2, cells := 0, slots := 0, locals := 46 }
def fX9_toFirst_l7  : Nat → Int32 → tM → Option (tM)
  | 0, _, _ => none
  | n + 1, y1, M =>
    if (mI M 1 0 2) ≤ y1 then (
    some M
    ) else (
    chk (inb y1 (mN M 200 0)) <|
    bnd (mR M 200 0 (y1.toNatClampNeg)) fun r4 =>
    Option.bind r4 fun i5 =>
    (fX7_toFirst i5 M).bind fun M7 =>
    bnd (y1 + 1) fun x8 =>
    fX9_toFirst_l7 n x8 M7
    )
def fX9_toFirst_l38  : Nat → Int32 → tM → Option (tM)
  | 0, _, _ => none
  | n + 1, y1, M =>
    if (mI M 1 0 3) ≤ y1 then (
    some M
    ) else (
    chk (inb y1 (mN M 201 0)) <|
    bnd (mR M 201 0 (y1.toNatClampNeg)) fun r14 =>
    Option.bind r14 fun i15 =>
    (fX4_toFirst i15 M).bind fun M17 =>
    bnd (y1 + 1) fun x18 =>
    fX9_toFirst_l38 n x18 M17
    )
def fX9_toFirst  (M : tM) : Option (tM) :=
  bnd (sI M 9 0 1 0) fun M1 =>
  Option.bind (fX9_toFirst_l7 FU 0 M1) fun M11 =>
  Option.bind (fX9_toFirst_l38 FU 0 M11) fun M21 =>
  some M21
set_option maxHeartbeats 4000000 in
set_option maxRecDepth 100000 in
theorem okX9_toFirst_l7 {g : tG}  {r : Option tV} {Mz : tM} : ∀ (n : Nat) (y1 : Int32) (M : tM) (w : tM), fX9_toFirst_l7 n y1 M = some w → (∀ (Mw : tM), Mw = w → TW g iX9_toFirst rmX9_toFirst 0 0 r Mz 0 0 36 [(0, tr 9 0)] [] Mw) → TW g iX9_toFirst rmX9_toFirst 0 0 r Mz 0 0 7 [(0, tr 9 0), (1, ti y1)] [] M := by
  intro n
  induction n with
  | zero => intro y1 M w h; cases h
  | succ n ih =>
    intro y1 M w h J
    rw [fX9_toFirst_l7] at h
    refine tm_iload_n dX9_toFirst_7 rfl rfl ?_
    refine tm_aload_n dX9_toFirst_8 rfl rfl ?_
    refine tm_get kX9 rfl (j := 0) (by decide) wfX9_15 dX9_toFirst_9 (v := tr 1 0) rfl ?_
    refine tm_get kX1 rfl (j := 2) (by decide) wfX9_23 dX9_toFirst_12 (v := ti (mI M 1 0 2)) rfl ?_
    refine tm_icmp_ge (tgt := 36) dX9_toFirst_15 (by decide) (fun c2 => ?_) (fun c2 => ?_)
    · rw [if_pos c2] at h
      obtain rfl := Option.some.inj h
      refine tm_lcp [0] rfl ?_
      exact J _ rfl
    · rw [if_neg c2] at h
      refine tm_aload_n dX9_toFirst_18 rfl rfl ?_
      refine tm_get kX9 rfl (j := 0) (by decide) wfX9_15 dX9_toFirst_19 (v := tr 1 0) rfl ?_
      refine tm_get kX1 rfl (j := 0) (by decide) wfX9_28 dX9_toFirst_22 (v := tr 200 0) rfl ?_
      refine tm_iload_n dX9_toFirst_25 rfl rfl ?_
      replace h := chk_some h
      obtain ⟨b3, h⟩ := h
      refine tm_aald (k2 := 7) ⟨rfl, rfl, rfl, fun _ => rfl⟩ dX9_toFirst_26 (inb_vp b3) ?_
      replace h := bnd_some h
      obtain ⟨r4, er4, h⟩ := h
      refine tm_nmQ er4 ?_
      replace h := obind_some h
      obtain ⟨i5, ei5, h⟩ := h
      subst ei5
      replace h := obind_some h
      obtain ⟨M7, hc6, h⟩ := h
      refine tm_callV kX7 rfl (avs := []) (st := []) (okX7_toFirst hc6) wcX9_32.1 wcX9_32.2.1 wcX9_32.2.2.1 wcX9_32.2.2.2 ⟨rfl, rfl, Nat.le_of_ble_eq_true rfl, Nat.le_of_ble_eq_true rfl⟩ rfl (Nat.le_of_ble_eq_true rfl) ⟨Nat.zero_le _, Nat.zero_le _⟩ dX9_toFirst_27 ?_
      replace h := bnd_some h
      obtain ⟨x8, ex8, h⟩ := h
      refine tm_iinc (v := x8) (lc' := [(1, ti x8), (0, tr 9 0)]) dX9_toFirst_30 rfl (by rw [ex8]; rfl) (by decide) rfl ?_
      refine tm_goto (tgt := 7) dX9_toFirst_33 (by decide) ?_
      refine tm_lcp [0, 1] rfl ?_
      exact ih x8 M7 _ h J
set_option maxHeartbeats 4000000 in
set_option maxRecDepth 100000 in
theorem okX9_toFirst_l38 {g : tG}  {r : Option tV} {Mz : tM} : ∀ (n : Nat) (y1 : Int32) (M : tM) (w : tM), fX9_toFirst_l38 n y1 M = some w → (∀ (Mw : tM), Mw = w → TW g iX9_toFirst rmX9_toFirst 0 0 r Mz 0 0 67 [] [] Mw) → TW g iX9_toFirst rmX9_toFirst 0 0 r Mz 0 0 38 [(0, tr 9 0), (1, ti y1)] [] M := by
  intro n
  induction n with
  | zero => intro y1 M w h; cases h
  | succ n ih =>
    intro y1 M w h J
    rw [fX9_toFirst_l38] at h
    refine tm_iload_n dX9_toFirst_38 rfl rfl ?_
    refine tm_aload_n dX9_toFirst_39 rfl rfl ?_
    refine tm_get kX9 rfl (j := 0) (by decide) wfX9_15 dX9_toFirst_40 (v := tr 1 0) rfl ?_
    refine tm_get kX1 rfl (j := 3) (by decide) wfX9_37 dX9_toFirst_43 (v := ti (mI M 1 0 3)) rfl ?_
    refine tm_icmp_ge (tgt := 67) dX9_toFirst_46 (by decide) (fun c12 => ?_) (fun c12 => ?_)
    · rw [if_pos c12] at h
      obtain rfl := Option.some.inj h
      refine tm_lcp [] rfl ?_
      exact J _ rfl
    · rw [if_neg c12] at h
      refine tm_aload_n dX9_toFirst_49 rfl rfl ?_
      refine tm_get kX9 rfl (j := 0) (by decide) wfX9_15 dX9_toFirst_50 (v := tr 1 0) rfl ?_
      refine tm_get kX1 rfl (j := 1) (by decide) wfX9_40 dX9_toFirst_53 (v := tr 201 0) rfl ?_
      refine tm_iload_n dX9_toFirst_56 rfl rfl ?_
      replace h := chk_some h
      obtain ⟨b13, h⟩ := h
      refine tm_aald (k2 := 4) ⟨rfl, rfl, rfl, fun _ => rfl⟩ dX9_toFirst_57 (inb_vp b13) ?_
      replace h := bnd_some h
      obtain ⟨r14, er14, h⟩ := h
      refine tm_nmQ er14 ?_
      replace h := obind_some h
      obtain ⟨i15, ei15, h⟩ := h
      subst ei15
      replace h := obind_some h
      obtain ⟨M17, hc16, h⟩ := h
      refine tm_callV kX4 rfl (avs := []) (st := []) (okX4_toFirst hc16) wcX9_44.1 wcX9_44.2.1 wcX9_44.2.2.1 wcX9_44.2.2.2 ⟨rfl, rfl, Nat.le_of_ble_eq_true rfl, Nat.le_of_ble_eq_true rfl⟩ rfl (Nat.le_of_ble_eq_true rfl) ⟨Nat.zero_le _, Nat.zero_le _⟩ dX9_toFirst_58 ?_
      replace h := bnd_some h
      obtain ⟨x18, ex18, h⟩ := h
      refine tm_iinc (v := x18) (lc' := [(1, ti x18), (0, tr 9 0)]) dX9_toFirst_61 rfl (by rw [ex18]; rfl) (by decide) rfl ?_
      refine tm_goto (tgt := 38) dX9_toFirst_64 (by decide) ?_
      refine tm_lcp [0, 1] rfl ?_
      exact ih x18 M17 _ h J
set_option maxHeartbeats 4000000 in
set_option maxRecDepth 100000 in
theorem okX9_toFirst {g : tG}  {M : tM} {Mz : tM} (h : fX9_toFirst  M = some Mz) : TMet g yX9_toFirst (Cond.code yX9_toFirst cX9_toFirst 2 (none) :: tgd) rmX9_toFirst [tr 9 0] M none Mz 0 0 := by
  have key : TW g iX9_toFirst rmX9_toFirst 0 0 none Mz 0 0 0 [(0, tr 9 0)] [] M := by
    rw [fX9_toFirst] at h
    refine tm_aload_n dX9_toFirst_0 rfl rfl ?_
    refine tm_iconst (v := 0) dX9_toFirst_1 (by decide) ?_
    replace h := bnd_some h
    obtain ⟨M1, eM1, h⟩ := h
    refine tm_put kX9 rfl (j := 1) (by decide) wfX9_19 rfl dX9_toFirst_2 (fun _ => ⟨rfl, rfl⟩) (tPut_I 0 rfl) ?_
    refine tm_nmM eM1 ?_
    refine tm_iconst (v := 0) dX9_toFirst_5 (by decide) ?_
    refine tm_istore_n (lc' := [(1, ti 0), (0, tr 9 0)]) dX9_toFirst_6 rfl (by decide) rfl ?_
    replace h := obind_some h
    obtain ⟨w9, hE10, h⟩ := h
    refine tm_lcp [0, 1] rfl ?_
    refine okX9_toFirst_l7  FU 0 M1 _ hE10 (fun M11 e => ?_)
    subst e
    refine tm_iconst (v := 0) dX9_toFirst_36 (by decide) ?_
    refine tm_istore_n (lc' := [(1, ti 0), (0, tr 9 0)]) dX9_toFirst_37 rfl (by decide) rfl ?_
    replace h := obind_some h
    obtain ⟨w19, hE20, h⟩ := h
    refine tm_lcp [0, 1] rfl ?_
    refine okX9_toFirst_l38  FU 0 M11 _ hE20 (fun M21 e => ?_)
    subst e
    obtain rfl := Option.some.inj h
    exact tm_vret rfl dX9_toFirst_67
  exact TMet.of (by decide) (Nat.le_of_ble_eq_true rfl) key
theorem wfX9_11 : Cond.fieldLink RX9 11 "EvenFlow$Works" "traced" "[I" ∈ tgd := (tgd_t 326 (by decide +kernel) (by decide +kernel))
theorem wfX9_47 : Cond.fieldLink RX9 47 "EvenFlow$Works" "traceLength" "I" ∈ tgd := (tgd_t 327 (by decide +kernel) (by decide +kernel))
abbrev iX9_traceAt : tY := (RX9, cX9_traceAt, 2, some .int, "traceAt")
abbrev rmX9_traceAt : Room := { frames := 0, cells := 0, slots := 0, locals := 0 }
def fX9_traceAt (a1 : Int32) (M : tM) : Option (Int32) :=
  if a1 < 0 then (
  some (-9)
  ) else (
  if a1 < (mI M 9 0 6) then (
  chk (inb a1 (mN M 1005 0)) <|
  some (mI M 1005 0 (a1.toNatClampNeg))
  ) else (
  some (-9)
  )
  )
set_option maxHeartbeats 4000000 in
set_option maxRecDepth 100000 in
theorem okX9_traceAt {g : tG} {a1 : Int32} {M : tM} {v : Int32} (h : fX9_traceAt a1 M = some v) : TMet g yX9_traceAt (Cond.code yX9_traceAt cX9_traceAt 2 (some .int) :: tgd) rmX9_traceAt [tr 9 0, ti a1] M (some (ti v)) M 0 0 := by
  have key : TW g iX9_traceAt rmX9_traceAt 0 0 (some (ti v)) M 0 0 0 [(0, tr 9 0), (1, ti a1)] [] M := by
    rw [fX9_traceAt] at h
    refine tm_iload_n dX9_traceAt_0 rfl rfl ?_
    refine tm_if_lt (tgt := 12) dX9_traceAt_1 (by decide) (fun c1 => ?_) (fun c1 => ?_)
    · rw [if_pos c1] at h
      refine tm_bipush (v := (-9)) dX9_traceAt_12 (by decide) ?_
      refine tm_goto (tgt := 23) dX9_traceAt_14 (by decide) ?_
      obtain rfl := Option.some.inj h
      exact tm_iret rfl dX9_traceAt_23
    · rw [if_neg c1] at h
      refine tm_iload_n dX9_traceAt_4 rfl rfl ?_
      refine tm_aload_n dX9_traceAt_5 rfl rfl ?_
      refine tm_get kX9 rfl (j := 6) (by decide) wfX9_47 dX9_traceAt_6 (v := ti (mI M 9 0 6)) rfl ?_
      refine tm_icmp_lt (tgt := 17) dX9_traceAt_9 (by decide) (fun c2 => ?_) (fun c2 => ?_)
      · rw [if_pos c2] at h
        refine tm_aload_n dX9_traceAt_17 rfl rfl ?_
        refine tm_get kX9 rfl (j := 5) (by decide) wfX9_11 dX9_traceAt_18 (v := tr 1005 0) rfl ?_
        refine tm_iload_n dX9_traceAt_21 rfl rfl ?_
        replace h := chk_some h
        obtain ⟨b3, h⟩ := h
        refine tm_iald rfl dX9_traceAt_22 (inb_vp b3) ?_
        obtain rfl := Option.some.inj h
        exact tm_iret rfl dX9_traceAt_23
      · rw [if_neg c2] at h
        refine tm_bipush (v := (-9)) dX9_traceAt_12 (by decide) ?_
        refine tm_goto (tgt := 23) dX9_traceAt_14 (by decide) ?_
        obtain rfl := Option.some.inj h
        exact tm_iret rfl dX9_traceAt_23
  exact TMet.of (by decide) (Nat.le_of_ble_eq_true rfl) key
theorem wcX9_60 : tCB RX9 60 yX4_takesIn cX4_takesIn 2 (some .int) 1 ∧ Cond.methodLink RX9 60 yX4_takesIn ∈ tgd ∧ Cond.instanceMethod yX4_takesIn ∈ tgd ∧ Cond.selects RX4 yX4_takesIn yX4_takesIn ∈ tgd := ⟨⟨(tgd_t 697 (by decide +kernel) (by decide +kernel)), (tgd_t 15 (by decide +kernel) (by decide +kernel)), by decide, by decide +kernel⟩, (tgd_t 1068 (by decide +kernel) (by decide +kernel)), (tgd_t 695 (by decide +kernel) (by decide +kernel)), (tgd_t 696 (by decide +kernel) (by decide +kernel))⟩
theorem wfX9_50 : Cond.fieldLink RX9 50 "EvenFlow$Part" "firstIn" "LEvenFlow$Line;" ∈ tgd := (tgd_t 441 (by decide +kernel) (by decide +kernel))
theorem wfX9_54 : Cond.fieldLink RX9 54 "EvenFlow$Line" "size" "I" ∈ tgd := (tgd_t 588 (by decide +kernel) (by decide +kernel))
theorem wfX9_57 : Cond.fieldLink RX9 57 "EvenFlow$Part" "phase" "I" ∈ tgd := (tgd_t 431 (by decide +kernel) (by decide +kernel))
theorem wfX9_64 : Cond.fieldLink RX9 64 "EvenFlow$Line" "nextIn" "LEvenFlow$Line;" ∈ tgd := (tgd_t 596 (by decide +kernel) (by decide +kernel))
abbrev iX9_isReady : tY := (RX9, cX9_isReady, 3, some .boolean, "isReady")
abbrev rmX9_isReady : Room := { frames := 1, cells := 0, slots := 0, locals := 21 }
def fX9_isReady_l5 (z1 : Nat) (M : tM) : Nat → (Option Nat) → Option ((Int32) ⊕ (Unit))
  | 0, _ => none
  | n + 1, y2 =>
    if y2 = none then (
    some (Sum.inr (()))
    ) else (
    Option.bind y2 fun i4 =>
    (fX4_takesIn i4 (mI M 7 z1 7) M).bind fun x5 =>
    if x5 ≤ (mI M 4 i4 9) then (
    bnd (mR M 4 i4 12) fun r8 =>
    fX9_isReady_l5 z1 M n r8
    ) else (
    some (Sum.inl 0)
    )
    )
def fX9_isReady (a1 : Option Nat) (M : tM) : Option (Int32) :=
  Option.bind a1 fun i1 =>
  bnd (mR M 7 i1 11) fun r2 =>
  Option.bind (fX9_isReady_l5 i1 M FU r2) fun w9 => match w9 with
  | Sum.inl q12 => some q12
  | Sum.inr u11 =>
    some 1
set_option maxHeartbeats 4000000 in
set_option maxRecDepth 100000 in
theorem okX9_isReady_l5 {g : tG} (z1 : Nat) (M : tM) {r : Option tV} {Mz : tM} : ∀ (n : Nat) (y2 : Option Nat) (w : (Int32) ⊕ (Unit)), fX9_isReady_l5 z1 M n y2 = some w → (∀ (uw : Unit), Sum.inr uw = w → TW g iX9_isReady rmX9_isReady 0 0 r Mz 0 0 34 [] [] M) → (∀ (v : Int32), Sum.inl v = w → r = (some (ti v)) ∧ Mz = M) → TW g iX9_isReady rmX9_isReady 0 0 r Mz 0 0 5 [(1, tr 7 z1), (2, tq 4 y2)] [] M := by
  intro n
  induction n with
  | zero => intro y2 w h; cases h
  | succ n ih =>
    intro y2 w h J JR
    rw [fX9_isReady_l5] at h
    refine tm_aload_n dX9_isReady_5 rfl rfl ?_
    refine tm_ifnull (k2 := 4) (q := y2) (tgt := 34) dX9_isReady_6 (by decide) (fun c3 => ?_) (fun c3 => ?_)
    · rw [if_pos c3] at h
      obtain rfl := Option.some.inj h
      refine tm_lcp [] rfl ?_
      exact J _ rfl
    · rw [if_neg c3] at h
      refine tm_aload_n dX9_isReady_9 rfl rfl ?_
      replace h := obind_some h
      obtain ⟨i4, ei4, h⟩ := h
      subst ei4
      refine tm_get kX4 rfl (j := 9) (by decide) wfX9_54 dX9_isReady_10 (v := ti (mI M 4 i4 9)) rfl ?_
      refine tm_aload_n dX9_isReady_13 rfl rfl ?_
      refine tm_aload_n dX9_isReady_14 rfl rfl ?_
      refine tm_get kX7 rfl (j := 7) (by decide) wfX9_57 dX9_isReady_15 (v := ti (mI M 7 z1 7)) rfl ?_
      replace h := obind_some h
      obtain ⟨x5, hc6, h⟩ := h
      refine tm_callV kX4 rfl (avs := [ti (mI M 7 z1 7)]) (st := [ti (mI M 4 i4 9)]) (okX4_takesIn hc6) wcX9_60.1 wcX9_60.2.1 wcX9_60.2.2.1 wcX9_60.2.2.2 ⟨rfl, rfl, Nat.le_of_ble_eq_true rfl, Nat.le_of_ble_eq_true rfl⟩ rfl (Nat.le_of_ble_eq_true rfl) ⟨Nat.zero_le _, Nat.zero_le _⟩ dX9_isReady_18 ?_
      refine tm_icmp_ge (tgt := 26) dX9_isReady_21 (by decide) (fun c7 => ?_) (fun c7 => ?_)
      · rw [if_pos c7] at h
        refine tm_aload_n dX9_isReady_26 rfl rfl ?_
        refine tm_get kX4 rfl (j := 12) (by decide) wfX9_64 dX9_isReady_27 (v := tq 4 (mR M 4 i4 12)) rfl ?_
        replace h := bnd_some h
        obtain ⟨r8, er8, h⟩ := h
        refine tm_nmQ er8 ?_
        refine tm_astore_n (lc' := [(2, tq 4 r8), (1, tr 7 z1)]) dX9_isReady_30 rfl (by decide) rfl ?_
        refine tm_goto (tgt := 5) dX9_isReady_31 (by decide) ?_
        refine tm_lcp [1, 2] rfl ?_
        exact ih r8 _ h J JR
      · rw [if_neg c7] at h
        refine tm_iconst (v := 0) dX9_isReady_24 (by decide) ?_
        obtain rfl := Option.some.inj h
        obtain ⟨rfl, rfl⟩ := JR _ rfl
        exact tm_zret (by decide) rfl dX9_isReady_25
set_option maxHeartbeats 4000000 in
set_option maxRecDepth 100000 in
theorem okX9_isReady {g : tG} {a1 : Option Nat} {M : tM} {v : Int32} (h : fX9_isReady a1 M = some v) : TMet g yX9_isReady (Cond.code yX9_isReady cX9_isReady 3 (some .boolean) :: tgd) rmX9_isReady [tr 9 0, tq 7 a1] M (some (ti v)) M 0 0 := by
  have key : TW g iX9_isReady rmX9_isReady 0 0 (some (ti v)) M 0 0 0 [(0, tr 9 0), (1, tq 7 a1)] [] M := by
    rw [fX9_isReady] at h
    refine tm_aload_n dX9_isReady_0 rfl rfl ?_
    replace h := obind_some h
    obtain ⟨i1, ei1, h⟩ := h
    subst ei1
    refine tm_get kX7 rfl (j := 11) (by decide) wfX9_50 dX9_isReady_1 (v := tq 4 (mR M 7 i1 11)) rfl ?_
    replace h := bnd_some h
    obtain ⟨r2, er2, h⟩ := h
    refine tm_nmQ er2 ?_
    refine tm_astore_n (lc' := [(2, tq 4 r2), (0, tr 9 0), (1, tr 7 i1)]) dX9_isReady_4 rfl (by decide) rfl ?_
    replace h := obind_some h
    obtain ⟨w9, hE10, h⟩ := h
    refine tm_lcp [1, 2] rfl ?_
    refine okX9_isReady_l5 i1 M FU r2 _ hE10 (fun u11 e => ?_) (fun v13 e => ?_)
    · subst e
      dsimp only at h
      refine tm_iconst (v := 1) dX9_isReady_34 (by decide) ?_
      obtain rfl := Option.some.inj h
      exact tm_zret (by decide) rfl dX9_isReady_35
    · subst e
      obtain rfl := Option.some.inj h
      exact ⟨rfl, rfl⟩
  exact TMet.of (by decide) (Nat.le_of_ble_eq_true rfl) key
theorem wcX9_102 : tCB RX9 102 yX4_givesIn cX4_givesIn 2 (some .int) 1 ∧ Cond.methodLink RX9 102 yX4_givesIn ∈ tgd ∧ Cond.instanceMethod yX4_givesIn ∈ tgd ∧ Cond.selects RX4 yX4_givesIn yX4_givesIn ∈ tgd := ⟨⟨(tgd_t 693 (by decide +kernel) (by decide +kernel)), (tgd_t 15 (by decide +kernel) (by decide +kernel)), by decide, by decide +kernel⟩, (tgd_t 1082 (by decide +kernel) (by decide +kernel)), (tgd_t 691 (by decide +kernel) (by decide +kernel)), (tgd_t 692 (by decide +kernel) (by decide +kernel))⟩
theorem wfX9_95 : Cond.fieldLink RX9 95 "EvenFlow$Part" "firstOut" "LEvenFlow$Line;" ∈ tgd := (tgd_t 449 (by decide +kernel) (by decide +kernel))
theorem wfX9_98 : Cond.fieldLink RX9 98 "EvenFlow$Line" "to" "LEvenFlow$Part;" ∈ tgd := (tgd_t 566 (by decide +kernel) (by decide +kernel))
theorem wfX9_105 : Cond.fieldLink RX9 105 "EvenFlow$Line" "nextOut" "LEvenFlow$Line;" ∈ tgd := (tgd_t 603 (by decide +kernel) (by decide +kernel))
abbrev iX9_wouldOverflow : tY := (RX9, cX9_wouldOverflow, 4, some .boolean, "wouldOverflow")
abbrev rmX9_wouldOverflow : Room := { frames := 1, cells := 0, slots := 0, locals := 21 }
def fX9_wouldOverflow_l5 (z1 : Nat) (M : tM) : Nat → (Option Nat) → Option ((Int32) ⊕ (Unit))
  | 0, _ => none
  | n + 1, y2 =>
    if y2 = none then (
    some (Sum.inr (()))
    ) else (
    Option.bind y2 fun i4 =>
    bnd (mR M 4 i4 2) fun r5 =>
    Option.bind (α := Int32) (
    if r5 = some z1 then (
    (fX4_takesIn i4 (mI M 7 z1 7) M).bind fun x7 =>
    some x7
    ) else (
    some 0
    )
    ) fun x7 =>
    (fX4_givesIn i4 (mI M 7 z1 7) M).bind fun x10 =>
    if (((mI M 4 i4 9) - x7) + x10) ≤ 400 then (
    bnd (mR M 4 i4 13) fun r13 =>
    fX9_wouldOverflow_l5 z1 M n r13
    ) else (
    some (Sum.inl 1)
    )
    )
def fX9_wouldOverflow (a1 : Option Nat) (M : tM) : Option (Int32) :=
  Option.bind a1 fun i1 =>
  bnd (mR M 7 i1 13) fun r2 =>
  Option.bind (fX9_wouldOverflow_l5 i1 M FU r2) fun w14 => match w14 with
  | Sum.inl q17 => some q17
  | Sum.inr u16 =>
    some 0
set_option maxHeartbeats 4000000 in
set_option maxRecDepth 100000 in
theorem okX9_wouldOverflow_l5 {g : tG} (z1 : Nat) (M : tM) {r : Option tV} {Mz : tM} : ∀ (n : Nat) (y2 : Option Nat) (w : (Int32) ⊕ (Unit)), fX9_wouldOverflow_l5 z1 M n y2 = some w → (∀ (uw : Unit), Sum.inr uw = w → TW g iX9_wouldOverflow rmX9_wouldOverflow 0 0 r Mz 0 0 61 [] [] M) → (∀ (v : Int32), Sum.inl v = w → r = (some (ti v)) ∧ Mz = M) → TW g iX9_wouldOverflow rmX9_wouldOverflow 0 0 r Mz 0 0 5 [(1, tr 7 z1), (2, tq 4 y2)] [] M := by
  intro n
  induction n with
  | zero => intro y2 w h; cases h
  | succ n ih =>
    intro y2 w h J JR
    rw [fX9_wouldOverflow_l5] at h
    refine tm_aload_n dX9_wouldOverflow_5 rfl rfl ?_
    refine tm_ifnull (k2 := 4) (q := y2) (tgt := 61) dX9_wouldOverflow_6 (by decide) (fun c3 => ?_) (fun c3 => ?_)
    · rw [if_pos c3] at h
      obtain rfl := Option.some.inj h
      refine tm_lcp [] rfl ?_
      exact J _ rfl
    · rw [if_neg c3] at h
      refine tm_aload_n dX9_wouldOverflow_9 rfl rfl ?_
      replace h := obind_some h
      obtain ⟨i4, ei4, h⟩ := h
      subst ei4
      refine tm_get kX4 rfl (j := 2) (by decide) wfX9_98 dX9_wouldOverflow_10 (v := tq 7 (mR M 4 i4 2)) rfl ?_
      replace h := bnd_some h
      obtain ⟨r5, er5, h⟩ := h
      refine tm_nmQ er5 ?_
      refine tm_aload_n dX9_wouldOverflow_13 rfl rfl ?_
      replace h := obind_some h
      obtain ⟨x7, hE8, h⟩ := h
      have J9 : TW g iX9_wouldOverflow rmX9_wouldOverflow 0 0 r Mz 0 0 29 [(1, tr 7 z1), (2, tr 4 i4)] [ti x7] M := by
        refine tm_istore_n (lc' := [(3, ti x7), (1, tr 7 z1), (2, tr 4 i4)]) dX9_wouldOverflow_29 rfl (by decide) rfl ?_
        refine tm_aload_n dX9_wouldOverflow_30 rfl rfl ?_
        refine tm_get kX4 rfl (j := 9) (by decide) wfX9_54 dX9_wouldOverflow_31 (v := ti (mI M 4 i4 9)) rfl ?_
        refine tm_iload_n dX9_wouldOverflow_34 rfl rfl ?_
        refine tm_isub dX9_wouldOverflow_35 ?_
        refine tm_aload_n dX9_wouldOverflow_36 rfl rfl ?_
        refine tm_aload_n dX9_wouldOverflow_37 rfl rfl ?_
        refine tm_get kX7 rfl (j := 7) (by decide) wfX9_57 dX9_wouldOverflow_38 (v := ti (mI M 7 z1 7)) rfl ?_
        replace h := obind_some h
        obtain ⟨x10, hc11, h⟩ := h
        refine tm_callV kX4 rfl (avs := [ti (mI M 7 z1 7)]) (st := [ti ((mI M 4 i4 9) - x7)]) (okX4_givesIn hc11) wcX9_102.1 wcX9_102.2.1 wcX9_102.2.2.1 wcX9_102.2.2.2 ⟨rfl, rfl, Nat.le_of_ble_eq_true rfl, Nat.le_of_ble_eq_true rfl⟩ rfl (Nat.le_of_ble_eq_true rfl) ⟨Nat.zero_le _, Nat.zero_le _⟩ dX9_wouldOverflow_41 ?_
        refine tm_iadd dX9_wouldOverflow_44 ?_
        refine tm_sipush (v := 400) dX9_wouldOverflow_45 (by decide) ?_
        refine tm_icmp_le (tgt := 53) dX9_wouldOverflow_48 (by decide) (fun c12 => ?_) (fun c12 => ?_)
        · rw [if_pos c12] at h
          refine tm_aload_n dX9_wouldOverflow_53 rfl rfl ?_
          refine tm_get kX4 rfl (j := 13) (by decide) wfX9_105 dX9_wouldOverflow_54 (v := tq 4 (mR M 4 i4 13)) rfl ?_
          replace h := bnd_some h
          obtain ⟨r13, er13, h⟩ := h
          refine tm_nmQ er13 ?_
          refine tm_astore_n (lc' := [(2, tq 4 r13), (3, ti x7), (1, tr 7 z1)]) dX9_wouldOverflow_57 rfl (by decide) rfl ?_
          refine tm_goto (tgt := 5) dX9_wouldOverflow_58 (by decide) ?_
          refine tm_lcp [1, 2] rfl ?_
          exact ih r13 _ h J JR
        · rw [if_neg c12] at h
          refine tm_iconst (v := 1) dX9_wouldOverflow_51 (by decide) ?_
          obtain rfl := Option.some.inj h
          obtain ⟨rfl, rfl⟩ := JR _ rfl
          exact tm_zret (by decide) rfl dX9_wouldOverflow_52
      refine tm_acmp_ne (k2 := 7) (q1 := r5) (q2 := some z1) rfl (tgt := 28) dX9_wouldOverflow_14 (by decide) (fun c6 => ?_) (fun c6 => ?_)
      · rw [if_neg c6] at hE8
        refine tm_iconst (v := 0) dX9_wouldOverflow_28 (by decide) ?_
        obtain rfl := Option.some.inj hE8
        refine tm_lcp [1, 2] rfl ?_
        exact J9
      · rw [if_pos c6] at hE8
        refine tm_aload_n dX9_wouldOverflow_17 rfl rfl ?_
        refine tm_aload_n dX9_wouldOverflow_18 rfl rfl ?_
        refine tm_get kX7 rfl (j := 7) (by decide) wfX9_57 dX9_wouldOverflow_19 (v := ti (mI M 7 z1 7)) rfl ?_
        replace hE8 := obind_some hE8
        obtain ⟨x7, hc8, hE8⟩ := hE8
        refine tm_callV kX4 rfl (avs := [ti (mI M 7 z1 7)]) (st := []) (okX4_takesIn hc8) wcX9_60.1 wcX9_60.2.1 wcX9_60.2.2.1 wcX9_60.2.2.2 ⟨rfl, rfl, Nat.le_of_ble_eq_true rfl, Nat.le_of_ble_eq_true rfl⟩ rfl (Nat.le_of_ble_eq_true rfl) ⟨Nat.zero_le _, Nat.zero_le _⟩ dX9_wouldOverflow_22 ?_
        refine tm_goto (tgt := 29) dX9_wouldOverflow_25 (by decide) ?_
        obtain rfl := Option.some.inj hE8
        refine tm_lcp [1, 2] rfl ?_
        exact J9
set_option maxHeartbeats 4000000 in
set_option maxRecDepth 100000 in
theorem okX9_wouldOverflow {g : tG} {a1 : Option Nat} {M : tM} {v : Int32} (h : fX9_wouldOverflow a1 M = some v) : TMet g yX9_wouldOverflow (Cond.code yX9_wouldOverflow cX9_wouldOverflow 4 (some .boolean) :: tgd) rmX9_wouldOverflow [tr 9 0, tq 7 a1] M (some (ti v)) M 0 0 := by
  have key : TW g iX9_wouldOverflow rmX9_wouldOverflow 0 0 (some (ti v)) M 0 0 0 [(0, tr 9 0), (1, tq 7 a1)] [] M := by
    rw [fX9_wouldOverflow] at h
    refine tm_aload_n dX9_wouldOverflow_0 rfl rfl ?_
    replace h := obind_some h
    obtain ⟨i1, ei1, h⟩ := h
    subst ei1
    refine tm_get kX7 rfl (j := 13) (by decide) wfX9_95 dX9_wouldOverflow_1 (v := tq 4 (mR M 7 i1 13)) rfl ?_
    replace h := bnd_some h
    obtain ⟨r2, er2, h⟩ := h
    refine tm_nmQ er2 ?_
    refine tm_astore_n (lc' := [(2, tq 4 r2), (0, tr 9 0), (1, tr 7 i1)]) dX9_wouldOverflow_4 rfl (by decide) rfl ?_
    replace h := obind_some h
    obtain ⟨w14, hE15, h⟩ := h
    refine tm_lcp [1, 2] rfl ?_
    refine okX9_wouldOverflow_l5 i1 M FU r2 _ hE15 (fun u16 e => ?_) (fun v18 e => ?_)
    · subst e
      dsimp only at h
      refine tm_iconst (v := 0) dX9_wouldOverflow_61 (by decide) ?_
      obtain rfl := Option.some.inj h
      exact tm_zret (by decide) rfl dX9_wouldOverflow_62
    · subst e
      obtain rfl := Option.some.inj h
      exact ⟨rfl, rfl⟩
  exact TMet.of (by decide) (Nat.le_of_ble_eq_true rfl) key
