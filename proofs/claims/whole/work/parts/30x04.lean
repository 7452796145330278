theorem wcX5_76 : tCB RX5 76 yX4_takesIn cX4_takesIn 2 (some .int) 1 ∧ Cond.methodLink RX5 76 yX4_takesIn ∈ tgd ∧ Cond.instanceMethod yX4_takesIn ∈ tgd ∧ Cond.selects RX4 yX4_takesIn yX4_takesIn ∈ tgd := ⟨⟨(tgd_t 697 (by decide +kernel) (by decide +kernel)), (tgd_t 15 (by decide +kernel) (by decide +kernel)), by decide, by decide +kernel⟩, (tgd_t 786 (by decide +kernel) (by decide +kernel)), (tgd_t 695 (by decide +kernel) (by decide +kernel)), (tgd_t 696 (by decide +kernel) (by decide +kernel))⟩
theorem wfX5_68 : Cond.fieldLink RX5 68 "EvenFlow$Part" "number" "I" ∈ tgd := (tgd_t 401 (by decide +kernel) (by decide +kernel))
theorem wfX5_71 : Cond.fieldLink RX5 71 "EvenFlow$Part" "firstIn" "LEvenFlow$Line;" ∈ tgd := (tgd_t 440 (by decide +kernel) (by decide +kernel))
theorem wfX5_75 : Cond.fieldLink RX5 75 "EvenFlow$Line" "number" "I" ∈ tgd := (tgd_t 555 (by decide +kernel) (by decide +kernel))
theorem wfX5_80 : Cond.fieldLink RX5 80 "EvenFlow$Line" "nextIn" "LEvenFlow$Line;" ∈ tgd := (tgd_t 595 (by decide +kernel) (by decide +kernel))
abbrev iX5_canFire : tY := (RX5, cX5_canFire, 4, some .boolean, "canFire")
abbrev rmX5_canFire : Room := { frames := 1, cells := 0, slots := 0, locals := 21 }
def fX5_canFire_l29 (z2 : Int32) (M : tM) : Nat → (Option Nat) → Option ((Int32) ⊕ (Unit))
  | 0, _ => none
  | n + 1, y3 =>
    if y3 = none then (
    some (Sum.inr (()))
    ) else (
    Option.bind y3 fun i8 =>
    chk (inb (mI M 4 i8 0) (mN M 601 0)) <|
    (fX4_takesIn i8 z2 M).bind fun x10 =>
    if x10 ≤ (mI M 601 0 ((mI M 4 i8 0).toNatClampNeg)) then (
    bnd (mR M 4 i8 12) fun r13 =>
    fX5_canFire_l29 z2 M n r13
    ) else (
    some (Sum.inl 0)
    )
    )
def fX5_canFire (a1 : Option Nat) (M : tM) : Option (Int32) :=
  Option.bind a1 fun i1 =>
  chk (inb (mI M 7 i1 0) (mN M 603 0)) <|
  if 0 < (mI M 603 0 ((mI M 7 i1 0).toNatClampNeg)) then (
  chk (inb (mI M 7 i1 0) (mN M 604 0)) <|
  bnd (mI M 604 0 ((mI M 7 i1 0).toNatClampNeg)) fun x5 =>
  bnd (mR M 7 i1 11) fun r6 =>
  Option.bind (fX5_canFire_l29 x5 M FU r6) fun w14 => match w14 with
  | Sum.inl q17 => some q17
  | Sum.inr u16 =>
    some 1
  ) else (
  some 0
  )
set_option maxHeartbeats 4000000 in
set_option maxRecDepth 100000 in
theorem okX5_canFire_l29 {g : tG} (z2 : Int32) (M : tM) {r : Option tV} {Mz : tM} : ∀ (n : Nat) (y3 : Option Nat) (w : (Int32) ⊕ (Unit)), fX5_canFire_l29 z2 M n y3 = some w → (∀ (uw : Unit), Sum.inr uw = w → TW g iX5_canFire rmX5_canFire 0 0 r Mz 0 0 60 [] [] M) → (∀ (v : Int32), Sum.inl v = w → r = (some (ti v)) ∧ Mz = M) → TW g iX5_canFire rmX5_canFire 0 0 r Mz 0 0 29 [(0, tr 5 0), (2, ti z2), (3, tq 4 y3)] [] M := by
  intro n
  induction n with
  | zero => intro y3 w h; cases h
  | succ n ih =>
    intro y3 w h J JR
    rw [fX5_canFire_l29] at h
    refine tm_aload_n dX5_canFire_29 rfl rfl ?_
    refine tm_ifnull (k2 := 4) (q := y3) (tgt := 60) dX5_canFire_30 (by decide) (fun c7 => ?_) (fun c7 => ?_)
    · rw [if_pos c7] at h
      obtain rfl := Option.some.inj h
      refine tm_lcp [] rfl ?_
      exact J _ rfl
    · rw [if_neg c7] at h
      refine tm_aload_n dX5_canFire_33 rfl rfl ?_
      refine tm_get kX5 rfl (j := 1) (by decide) wfX5_9 dX5_canFire_34 (v := tr 601 0) rfl ?_
      refine tm_aload_n dX5_canFire_37 rfl rfl ?_
      replace h := obind_some h
      obtain ⟨i8, ei8, h⟩ := h
      subst ei8
      refine tm_get kX4 rfl (j := 0) (by decide) wfX5_75 dX5_canFire_38 (v := ti (mI M 4 i8 0)) rfl ?_
      replace h := chk_some h
      obtain ⟨b9, h⟩ := h
      refine tm_iald rfl dX5_canFire_41 (inb_vp b9) ?_
      refine tm_aload_n dX5_canFire_42 rfl rfl ?_
      refine tm_iload_n dX5_canFire_43 rfl rfl ?_
      replace h := obind_some h
      obtain ⟨x10, hc11, h⟩ := h
      refine tm_callV kX4 rfl (avs := [ti z2]) (st := [ti (mI M 601 0 ((mI M 4 i8 0).toNatClampNeg))]) (okX4_takesIn hc11) wcX5_76.1 wcX5_76.2.1 wcX5_76.2.2.1 wcX5_76.2.2.2 ⟨rfl, rfl, Nat.le_of_ble_eq_true rfl, Nat.le_of_ble_eq_true rfl⟩ rfl (Nat.le_of_ble_eq_true rfl) ⟨Nat.zero_le _, Nat.zero_le _⟩ dX5_canFire_44 ?_
      refine tm_icmp_ge (tgt := 52) dX5_canFire_47 (by decide) (fun c12 => ?_) (fun c12 => ?_)
      · rw [if_pos c12] at h
        refine tm_aload_n dX5_canFire_52 rfl rfl ?_
        refine tm_get kX4 rfl (j := 12) (by decide) wfX5_80 dX5_canFire_53 (v := tq 4 (mR M 4 i8 12)) rfl ?_
        replace h := bnd_some h
        obtain ⟨r13, er13, h⟩ := h
        refine tm_nmQ er13 ?_
        refine tm_astore_n (lc' := [(3, tq 4 r13), (0, tr 5 0), (2, ti z2)]) dX5_canFire_56 rfl (by decide) rfl ?_
        refine tm_goto (tgt := 29) dX5_canFire_57 (by decide) ?_
        refine tm_lcp [0, 2, 3] rfl ?_
        exact ih r13 _ h J JR
      · rw [if_neg c12] at h
        refine tm_iconst (v := 0) dX5_canFire_50 (by decide) ?_
        obtain rfl := Option.some.inj h
        obtain ⟨rfl, rfl⟩ := JR _ rfl
        exact tm_zret (by decide) rfl dX5_canFire_51
set_option maxHeartbeats 4000000 in
set_option maxRecDepth 100000 in
theorem okX5_canFire {g : tG} {a1 : Option Nat} {M : tM} {v : Int32} (h : fX5_canFire a1 M = some v) : TMet g yX5_canFire (Cond.code yX5_canFire cX5_canFire 4 (some .boolean) :: tgd) rmX5_canFire [tr 5 0, tq 7 a1] M (some (ti v)) M 0 0 := by
  have key : TW g iX5_canFire rmX5_canFire 0 0 (some (ti v)) M 0 0 0 [(0, tr 5 0), (1, tq 7 a1)] [] M := by
    rw [fX5_canFire] at h
    refine tm_aload_n dX5_canFire_0 rfl rfl ?_
    refine tm_get kX5 rfl (j := 3) (by decide) wfX5_18 dX5_canFire_1 (v := tr 603 0) rfl ?_
    refine tm_aload_n dX5_canFire_4 rfl rfl ?_
    replace h := obind_some h
    obtain ⟨i1, ei1, h⟩ := h
    subst ei1
    refine tm_get kX7 rfl (j := 0) (by decide) wfX5_68 dX5_canFire_5 (v := ti (mI M 7 i1 0)) rfl ?_
    replace h := chk_some h
    obtain ⟨b2, h⟩ := h
    refine tm_iald rfl dX5_canFire_8 (inb_vp b2) ?_
    refine tm_if_gt (tgt := 14) dX5_canFire_9 (by decide) (fun c3 => ?_) (fun c3 => ?_)
    · rw [if_pos c3] at h
      refine tm_aload_n dX5_canFire_14 rfl rfl ?_
      refine tm_get kX5 rfl (j := 4) (by decide) wfX5_21 dX5_canFire_15 (v := tr 604 0) rfl ?_
      refine tm_aload_n dX5_canFire_18 rfl rfl ?_
      refine tm_get kX7 rfl (j := 0) (by decide) wfX5_68 dX5_canFire_19 (v := ti (mI M 7 i1 0)) rfl ?_
      replace h := chk_some h
      obtain ⟨b4, h⟩ := h
      refine tm_iald rfl dX5_canFire_22 (inb_vp b4) ?_
      replace h := bnd_some h
      obtain ⟨x5, ex5, h⟩ := h
      refine tm_nmI ex5 ?_
      refine tm_istore_n (lc' := [(2, ti x5), (0, tr 5 0), (1, tr 7 i1)]) dX5_canFire_23 rfl (by decide) rfl ?_
      refine tm_aload_n dX5_canFire_24 rfl rfl ?_
      refine tm_get kX7 rfl (j := 11) (by decide) wfX5_71 dX5_canFire_25 (v := tq 4 (mR M 7 i1 11)) rfl ?_
      replace h := bnd_some h
      obtain ⟨r6, er6, h⟩ := h
      refine tm_nmQ er6 ?_
      refine tm_astore_n (lc' := [(3, tq 4 r6), (2, ti x5), (0, tr 5 0), (1, tr 7 i1)]) dX5_canFire_28 rfl (by decide) rfl ?_
      replace h := obind_some h
      obtain ⟨w14, hE15, h⟩ := h
      refine tm_lcp [0, 2, 3] rfl ?_
      refine okX5_canFire_l29 x5 M FU r6 _ hE15 (fun u16 e => ?_) (fun v18 e => ?_)
      · subst e
        dsimp only at h
        refine tm_iconst (v := 1) dX5_canFire_60 (by decide) ?_
        obtain rfl := Option.some.inj h
        exact tm_zret (by decide) rfl dX5_canFire_61
      · subst e
        obtain rfl := Option.some.inj h
        exact ⟨rfl, rfl⟩
    · rw [if_neg c3] at h
      refine tm_iconst (v := 0) dX5_canFire_12 (by decide) ?_
      obtain rfl := Option.some.inj h
      exact tm_zret (by decide) rfl dX5_canFire_13
  exact TMet.of (by decide) (Nat.le_of_ble_eq_true rfl) key
theorem wcX5_86 : tCB RX5 86 yX4_givesIn cX4_givesIn 2 (some .int) 1 ∧ Cond.methodLink RX5 86 yX4_givesIn ∈ tgd ∧ Cond.instanceMethod yX4_givesIn ∈ tgd ∧ Cond.selects RX4 yX4_givesIn yX4_givesIn ∈ tgd := ⟨⟨(tgd_t 693 (by decide +kernel) (by decide +kernel)), (tgd_t 15 (by decide +kernel) (by decide +kernel)), by decide, by decide +kernel⟩, (tgd_t 791 (by decide +kernel) (by decide +kernel)), (tgd_t 691 (by decide +kernel) (by decide +kernel)), (tgd_t 692 (by decide +kernel) (by decide +kernel))⟩
theorem wcX5_92 : tCB RX5 92 yX7_phaseBehind cX7_phaseBehind 2 (some .int) 1 ∧ Cond.methodLink RX5 92 yX7_phaseBehind ∈ tgd ∧ Cond.instanceMethod yX7_phaseBehind ∈ tgd ∧ Cond.selects RX7 yX7_phaseBehind yX7_phaseBehind ∈ tgd := ⟨⟨(tgd_t 795 (by decide +kernel) (by decide +kernel)), (tgd_t 11 (by decide +kernel) (by decide +kernel)), by decide, by decide +kernel⟩, (tgd_t 792 (by decide +kernel) (by decide +kernel)), (tgd_t 793 (by decide +kernel) (by decide +kernel)), (tgd_t 794 (by decide +kernel) (by decide +kernel))⟩
theorem wfX5_83 : Cond.fieldLink RX5 83 "EvenFlow$Part" "firstOut" "LEvenFlow$Line;" ∈ tgd := (tgd_t 446 (by decide +kernel) (by decide +kernel))
theorem wfX5_89 : Cond.fieldLink RX5 89 "EvenFlow$Line" "nextOut" "LEvenFlow$Line;" ∈ tgd := (tgd_t 600 (by decide +kernel) (by decide +kernel))
abbrev iX5_step : tY := (RX5, cX5_step, 5, none, "step")
abbrev rmX5_step : Room := { frames := 1, cells := 0, slots := 0, locals := 21 }
def fX5_step_l15 (z1 : Nat) (z2 : Int32) : Nat → (Option Nat) → tM → Option (tM)
  | 0, _, _ => none
  | n + 1, y3, M =>
    if y3 = none then (
    some M
    ) else (
    Option.bind y3 fun i6 =>
    bnd (mI M 4 i6 0) fun x7 =>
    chk (inb x7 (mN M 601 0)) <|
    (fX4_takesIn i6 z2 M).bind fun x9 =>
    chk (inb x7 (mN M 601 0)) <|
    bnd (sI M 601 0 (x7.toNatClampNeg) ((mI M 601 0 (x7.toNatClampNeg)) - x9)) fun M12 =>
    bnd (mR M12 4 i6 12) fun r13 =>
    fX5_step_l15 z1 z2 n r13 M12
    )
def fX5_step_l49 (z1 : Nat) (z2 : Int32) : Nat → (Option Nat) → tM → Option (tM)
  | 0, _, _ => none
  | n + 1, y3, M =>
    if y3 = none then (
    some M
    ) else (
    Option.bind y3 fun i19 =>
    chk (inb (mI M 4 i19 0) (mN M 601 0)) <|
    (fX4_givesIn i19 z2 M).bind fun x21 =>
    bnd ((mI M 601 0 ((mI M 4 i19 0).toNatClampNeg)) + x21) fun x23 =>
    chk (inb (mI M 4 i19 0) (mN M 601 0)) <|
    bnd (sI M 601 0 ((mI M 4 i19 0).toNatClampNeg) x23) fun M25 =>
    chk (inb (mI M25 4 i19 0) (mN M25 602 0)) <|
    Option.bind (α := tM) (
    if x23 ≤ (mI M25 602 0 ((mI M25 4 i19 0).toNatClampNeg)) then (
    some M25
    ) else (
    chk (inb (mI M25 4 i19 0) (mN M25 602 0)) <|
    bnd (sI M25 5 0 7 ((mI M25 5 0 7) + (x23 - (mI M25 602 0 ((mI M25 4 i19 0).toNatClampNeg))))) fun M29 =>
    chk (inb (mI M29 4 i19 0) (mN M29 602 0)) <|
    bnd (sI M29 602 0 ((mI M29 4 i19 0).toNatClampNeg) x23) fun M31 =>
    some M31
    )
    ) fun M28 =>
    bnd (mR M28 4 i19 13) fun r32 =>
    fX5_step_l49 z1 z2 n r32 M28
    )
def fX5_step (a1 : Option Nat) (M : tM) : Option (tM) :=
  Option.bind a1 fun i1 =>
  chk (inb (mI M 7 i1 0) (mN M 604 0)) <|
  bnd (mI M 604 0 ((mI M 7 i1 0).toNatClampNeg)) fun x3 =>
  bnd (mR M 7 i1 11) fun r4 =>
  Option.bind (fX5_step_l15 i1 x3 FU r4 M) fun M16 =>
  bnd (mR M16 7 i1 13) fun r17 =>
  Option.bind (fX5_step_l49 i1 x3 FU r17 M16) fun M35 =>
  (fX7_phaseBehind i1 x3 M35).bind fun x36 =>
  chk (inb (mI M35 7 i1 0) (mN M35 604 0)) <|
  bnd (sI M35 604 0 ((mI M35 7 i1 0).toNatClampNeg) x36) fun M39 =>
  bnd (mI M39 7 i1 0) fun x40 =>
  chk (inb x40 (mN M39 603 0)) <|
  chk (inb x40 (mN M39 603 0)) <|
  bnd (sI M39 603 0 (x40.toNatClampNeg) ((mI M39 603 0 (x40.toNatClampNeg)) - 1)) fun M43 =>
  bnd (sI M43 5 0 6 ((mI M43 5 0 6) - 1)) fun M44 =>
  bnd (sI M44 5 0 8 ((mI M44 5 0 8) + 1)) fun M45 =>
  chk (inb (mI M45 7 i1 0) (mN M45 605 0)) <|
  bnd (sI M45 605 0 ((mI M45 7 i1 0).toNatClampNeg) (mI M45 5 0 8)) fun M47 =>
  some M47
set_option maxHeartbeats 4000000 in
set_option maxRecDepth 100000 in
theorem okX5_step_l15 {g : tG} (z1 : Nat) (z2 : Int32) {r : Option tV} {Mz : tM} : ∀ (n : Nat) (y3 : Option Nat) (M : tM) (w : tM), fX5_step_l15 z1 z2 n y3 M = some w → (∀ (Mw : tM), Mw = w → TW g iX5_step rmX5_step 0 0 r Mz 0 0 44 [(0, tr 5 0), (1, tr 7 z1), (2, ti z2)] [] Mw) → TW g iX5_step rmX5_step 0 0 r Mz 0 0 15 [(0, tr 5 0), (1, tr 7 z1), (2, ti z2), (3, tq 4 y3)] [] M := by
  intro n
  induction n with
  | zero => intro y3 M w h; cases h
  | succ n ih =>
    intro y3 M w h J
    rw [fX5_step_l15] at h
    refine tm_aload_n dX5_step_15 rfl rfl ?_
    refine tm_ifnull (k2 := 4) (q := y3) (tgt := 44) dX5_step_16 (by decide) (fun c5 => ?_) (fun c5 => ?_)
    · rw [if_pos c5] at h
      obtain rfl := Option.some.inj h
      refine tm_lcp [0, 1, 2] rfl ?_
      exact J _ rfl
    · rw [if_neg c5] at h
      refine tm_aload_n dX5_step_19 rfl rfl ?_
      refine tm_get kX5 rfl (j := 1) (by decide) wfX5_9 dX5_step_20 (v := tr 601 0) rfl ?_
      refine tm_aload_n dX5_step_23 rfl rfl ?_
      replace h := obind_some h
      obtain ⟨i6, ei6, h⟩ := h
      subst ei6
      refine tm_get kX4 rfl (j := 0) (by decide) wfX5_75 dX5_step_24 (v := ti (mI M 4 i6 0)) rfl ?_
      replace h := bnd_some h
      obtain ⟨x7, ex7, h⟩ := h
      refine tm_nmI ex7 ?_
      refine tm_dup2 dX5_step_27 rfl rfl ?_
      replace h := chk_some h
      obtain ⟨b8, h⟩ := h
      refine tm_iald rfl dX5_step_28 (inb_vp b8) ?_
      refine tm_aload_n dX5_step_29 rfl rfl ?_
      refine tm_iload_n dX5_step_30 rfl rfl ?_
      replace h := obind_some h
      obtain ⟨x9, hc10, h⟩ := h
      refine tm_callV kX4 rfl (avs := [ti z2]) (st := [ti (mI M 601 0 (x7.toNatClampNeg)), ti x7, tr 601 0]) (okX4_takesIn hc10) wcX5_76.1 wcX5_76.2.1 wcX5_76.2.2.1 wcX5_76.2.2.2 ⟨rfl, rfl, Nat.le_of_ble_eq_true rfl, Nat.le_of_ble_eq_true rfl⟩ rfl (Nat.le_of_ble_eq_true rfl) ⟨Nat.zero_le _, Nat.zero_le _⟩ dX5_step_31 ?_
      refine tm_isub dX5_step_34 ?_
      replace h := chk_some h
      obtain ⟨b11, h⟩ := h
      replace h := bnd_some h
      obtain ⟨M12, eM12, h⟩ := h
      refine tm_iast rfl dX5_step_35 (inb_vp b11) ?_
      refine tm_nmM eM12 ?_
      refine tm_aload_n dX5_step_36 rfl rfl ?_
      refine tm_get kX4 rfl (j := 12) (by decide) wfX5_80 dX5_step_37 (v := tq 4 (mR M12 4 i6 12)) rfl ?_
      replace h := bnd_some h
      obtain ⟨r13, er13, h⟩ := h
      refine tm_nmQ er13 ?_
      refine tm_astore_n (lc' := [(3, tq 4 r13), (0, tr 5 0), (1, tr 7 z1), (2, ti z2)]) dX5_step_40 rfl (by decide) rfl ?_
      refine tm_goto (tgt := 15) dX5_step_41 (by decide) ?_
      refine tm_lcp [0, 1, 2, 3] rfl ?_
      exact ih r13 M12 _ h J
set_option maxHeartbeats 4000000 in
set_option maxRecDepth 100000 in
theorem okX5_step_l49 {g : tG} (z1 : Nat) (z2 : Int32) {r : Option tV} {Mz : tM} : ∀ (n : Nat) (y3 : Option Nat) (M : tM) (w : tM), fX5_step_l49 z1 z2 n y3 M = some w → (∀ (Mw : tM), Mw = w → TW g iX5_step rmX5_step 0 0 r Mz 0 0 135 [(0, tr 5 0), (1, tr 7 z1), (2, ti z2)] [] Mw) → TW g iX5_step rmX5_step 0 0 r Mz 0 0 49 [(0, tr 5 0), (1, tr 7 z1), (2, ti z2), (3, tq 4 y3)] [] M := by
  intro n
  induction n with
  | zero => intro y3 M w h; cases h
  | succ n ih =>
    intro y3 M w h J
    rw [fX5_step_l49] at h
    refine tm_aload_n dX5_step_49 rfl rfl ?_
    refine tm_ifnull (k2 := 4) (q := y3) (tgt := 135) dX5_step_50 (by decide) (fun c18 => ?_) (fun c18 => ?_)
    · rw [if_pos c18] at h
      obtain rfl := Option.some.inj h
      refine tm_lcp [0, 1, 2] rfl ?_
      exact J _ rfl
    · rw [if_neg c18] at h
      refine tm_aload_n dX5_step_53 rfl rfl ?_
      refine tm_get kX5 rfl (j := 1) (by decide) wfX5_9 dX5_step_54 (v := tr 601 0) rfl ?_
      refine tm_aload_n dX5_step_57 rfl rfl ?_
      replace h := obind_some h
      obtain ⟨i19, ei19, h⟩ := h
      subst ei19
      refine tm_get kX4 rfl (j := 0) (by decide) wfX5_75 dX5_step_58 (v := ti (mI M 4 i19 0)) rfl ?_
      replace h := chk_some h
      obtain ⟨b20, h⟩ := h
      refine tm_iald rfl dX5_step_61 (inb_vp b20) ?_
      refine tm_aload_n dX5_step_62 rfl rfl ?_
      refine tm_iload_n dX5_step_63 rfl rfl ?_
      replace h := obind_some h
      obtain ⟨x21, hc22, h⟩ := h
      refine tm_callV kX4 rfl (avs := [ti z2]) (st := [ti (mI M 601 0 ((mI M 4 i19 0).toNatClampNeg))]) (okX4_givesIn hc22) wcX5_86.1 wcX5_86.2.1 wcX5_86.2.2.1 wcX5_86.2.2.2 ⟨rfl, rfl, Nat.le_of_ble_eq_true rfl, Nat.le_of_ble_eq_true rfl⟩ rfl (Nat.le_of_ble_eq_true rfl) ⟨Nat.zero_le _, Nat.zero_le _⟩ dX5_step_64 ?_
      refine tm_iadd dX5_step_67 ?_
      replace h := bnd_some h
      obtain ⟨x23, ex23, h⟩ := h
      refine tm_nmI ex23 ?_
      refine tm_istore (lc' := [(4, ti x23), (0, tr 5 0), (1, tr 7 z1), (2, ti z2), (3, tr 4 i19)]) dX5_step_68 (by decide) rfl ?_
      refine tm_aload_n dX5_step_70 rfl rfl ?_
      refine tm_get kX5 rfl (j := 1) (by decide) wfX5_9 dX5_step_71 (v := tr 601 0) rfl ?_
      refine tm_aload_n dX5_step_74 rfl rfl ?_
      refine tm_get kX4 rfl (j := 0) (by decide) wfX5_75 dX5_step_75 (v := ti (mI M 4 i19 0)) rfl ?_
      refine tm_iload dX5_step_78 rfl ?_
      replace h := chk_some h
      obtain ⟨b24, h⟩ := h
      replace h := bnd_some h
      obtain ⟨M25, eM25, h⟩ := h
      refine tm_iast rfl dX5_step_80 (inb_vp b24) ?_
      refine tm_nmM eM25 ?_
      refine tm_iload dX5_step_81 rfl ?_
      refine tm_aload_n dX5_step_83 rfl rfl ?_
      refine tm_get kX5 rfl (j := 2) (by decide) wfX5_15 dX5_step_84 (v := tr 602 0) rfl ?_
      refine tm_aload_n dX5_step_87 rfl rfl ?_
      refine tm_get kX4 rfl (j := 0) (by decide) wfX5_75 dX5_step_88 (v := ti (mI M25 4 i19 0)) rfl ?_
      replace h := chk_some h
      obtain ⟨b26, h⟩ := h
      refine tm_iald rfl dX5_step_91 (inb_vp b26) ?_
      replace h := obind_some h
      obtain ⟨M28, hE29, h⟩ := h
      have J30 : TW g iX5_step rmX5_step 0 0 r Mz 0 0 127 [(0, tr 5 0), (1, tr 7 z1), (2, ti z2), (3, tr 4 i19)] [] M28 := by
        refine tm_aload_n dX5_step_127 rfl rfl ?_
        refine tm_get kX4 rfl (j := 13) (by decide) wfX5_89 dX5_step_128 (v := tq 4 (mR M28 4 i19 13)) rfl ?_
        replace h := bnd_some h
        obtain ⟨r32, er32, h⟩ := h
        refine tm_nmQ er32 ?_
        refine tm_astore_n (lc' := [(3, tq 4 r32), (0, tr 5 0), (1, tr 7 z1), (2, ti z2)]) dX5_step_131 rfl (by decide) rfl ?_
        refine tm_goto (tgt := 49) dX5_step_132 (by decide) ?_
        refine tm_lcp [0, 1, 2, 3] rfl ?_
        exact ih r32 M28 _ h J
      refine tm_icmp_le (tgt := 127) dX5_step_92 (by decide) (fun c27 => ?_) (fun c27 => ?_)
      · rw [if_pos c27] at hE29
        obtain rfl := Option.some.inj hE29
        refine tm_lcp [0, 1, 2, 3] rfl ?_
        exact J30
      · rw [if_neg c27] at hE29
        refine tm_aload_n dX5_step_95 rfl rfl ?_
        refine tm_dup dX5_step_96 rfl ?_
        refine tm_get kX5 rfl (j := 7) (by decide) wfX5_53 dX5_step_97 (v := ti (mI M25 5 0 7)) rfl ?_
        refine tm_iload dX5_step_100 rfl ?_
        refine tm_aload_n dX5_step_102 rfl rfl ?_
        refine tm_get kX5 rfl (j := 2) (by decide) wfX5_15 dX5_step_103 (v := tr 602 0) rfl ?_
        refine tm_aload_n dX5_step_106 rfl rfl ?_
        refine tm_get kX4 rfl (j := 0) (by decide) wfX5_75 dX5_step_107 (v := ti (mI M25 4 i19 0)) rfl ?_
        replace hE29 := chk_some hE29
        obtain ⟨b28, hE29⟩ := hE29
        refine tm_iald rfl dX5_step_110 (inb_vp b28) ?_
        refine tm_isub dX5_step_111 ?_
        refine tm_iadd dX5_step_112 ?_
        replace hE29 := bnd_some hE29
        obtain ⟨M29, eM29, hE29⟩ := hE29
        refine tm_put kX5 rfl (j := 7) (by decide) wfX5_53 rfl dX5_step_113 (fun _ => ⟨rfl, rfl⟩) (tPut_I ((mI M25 5 0 7) + (x23 - (mI M25 602 0 ((mI M25 4 i19 0).toNatClampNeg)))) rfl) ?_
        refine tm_nmM eM29 ?_
        refine tm_aload_n dX5_step_116 rfl rfl ?_
        refine tm_get kX5 rfl (j := 2) (by decide) wfX5_15 dX5_step_117 (v := tr 602 0) rfl ?_
        refine tm_aload_n dX5_step_120 rfl rfl ?_
        refine tm_get kX4 rfl (j := 0) (by decide) wfX5_75 dX5_step_121 (v := ti (mI M29 4 i19 0)) rfl ?_
        refine tm_iload dX5_step_124 rfl ?_
        replace hE29 := chk_some hE29
        obtain ⟨b30, hE29⟩ := hE29
        replace hE29 := bnd_some hE29
        obtain ⟨M31, eM31, hE29⟩ := hE29
        refine tm_iast rfl dX5_step_126 (inb_vp b30) ?_
        refine tm_nmM eM31 ?_
        obtain rfl := Option.some.inj hE29
        refine tm_lcp [0, 1, 2, 3] rfl ?_
        exact J30
set_option maxHeartbeats 4000000 in
set_option maxRecDepth 100000 in
theorem okX5_step {g : tG} {a1 : Option Nat} {M : tM} {Mz : tM} (h : fX5_step a1 M = some Mz) : TMet g yX5_step (Cond.code yX5_step cX5_step 5 (none) :: tgd) rmX5_step [tr 5 0, tq 7 a1] M none Mz 0 0 := by
  have key : TW g iX5_step rmX5_step 0 0 none Mz 0 0 0 [(0, tr 5 0), (1, tq 7 a1)] [] M := by
    rw [fX5_step] at h
    refine tm_aload_n dX5_step_0 rfl rfl ?_
    refine tm_get kX5 rfl (j := 4) (by decide) wfX5_21 dX5_step_1 (v := tr 604 0) rfl ?_
    refine tm_aload_n dX5_step_4 rfl rfl ?_
    replace h := obind_some h
    obtain ⟨i1, ei1, h⟩ := h
    subst ei1
    refine tm_get kX7 rfl (j := 0) (by decide) wfX5_68 dX5_step_5 (v := ti (mI M 7 i1 0)) rfl ?_
    replace h := chk_some h
    obtain ⟨b2, h⟩ := h
    refine tm_iald rfl dX5_step_8 (inb_vp b2) ?_
    replace h := bnd_some h
    obtain ⟨x3, ex3, h⟩ := h
    refine tm_nmI ex3 ?_
    refine tm_istore_n (lc' := [(2, ti x3), (0, tr 5 0), (1, tr 7 i1)]) dX5_step_9 rfl (by decide) rfl ?_
    refine tm_aload_n dX5_step_10 rfl rfl ?_
    refine tm_get kX7 rfl (j := 11) (by decide) wfX5_71 dX5_step_11 (v := tq 4 (mR M 7 i1 11)) rfl ?_
    replace h := bnd_some h
    obtain ⟨r4, er4, h⟩ := h
    refine tm_nmQ er4 ?_
    refine tm_astore_n (lc' := [(3, tq 4 r4), (2, ti x3), (0, tr 5 0), (1, tr 7 i1)]) dX5_step_14 rfl (by decide) rfl ?_
    replace h := obind_some h
    obtain ⟨w14, hE15, h⟩ := h
    refine tm_lcp [0, 1, 2, 3] rfl ?_
    refine okX5_step_l15 i1 x3 FU r4 M _ hE15 (fun M16 e => ?_)
    subst e
    refine tm_aload_n dX5_step_44 rfl rfl ?_
    refine tm_get kX7 rfl (j := 13) (by decide) wfX5_83 dX5_step_45 (v := tq 4 (mR M16 7 i1 13)) rfl ?_
    replace h := bnd_some h
    obtain ⟨r17, er17, h⟩ := h
    refine tm_nmQ er17 ?_
    refine tm_astore_n (lc' := [(3, tq 4 r17), (0, tr 5 0), (1, tr 7 i1), (2, ti x3)]) dX5_step_48 rfl (by decide) rfl ?_
    replace h := obind_some h
    obtain ⟨w33, hE34, h⟩ := h
    refine tm_lcp [0, 1, 2, 3] rfl ?_
    refine okX5_step_l49 i1 x3 FU r17 M16 _ hE34 (fun M35 e => ?_)
    subst e
    refine tm_aload_n dX5_step_135 rfl rfl ?_
    refine tm_get kX5 rfl (j := 4) (by decide) wfX5_21 dX5_step_136 (v := tr 604 0) rfl ?_
    refine tm_aload_n dX5_step_139 rfl rfl ?_
    refine tm_get kX7 rfl (j := 0) (by decide) wfX5_68 dX5_step_140 (v := ti (mI M35 7 i1 0)) rfl ?_
    refine tm_aload_n dX5_step_143 rfl rfl ?_
    refine tm_iload_n dX5_step_144 rfl rfl ?_
    replace h := obind_some h
    obtain ⟨x36, hc37, h⟩ := h
    refine tm_callV kX7 rfl (avs := [ti x3]) (st := [ti (mI M35 7 i1 0), tr 604 0]) (okX7_phaseBehind hc37) wcX5_92.1 wcX5_92.2.1 wcX5_92.2.2.1 wcX5_92.2.2.2 ⟨rfl, rfl, Nat.le_of_ble_eq_true rfl, Nat.le_of_ble_eq_true rfl⟩ rfl (Nat.le_of_ble_eq_true rfl) ⟨Nat.zero_le _, Nat.zero_le _⟩ dX5_step_145 ?_
    replace h := chk_some h
    obtain ⟨b38, h⟩ := h
    replace h := bnd_some h
    obtain ⟨M39, eM39, h⟩ := h
    refine tm_iast rfl dX5_step_148 (inb_vp b38) ?_
    refine tm_nmM eM39 ?_
    refine tm_aload_n dX5_step_149 rfl rfl ?_
    refine tm_get kX5 rfl (j := 3) (by decide) wfX5_18 dX5_step_150 (v := tr 603 0) rfl ?_
    refine tm_aload_n dX5_step_153 rfl rfl ?_
    refine tm_get kX7 rfl (j := 0) (by decide) wfX5_68 dX5_step_154 (v := ti (mI M39 7 i1 0)) rfl ?_
    replace h := bnd_some h
    obtain ⟨x40, ex40, h⟩ := h
    refine tm_nmI ex40 ?_
    refine tm_dup2 dX5_step_157 rfl rfl ?_
    replace h := chk_some h
    obtain ⟨b41, h⟩ := h
    refine tm_iald rfl dX5_step_158 (inb_vp b41) ?_
    refine tm_iconst (v := 1) dX5_step_159 (by decide) ?_
    refine tm_isub dX5_step_160 ?_
    replace h := chk_some h
    obtain ⟨b42, h⟩ := h
    replace h := bnd_some h
    obtain ⟨M43, eM43, h⟩ := h
    refine tm_iast rfl dX5_step_161 (inb_vp b42) ?_
    refine tm_nmM eM43 ?_
    refine tm_aload_n dX5_step_162 rfl rfl ?_
    refine tm_dup dX5_step_163 rfl ?_
    refine tm_get kX5 rfl (j := 6) (by decide) wfX5_40 dX5_step_164 (v := ti (mI M43 5 0 6)) rfl ?_
    refine tm_iconst (v := 1) dX5_step_167 (by decide) ?_
    refine tm_isub dX5_step_168 ?_
    replace h := bnd_some h
    obtain ⟨M44, eM44, h⟩ := h
    refine tm_put kX5 rfl (j := 6) (by decide) wfX5_40 rfl dX5_step_169 (fun _ => ⟨rfl, rfl⟩) (tPut_I ((mI M43 5 0 6) - 1) rfl) ?_
    refine tm_nmM eM44 ?_
    refine tm_aload_n dX5_step_172 rfl rfl ?_
    refine tm_dup dX5_step_173 rfl ?_
    refine tm_get kX5 rfl (j := 8) (by decide) wfX5_31 dX5_step_174 (v := ti (mI M44 5 0 8)) rfl ?_
    refine tm_iconst (v := 1) dX5_step_177 (by decide) ?_
    refine tm_iadd dX5_step_178 ?_
    replace h := bnd_some h
    obtain ⟨M45, eM45, h⟩ := h
    refine tm_put kX5 rfl (j := 8) (by decide) wfX5_31 rfl dX5_step_179 (fun _ => ⟨rfl, rfl⟩) (tPut_I ((mI M44 5 0 8) + 1) rfl) ?_
    refine tm_nmM eM45 ?_
    refine tm_aload_n dX5_step_182 rfl rfl ?_
    refine tm_get kX5 rfl (j := 5) (by decide) wfX5_24 dX5_step_183 (v := tr 605 0) rfl ?_
    refine tm_aload_n dX5_step_186 rfl rfl ?_
    refine tm_get kX7 rfl (j := 0) (by decide) wfX5_68 dX5_step_187 (v := ti (mI M45 7 i1 0)) rfl ?_
    refine tm_aload_n dX5_step_190 rfl rfl ?_
    refine tm_get kX5 rfl (j := 8) (by decide) wfX5_31 dX5_step_191 (v := ti (mI M45 5 0 8)) rfl ?_
    replace h := chk_some h
    obtain ⟨b46, h⟩ := h
    replace h := bnd_some h
    obtain ⟨M47, eM47, h⟩ := h
    refine tm_iast rfl dX5_step_194 (inb_vp b46) ?_
    refine tm_nmM eM47 ?_
    obtain rfl := Option.some.inj h
    exact tm_vret rfl dX5_step_195
  exact TMet.of (by decide) (Nat.le_of_ble_eq_true rfl) key
theorem wcX5_98 : tCB RX5 98 yX5_canFire cX5_canFire 4 (some .boolean) 1 ∧ Cond.methodLink RX5 98 yX5_canFire ∈ tgd ∧ Cond.instanceMethod yX5_canFire ∈ tgd ∧ Cond.selects RX5 yX5_canFire yX5_canFire ∈ tgd := ⟨⟨(tgd_t 785 (by decide +kernel) (by decide +kernel)), (tgd_t 3 (by decide +kernel) (by decide +kernel)), by decide, by decide +kernel⟩, (tgd_t 782 (by decide +kernel) (by decide +kernel)), (tgd_t 783 (by decide +kernel) (by decide +kernel)), (tgd_t 784 (by decide +kernel) (by decide +kernel))⟩
theorem wcX5_102 : tCB RX5 102 yX5_step cX5_step 5 (none) 1 ∧ Cond.methodLink RX5 102 yX5_step ∈ tgd ∧ Cond.instanceMethod yX5_step ∈ tgd ∧ Cond.selects RX5 yX5_step yX5_step ∈ tgd := ⟨⟨(tgd_t 790 (by decide +kernel) (by decide +kernel)), (tgd_t 3 (by decide +kernel) (by decide +kernel)), by decide, by decide +kernel⟩, (tgd_t 787 (by decide +kernel) (by decide +kernel)), (tgd_t 788 (by decide +kernel) (by decide +kernel)), (tgd_t 789 (by decide +kernel) (by decide +kernel))⟩
abbrev iX5_exhaust : tY := (RX5, cX5_exhaust, 6, none, "exhaust")
abbrev rmX5_exhaust : Room := { frames := 2, cells := 0, slots := 0, locals := 45 }
def fX5_exhaust_l49 (z2 : Int32) (z3 : Int32) (z4 : Option Nat) : Nat → Int32 → Int32 → tM → Option (Int32 × tM)
  | 0, _, _, _ => none
  | n + 1, y1, y5, M =>
    if y5 ≤ 0 then (
    some ((y1, M))
    ) else (
    (fX5_canFire z4 M).bind fun x9 =>
    if x9 = 0 then (
    some ((y1, M))
    ) else (
    (fX5_step z4 M).bind fun M13 =>
    bnd (y5 + (-1)) fun x14 =>
    fX5_exhaust_l49 z2 z3 z4 n 1 x14 M13
    )
    )
def fX5_exhaust_l19 (z2 : Int32) : Nat → Int32 → Int32 → tM → Option (Int32 × tM)
  | 0, _, _, _ => none
  | n + 1, y1, y3, M =>
    if (mI M 1 0 2) ≤ y3 then (
    some ((y1, M))
    ) else (
    chk (inb y3 (mN M 200 0)) <|
    bnd (mR M 200 0 (y3.toNatClampNeg)) fun r5 =>
    chk (inb y3 (mN M 603 0)) <|
    bnd (mI M 603 0 (y3.toNatClampNeg)) fun x7 =>
    Option.bind (fX5_exhaust_l49 z2 y3 r5 FU y1 x7 M) fun (x17, M18) =>
    bnd (y3 + 1) fun x19 =>
    fX5_exhaust_l19 z2 n x17 x19 M18
    )
def fX5_exhaust_l4  : Nat → Int32 → Int32 → tM → Option (tM)
  | 0, _, _, _ => none
  | n + 1, y1, y2, M =>
    if 2000 < y2 then (
    some M
    ) else (
    if y1 = 0 then (
    some M
    ) else (
    Option.bind (fX5_exhaust_l19 y2 FU 0 0 M) fun (x22, M23) =>
    bnd (y2 + 1) fun x24 =>
    fX5_exhaust_l4 n x22 x24 M23
    )
    )
def fX5_exhaust  (M : tM) : Option (tM) :=
  Option.bind (fX5_exhaust_l4 FU 1 0 M) fun M27 =>
  some M27
set_option maxHeartbeats 4000000 in
set_option maxRecDepth 100000 in
theorem okX5_exhaust_l49 {g : tG} (z2 : Int32) (z3 : Int32) (z4 : Option Nat) {r : Option tV} {Mz : tM} : ∀ (n : Nat) (y1 : Int32) (y5 : Int32) (M : tM) (w : Int32 × tM), fX5_exhaust_l49 z2 z3 z4 n y1 y5 M = some w → (∀ (w1 : Int32) (Mw : tM), (w1, Mw) = w → TW g iX5_exhaust rmX5_exhaust 0 0 r Mz 0 0 77 [(0, tr 5 0), (1, ti w1), (2, ti z2), (3, ti z3)] [] Mw) → TW g iX5_exhaust rmX5_exhaust 0 0 r Mz 0 0 49 [(0, tr 5 0), (1, ti y1), (2, ti z2), (3, ti z3), (4, tq 7 z4), (5, ti y5)] [] M := by
  intro n
  induction n with
  | zero => intro y1 y5 M w h; cases h
  | succ n ih =>
    intro y1 y5 M w h J
    rw [fX5_exhaust_l49] at h
    refine tm_iload dX5_exhaust_49 rfl ?_
    refine tm_if_le (tgt := 77) dX5_exhaust_51 (by decide) (fun c8 => ?_) (fun c8 => ?_)
    · rw [if_pos c8] at h
      obtain rfl := Option.some.inj h
      refine tm_lcp [0, 1, 2, 3] rfl ?_
      exact J _ _ rfl
    · rw [if_neg c8] at h
      refine tm_aload_n dX5_exhaust_54 rfl rfl ?_
      refine tm_aload dX5_exhaust_55 rfl ?_
      replace h := obind_some h
      obtain ⟨x9, hc10, h⟩ := h
      refine tm_callV kX5 rfl (avs := [tq 7 z4]) (st := []) (okX5_canFire hc10) wcX5_98.1 wcX5_98.2.1 wcX5_98.2.2.1 wcX5_98.2.2.2 ⟨rfl, rfl, Nat.le_of_ble_eq_true rfl, Nat.le_of_ble_eq_true rfl⟩ rfl (Nat.le_of_ble_eq_true rfl) ⟨Nat.zero_le _, Nat.zero_le _⟩ dX5_exhaust_57 ?_
      refine tm_if_eq (tgt := 77) dX5_exhaust_60 (by decide) (fun c11 => ?_) (fun c11 => ?_)
      · rw [if_pos c11] at h
        obtain rfl := Option.some.inj h
        refine tm_lcp [0, 1, 2, 3] rfl ?_
        exact J _ _ rfl
      · rw [if_neg c11] at h
        refine tm_aload_n dX5_exhaust_63 rfl rfl ?_
        refine tm_aload dX5_exhaust_64 rfl ?_
        replace h := obind_some h
        obtain ⟨M13, hc12, h⟩ := h
        refine tm_callV kX5 rfl (avs := [tq 7 z4]) (st := []) (okX5_step hc12) wcX5_102.1 wcX5_102.2.1 wcX5_102.2.2.1 wcX5_102.2.2.2 ⟨rfl, rfl, Nat.le_of_ble_eq_true rfl, Nat.le_of_ble_eq_true rfl⟩ rfl (Nat.le_of_ble_eq_true rfl) ⟨Nat.zero_le _, Nat.zero_le _⟩ dX5_exhaust_66 ?_
        refine tm_iconst (v := 1) dX5_exhaust_69 (by decide) ?_
        refine tm_istore_n (lc' := [(1, ti 1), (0, tr 5 0), (2, ti z2), (3, ti z3), (4, tq 7 z4), (5, ti y5)]) dX5_exhaust_70 rfl (by decide) rfl ?_
        replace h := bnd_some h
        obtain ⟨x14, ex14, h⟩ := h
        refine tm_iinc (v := x14) (lc' := [(5, ti x14), (1, ti 1), (0, tr 5 0), (2, ti z2), (3, ti z3), (4, tq 7 z4)]) dX5_exhaust_71 rfl (by rw [ex14]; rfl) (by decide) rfl ?_
        refine tm_goto (tgt := 49) dX5_exhaust_74 (by decide) ?_
        refine tm_lcp [0, 1, 2, 3, 4, 5] rfl ?_
        exact ih 1 x14 M13 _ h J
set_option maxHeartbeats 4000000 in
set_option maxRecDepth 100000 in
theorem okX5_exhaust_l19 {g : tG} (z2 : Int32) {r : Option tV} {Mz : tM} : ∀ (n : Nat) (y1 : Int32) (y3 : Int32) (M : tM) (w : Int32 × tM), fX5_exhaust_l19 z2 n y1 y3 M = some w → (∀ (w1 : Int32) (Mw : tM), (w1, Mw) = w → TW g iX5_exhaust rmX5_exhaust 0 0 r Mz 0 0 83 [(0, tr 5 0), (1, ti w1), (2, ti z2)] [] Mw) → TW g iX5_exhaust rmX5_exhaust 0 0 r Mz 0 0 19 [(0, tr 5 0), (1, ti y1), (2, ti z2), (3, ti y3)] [] M := by
  intro n
  induction n with
  | zero => intro y1 y3 M w h; cases h
  | succ n ih =>
    intro y1 y3 M w h J
    rw [fX5_exhaust_l19] at h
    refine tm_iload_n dX5_exhaust_19 rfl rfl ?_
    refine tm_aload_n dX5_exhaust_20 rfl rfl ?_
    refine tm_get kX5 rfl (j := 0) (by decide) wfX5_27 dX5_exhaust_21 (v := tr 1 0) rfl ?_
    refine tm_get kX1 rfl (j := 2) (by decide) wfX5_43 dX5_exhaust_24 (v := ti (mI M 1 0 2)) rfl ?_
    refine tm_icmp_ge (tgt := 83) dX5_exhaust_27 (by decide) (fun c3 => ?_) (fun c3 => ?_)
    · rw [if_pos c3] at h
      obtain rfl := Option.some.inj h
      refine tm_lcp [0, 1, 2] rfl ?_
      exact J _ _ rfl
    · rw [if_neg c3] at h
      refine tm_aload_n dX5_exhaust_30 rfl rfl ?_
      refine tm_get kX5 rfl (j := 0) (by decide) wfX5_27 dX5_exhaust_31 (v := tr 1 0) rfl ?_
      refine tm_get kX1 rfl (j := 0) (by decide) wfX5_46 dX5_exhaust_34 (v := tr 200 0) rfl ?_
      refine tm_iload_n dX5_exhaust_37 rfl rfl ?_
      replace h := chk_some h
      obtain ⟨b4, h⟩ := h
      refine tm_aald (k2 := 7) ⟨rfl, rfl, rfl, fun _ => rfl⟩ dX5_exhaust_38 (inb_vp b4) ?_
      replace h := bnd_some h
      obtain ⟨r5, er5, h⟩ := h
      refine tm_nmQ er5 ?_
      refine tm_astore (lc' := [(4, tq 7 r5), (0, tr 5 0), (1, ti y1), (2, ti z2), (3, ti y3)]) dX5_exhaust_39 (by decide) rfl ?_
      refine tm_aload_n dX5_exhaust_41 rfl rfl ?_
      refine tm_get kX5 rfl (j := 3) (by decide) wfX5_18 dX5_exhaust_42 (v := tr 603 0) rfl ?_
      refine tm_iload_n dX5_exhaust_45 rfl rfl ?_
      replace h := chk_some h
      obtain ⟨b6, h⟩ := h
      refine tm_iald rfl dX5_exhaust_46 (inb_vp b6) ?_
      replace h := bnd_some h
      obtain ⟨x7, ex7, h⟩ := h
      refine tm_nmI ex7 ?_
      refine tm_istore (lc' := [(5, ti x7), (4, tq 7 r5), (0, tr 5 0), (1, ti y1), (2, ti z2), (3, ti y3)]) dX5_exhaust_47 (by decide) rfl ?_
      replace h := obind_some h
      obtain ⟨w15, hE16, h⟩ := h
      refine tm_lcp [0, 1, 2, 3, 4, 5] rfl ?_
      refine okX5_exhaust_l49 z2 y3 r5 FU y1 x7 M _ hE16 (fun x17 M18 e => ?_)
      subst e
      dsimp only at h
      replace h := bnd_some h
      obtain ⟨x19, ex19, h⟩ := h
      refine tm_iinc (v := x19) (lc' := [(3, ti x19), (0, tr 5 0), (1, ti x17), (2, ti z2)]) dX5_exhaust_77 rfl (by rw [ex19]; rfl) (by decide) rfl ?_
      refine tm_goto (tgt := 19) dX5_exhaust_80 (by decide) ?_
      refine tm_lcp [0, 1, 2, 3] rfl ?_
      exact ih x17 x19 M18 _ h J
set_option maxHeartbeats 4000000 in
set_option maxRecDepth 100000 in
theorem okX5_exhaust_l4 {g : tG}  {r : Option tV} {Mz : tM} : ∀ (n : Nat) (y1 : Int32) (y2 : Int32) (M : tM) (w : tM), fX5_exhaust_l4 n y1 y2 M = some w → (∀ (Mw : tM), Mw = w → TW g iX5_exhaust rmX5_exhaust 0 0 r Mz 0 0 89 [] [] Mw) → TW g iX5_exhaust rmX5_exhaust 0 0 r Mz 0 0 4 [(0, tr 5 0), (1, ti y1), (2, ti y2)] [] M := by
  intro n
  induction n with
  | zero => intro y1 y2 M w h; cases h
  | succ n ih =>
    intro y1 y2 M w h J
    rw [fX5_exhaust_l4] at h
    refine tm_iload_n dX5_exhaust_4 rfl rfl ?_
    refine tm_sipush (v := 2000) dX5_exhaust_5 (by decide) ?_
    refine tm_icmp_gt (tgt := 89) dX5_exhaust_8 (by decide) (fun c1 => ?_) (fun c1 => ?_)
    · rw [if_pos c1] at h
      obtain rfl := Option.some.inj h
      refine tm_lcp [] rfl ?_
      exact J _ rfl
    · rw [if_neg c1] at h
      refine tm_iload_n dX5_exhaust_11 rfl rfl ?_
      refine tm_if_eq (tgt := 89) dX5_exhaust_12 (by decide) (fun c2 => ?_) (fun c2 => ?_)
      · rw [if_pos c2] at h
        obtain rfl := Option.some.inj h
        refine tm_lcp [] rfl ?_
        exact J _ rfl
      · rw [if_neg c2] at h
        refine tm_iconst (v := 0) dX5_exhaust_15 (by decide) ?_
        refine tm_istore_n (lc' := [(1, ti 0), (0, tr 5 0), (2, ti y2)]) dX5_exhaust_16 rfl (by decide) rfl ?_
        refine tm_iconst (v := 0) dX5_exhaust_17 (by decide) ?_
        refine tm_istore_n (lc' := [(3, ti 0), (1, ti 0), (0, tr 5 0), (2, ti y2)]) dX5_exhaust_18 rfl (by decide) rfl ?_
        replace h := obind_some h
        obtain ⟨w20, hE21, h⟩ := h
        refine tm_lcp [0, 1, 2, 3] rfl ?_
        refine okX5_exhaust_l19 y2 FU 0 0 M _ hE21 (fun x22 M23 e => ?_)
        subst e
        dsimp only at h
        replace h := bnd_some h
        obtain ⟨x24, ex24, h⟩ := h
        refine tm_iinc (v := x24) (lc' := [(2, ti x24), (0, tr 5 0), (1, ti x22)]) dX5_exhaust_83 rfl (by rw [ex24]; rfl) (by decide) rfl ?_
        refine tm_goto (tgt := 4) dX5_exhaust_86 (by decide) ?_
        refine tm_lcp [0, 1, 2] rfl ?_
        exact ih x22 x24 M23 _ h J
set_option maxHeartbeats 4000000 in
set_option maxRecDepth 100000 in
theorem okX5_exhaust {g : tG}  {M : tM} {Mz : tM} (h : fX5_exhaust  M = some Mz) : TMet g yX5_exhaust (Cond.code yX5_exhaust cX5_exhaust 6 (none) :: tgd) rmX5_exhaust [tr 5 0] M none Mz 0 0 := by
  have key : TW g iX5_exhaust rmX5_exhaust 0 0 none Mz 0 0 0 [(0, tr 5 0)] [] M := by
    rw [fX5_exhaust] at h
    refine tm_iconst (v := 1) dX5_exhaust_0 (by decide) ?_
    refine tm_istore_n (lc' := [(1, ti 1), (0, tr 5 0)]) dX5_exhaust_1 rfl (by decide) rfl ?_
    refine tm_iconst (v := 0) dX5_exhaust_2 (by decide) ?_
    refine tm_istore_n (lc' := [(2, ti 0), (1, ti 1), (0, tr 5 0)]) dX5_exhaust_3 rfl (by decide) rfl ?_
    replace h := obind_some h
    obtain ⟨w25, hE26, h⟩ := h
    refine tm_lcp [0, 1, 2] rfl ?_
    refine okX5_exhaust_l4  FU 1 0 M _ hE26 (fun M27 e => ?_)
    subst e
    obtain rfl := Option.some.inj h
    exact tm_vret rfl dX5_exhaust_89
  exact TMet.of (by decide) (Nat.le_of_ble_eq_true rfl) key
theorem wcX2_57 : tCB RX2 57 yX5_begin cX5_begin 2 (none) 0 ∧ Cond.methodLink RX2 57 yX5_begin ∈ tgd ∧ Cond.instanceMethod yX5_begin ∈ tgd ∧ Cond.selects RX5 yX5_begin yX5_begin ∈ tgd := ⟨⟨(tgd_t 777 (by decide +kernel) (by decide +kernel)), (tgd_t 3 (by decide +kernel) (by decide +kernel)), by decide, by decide +kernel⟩, (tgd_t 774 (by decide +kernel) (by decide +kernel)), (tgd_t 775 (by decide +kernel) (by decide +kernel)), (tgd_t 776 (by decide +kernel) (by decide +kernel))⟩
theorem wcX2_65 : tCB RX2 65 yX5_exhaust cX5_exhaust 6 (none) 0 ∧ Cond.methodLink RX2 65 yX5_exhaust ∈ tgd ∧ Cond.instanceMethod yX5_exhaust ∈ tgd ∧ Cond.selects RX5 yX5_exhaust yX5_exhaust ∈ tgd := ⟨⟨(tgd_t 781 (by decide +kernel) (by decide +kernel)), (tgd_t 3 (by decide +kernel) (by decide +kernel)), by decide, by decide +kernel⟩, (tgd_t 778 (by decide +kernel) (by decide +kernel)), (tgd_t 779 (by decide +kernel) (by decide +kernel)), (tgd_t 780 (by decide +kernel) (by decide +kernel))⟩
theorem wfX2_9 : Cond.fieldLink RX2 9 "EvenFlow$Lack" "more" "[I" ∈ tgd := (tgd_t 177 (by decide +kernel) (by decide +kernel))
theorem wfX2_15 : Cond.fieldLink RX2 15 "EvenFlow$Lack" "graph" "LEvenFlow$Graph;" ∈ tgd := (tgd_t 175 (by decide +kernel) (by decide +kernel))
theorem wfX2_19 : Cond.fieldLink RX2 19 "EvenFlow$Lack" "ahead" "LEvenFlow$Marking;" ∈ tgd := (tgd_t 176 (by decide +kernel) (by decide +kernel))
theorem wfX2_47 : Cond.fieldLink RX2 47 "EvenFlow$Graph" "lineCount" "I" ∈ tgd := (tgd_t 61 (by decide +kernel) (by decide +kernel))
theorem wfX2_62 : Cond.fieldLink RX2 62 "EvenFlow$Marking" "on" "[I" ∈ tgd := (tgd_t 104 (by decide +kernel) (by decide +kernel))
theorem wfX2_68 : Cond.fieldLink RX2 68 "EvenFlow$Marking" "leftInAll" "I" ∈ tgd := (tgd_t 115 (by decide +kernel) (by decide +kernel))
abbrev iX2_sticks : tY := (RX2, cX2_sticks, 2, some .boolean, "sticks")
abbrev rmX2_sticks : Room := { frames := 3, cells := 0, slots := 0, locals := 70 }
def fX2_sticks_l9  : Nat → Int32 → tM → Option (tM)
  | 0, _, _ => none
  | n + 1, y1, M =>
    if (mI M 1 0 3) ≤ y1 then (
    some M
    ) else (
    chk (inb y1 (mN M 601 0)) <|
    chk (inb y1 (mN M 302 0)) <|
    chk (inb y1 (mN M 601 0)) <|
    bnd (sI M 601 0 (y1.toNatClampNeg) ((mI M 601 0 (y1.toNatClampNeg)) + (mI M 302 0 (y1.toNatClampNeg)))) fun M7 =>
    bnd (y1 + 1) fun x8 =>
    fX2_sticks_l9 n x8 M7
    )
def fX2_sticks  (M : tM) : Option (Int32 × tM) :=
  (fX5_begin M).bind fun M2 =>
  Option.bind (fX2_sticks_l9 FU 0 M2) fun M11 =>
  (fX5_exhaust M11).bind fun M13 =>
  if (mI M13 5 0 6) ≤ 0 then (
  some ((0, M13))
  ) else (
  some ((1, M13))
  )
set_option maxHeartbeats 4000000 in
set_option maxRecDepth 100000 in
theorem okX2_sticks_l9 {g : tG}  {r : Option tV} {Mz : tM} : ∀ (n : Nat) (y1 : Int32) (M : tM) (w : tM), fX2_sticks_l9 n y1 M = some w → (∀ (Mw : tM), Mw = w → TW g iX2_sticks rmX2_sticks 0 0 r Mz 0 0 44 [(0, tr 2 0)] [] Mw) → TW g iX2_sticks rmX2_sticks 0 0 r Mz 0 0 9 [(0, tr 2 0), (1, ti y1)] [] M := by
  intro n
  induction n with
  | zero => intro y1 M w h; cases h
  | succ n ih =>
    intro y1 M w h J
    rw [fX2_sticks_l9] at h
    refine tm_iload_n dX2_sticks_9 rfl rfl ?_
    refine tm_aload_n dX2_sticks_10 rfl rfl ?_
    refine tm_get kX2 rfl (j := 0) (by decide) wfX2_15 dX2_sticks_11 (v := tr 1 0) rfl ?_
    refine tm_get kX1 rfl (j := 3) (by decide) wfX2_47 dX2_sticks_14 (v := ti (mI M 1 0 3)) rfl ?_
    refine tm_icmp_ge (tgt := 44) dX2_sticks_17 (by decide) (fun c3 => ?_) (fun c3 => ?_)
    · rw [if_pos c3] at h
      obtain rfl := Option.some.inj h
      refine tm_lcp [0] rfl ?_
      exact J _ rfl
    · rw [if_neg c3] at h
      refine tm_aload_n dX2_sticks_20 rfl rfl ?_
      refine tm_get kX2 rfl (j := 1) (by decide) wfX2_19 dX2_sticks_21 (v := tr 5 0) rfl ?_
      refine tm_get kX5 rfl (j := 1) (by decide) wfX2_62 dX2_sticks_24 (v := tr 601 0) rfl ?_
      refine tm_iload_n dX2_sticks_27 rfl rfl ?_
      refine tm_dup2 dX2_sticks_28 rfl rfl ?_
      replace h := chk_some h
      obtain ⟨b4, h⟩ := h
      refine tm_iald rfl dX2_sticks_29 (inb_vp b4) ?_
      refine tm_aload_n dX2_sticks_30 rfl rfl ?_
      refine tm_get kX2 rfl (j := 2) (by decide) wfX2_9 dX2_sticks_31 (v := tr 302 0) rfl ?_
      refine tm_iload_n dX2_sticks_34 rfl rfl ?_
      replace h := chk_some h
      obtain ⟨b5, h⟩ := h
      refine tm_iald rfl dX2_sticks_35 (inb_vp b5) ?_
      refine tm_iadd dX2_sticks_36 ?_
      replace h := chk_some h
      obtain ⟨b6, h⟩ := h
      replace h := bnd_some h
      obtain ⟨M7, eM7, h⟩ := h
      refine tm_iast rfl dX2_sticks_37 (inb_vp b6) ?_
      refine tm_nmM eM7 ?_
      replace h := bnd_some h
      obtain ⟨x8, ex8, h⟩ := h
      refine tm_iinc (v := x8) (lc' := [(1, ti x8), (0, tr 2 0)]) dX2_sticks_38 rfl (by rw [ex8]; rfl) (by decide) rfl ?_
      refine tm_goto (tgt := 9) dX2_sticks_41 (by decide) ?_
      refine tm_lcp [0, 1] rfl ?_
      exact ih x8 M7 _ h J
set_option maxHeartbeats 4000000 in
set_option maxRecDepth 100000 in
theorem okX2_sticks {g : tG}  {M : tM} {v : Int32} {Mz : tM} (h : fX2_sticks  M = some ((v, Mz))) : TMet g yX2_sticks (Cond.code yX2_sticks cX2_sticks 2 (some .boolean) :: tgd) rmX2_sticks [tr 2 0] M (some (ti v)) Mz 0 0 := by
  have key : TW g iX2_sticks rmX2_sticks 0 0 (some (ti v)) Mz 0 0 0 [(0, tr 2 0)] [] M := by
    rw [fX2_sticks] at h
    refine tm_aload_n dX2_sticks_0 rfl rfl ?_
    refine tm_get kX2 rfl (j := 1) (by decide) wfX2_19 dX2_sticks_1 (v := tr 5 0) rfl ?_
    replace h := obind_some h
    obtain ⟨M2, hc1, h⟩ := h
    refine tm_callV kX5 rfl (avs := []) (st := []) (okX5_begin hc1) wcX2_57.1 wcX2_57.2.1 wcX2_57.2.2.1 wcX2_57.2.2.2 ⟨rfl, rfl, Nat.le_of_ble_eq_true rfl, Nat.le_of_ble_eq_true rfl⟩ rfl (Nat.le_of_ble_eq_true rfl) ⟨Nat.zero_le _, Nat.zero_le _⟩ dX2_sticks_4 ?_
    refine tm_iconst (v := 0) dX2_sticks_7 (by decide) ?_
    refine tm_istore_n (lc' := [(1, ti 0), (0, tr 2 0)]) dX2_sticks_8 rfl (by decide) rfl ?_
    replace h := obind_some h
    obtain ⟨w9, hE10, h⟩ := h
    refine tm_lcp [0, 1] rfl ?_
    refine okX2_sticks_l9  FU 0 M2 _ hE10 (fun M11 e => ?_)
    subst e
    refine tm_aload_n dX2_sticks_44 rfl rfl ?_
    refine tm_get kX2 rfl (j := 1) (by decide) wfX2_19 dX2_sticks_45 (v := tr 5 0) rfl ?_
    replace h := obind_some h
    obtain ⟨M13, hc12, h⟩ := h
    refine tm_callV kX5 rfl (avs := []) (st := []) (okX5_exhaust hc12) wcX2_65.1 wcX2_65.2.1 wcX2_65.2.2.1 wcX2_65.2.2.2 ⟨rfl, rfl, Nat.le_of_ble_eq_true rfl, Nat.le_of_ble_eq_true rfl⟩ rfl (Nat.le_of_ble_eq_true rfl) ⟨Nat.zero_le _, Nat.zero_le _⟩ dX2_sticks_48 ?_
    refine tm_aload_n dX2_sticks_51 rfl rfl ?_
    refine tm_get kX2 rfl (j := 1) (by decide) wfX2_19 dX2_sticks_52 (v := tr 5 0) rfl ?_
    refine tm_get kX5 rfl (j := 6) (by decide) wfX2_68 dX2_sticks_55 (v := ti (mI M13 5 0 6)) rfl ?_
    refine tm_if_le (tgt := 65) dX2_sticks_58 (by decide) (fun c14 => ?_) (fun c14 => ?_)
    · rw [if_pos c14] at h
      refine tm_iconst (v := 0) dX2_sticks_65 (by decide) ?_
      obtain ⟨rfl, rfl⟩ := pj2 h
      exact tm_zret (by decide) rfl dX2_sticks_66
    · rw [if_neg c14] at h
      refine tm_iconst (v := 1) dX2_sticks_61 (by decide) ?_
      refine tm_goto (tgt := 66) dX2_sticks_62 (by decide) ?_
      obtain ⟨rfl, rfl⟩ := pj2 h
      exact tm_zret (by decide) rfl dX2_sticks_66
  exact TMet.of (by decide) (Nat.le_of_ble_eq_true rfl) key
theorem wcX2_30 : tCB RX2 30 yJ7_fill_53178 cJ7_fill_53178 4 (none) 2 ∧ Cond.methodLink RX2 30 yJ7_fill_53178 ∈ tgd ∧ Cond.static yJ7_fill_53178 ∈ tgd := ⟨⟨(tgd_t 535 (by decide +kernel) (by decide +kernel)), (tgd_t 14 (by decide +kernel) (by decide +kernel)), by decide, by decide +kernel⟩, (tgd_t 769 (by decide +kernel) (by decide +kernel)), (tgd_t 534 (by decide +kernel) (by decide +kernel))⟩
theorem wcX2_36 : tCB RX2 36 yX2_sticks cX2_sticks 2 (some .boolean) 0 ∧ Cond.methodLink RX2 36 yX2_sticks ∈ tgd ∧ Cond.instanceMethod yX2_sticks ∈ tgd ∧ Cond.selects RX2 yX2_sticks yX2_sticks ∈ tgd := ⟨⟨(tgd_t 773 (by decide +kernel) (by decide +kernel)), (tgd_t 5 (by decide +kernel) (by decide +kernel)), by decide, by decide +kernel⟩, (tgd_t 770 (by decide +kernel) (by decide +kernel)), (tgd_t 772 (by decide +kernel) (by decide +kernel)), (tgd_p 12 (by decide +kernel) (by decide +kernel))⟩
theorem wfX2_40 : Cond.fieldLink RX2 40 "EvenFlow$Lack" "isStuck" "Z" ∈ tgd := (tgd_t 179 (by decide +kernel) (by decide +kernel))
abbrev iX2_isStuck : tY := (RX2, cX2_isStuck, 1, some .boolean, "isStuck")
abbrev rmX2_isStuck : Room := { frames := 4, cells := 0, slots := 0, locals := 91 }
def fX2_isStuck  (M : tM) : Option (Int32 × tM) :=
  if (mI M 2 0 3) = 0 then (
  (fJ7_fill_53178 302 0 0 M).bind fun M5 =>
  (fX2_sticks M5).bind fun (x6, M8) =>
  chk (tb x6) <|
  bnd (sI M8 2 0 4 x6) fun M10 =>
  bnd (sI M10 2 0 3 1) fun M11 =>
  bnd (mI M11 2 0 4) fun x12 =>
  chk (tb x12) <|
  some ((x12, M11))
  ) else (
  bnd (mI M 2 0 4) fun x2 =>
  chk (tb x2) <|
  some ((x2, M))
  )
set_option maxHeartbeats 4000000 in
set_option maxRecDepth 100000 in
theorem okX2_isStuck {g : tG}  {M : tM} {v : Int32} {Mz : tM} (h : fX2_isStuck  M = some ((v, Mz))) : TMet g yX2_isStuck (Cond.code yX2_isStuck cX2_isStuck 1 (some .boolean) :: tgd) rmX2_isStuck [tr 2 0] M (some (ti v)) Mz 0 0 := by
  have key : TW g iX2_isStuck rmX2_isStuck 0 0 (some (ti v)) Mz 0 0 0 [(0, tr 2 0)] [] M := by
    rw [fX2_isStuck] at h
    refine tm_aload_n dX2_isStuck_0 rfl rfl ?_
    refine tm_get kX2 rfl (j := 3) (by decide) wfX2_23 dX2_isStuck_1 (v := ti (mI M 2 0 3)) rfl ?_
    refine tm_if_ne (tgt := 28) dX2_isStuck_4 (by decide) (fun c1 => ?_) (fun c1 => ?_)
    · rw [if_neg c1] at h
      refine tm_aload_n dX2_isStuck_28 rfl rfl ?_
      refine tm_get kX2 rfl (j := 4) (by decide) wfX2_40 dX2_isStuck_29 (v := ti (mI M 2 0 4)) rfl ?_
      replace h := bnd_some h
      obtain ⟨x2, ex2, h⟩ := h
      refine tm_nmI ex2 ?_
      replace h := chk_some h
      obtain ⟨b3, h⟩ := h
      obtain ⟨rfl, rfl⟩ := pj2 h
      exact tm_zret (tb_n b3) rfl dX2_isStuck_32
    · rw [if_pos c1] at h
      refine tm_aload_n dX2_isStuck_7 rfl rfl ?_
      refine tm_get kX2 rfl (j := 2) (by decide) wfX2_9 dX2_isStuck_8 (v := tr 302 0) rfl ?_
      refine tm_iconst (v := 0) dX2_isStuck_11 (by decide) ?_
      replace h := obind_some h
      obtain ⟨M5, hc4, h⟩ := h
      refine tm_callS (avs := [tr 302 0, ti 0]) (st := []) (okJ7_fill_53178 hc4) wcX2_30.1 wcX2_30.2.1 wcX2_30.2.2 ⟨rfl, rfl, Nat.le_of_ble_eq_true rfl, Nat.le_of_ble_eq_true rfl⟩ rfl (Nat.le_of_ble_eq_true rfl) ⟨Nat.zero_le _, Nat.zero_le _⟩ dX2_isStuck_12 ?_
      refine tm_aload_n dX2_isStuck_15 rfl rfl ?_
      refine tm_aload_n dX2_isStuck_16 rfl rfl ?_
      replace h := obind_some h
      obtain ⟨⟨x6, M8⟩, hc7, h⟩ := h
      dsimp only at h
      refine tm_callV kX2 rfl (avs := []) (st := [tr 2 0]) (okX2_sticks hc7) wcX2_36.1 wcX2_36.2.1 wcX2_36.2.2.1 wcX2_36.2.2.2 ⟨rfl, rfl, Nat.le_of_ble_eq_true rfl, Nat.le_of_ble_eq_true rfl⟩ rfl (Nat.le_of_ble_eq_true rfl) ⟨Nat.zero_le _, Nat.zero_le _⟩ dX2_isStuck_17 ?_
      replace h := chk_some h
      obtain ⟨b9, h⟩ := h
      replace h := bnd_some h
      obtain ⟨M10, eM10, h⟩ := h
      refine tm_put kX2 rfl (j := 4) (by decide) wfX2_40 rfl dX2_isStuck_20 (tb_f b9) (tPut_I x6 rfl) ?_
      refine tm_nmM eM10 ?_
      refine tm_aload_n dX2_isStuck_23 rfl rfl ?_
      refine tm_iconst (v := 1) dX2_isStuck_24 (by decide) ?_
      replace h := bnd_some h
      obtain ⟨M11, eM11, h⟩ := h
      refine tm_put kX2 rfl (j := 3) (by decide) wfX2_23 rfl dX2_isStuck_25 (tb_f (x := 1) (by decide)) (tPut_I 1 rfl) ?_
      refine tm_nmM eM11 ?_
      refine tm_aload_n dX2_isStuck_28 rfl rfl ?_
      refine tm_get kX2 rfl (j := 4) (by decide) wfX2_40 dX2_isStuck_29 (v := ti (mI M11 2 0 4)) rfl ?_
      replace h := bnd_some h
      obtain ⟨x12, ex12, h⟩ := h
      refine tm_nmI ex12 ?_
      replace h := chk_some h
      obtain ⟨b13, h⟩ := h
      obtain ⟨rfl, rfl⟩ := pj2 h
      exact tm_zret (tb_n b13) rfl dX2_isStuck_32
  exact TMet.of (by decide) (Nat.le_of_ble_eq_true rfl) key
theorem wfX2_103 : Cond.fieldLink RX2 103 "EvenFlow$Graph" "partCount" "I" ∈ tgd := (tgd_t 55 (by decide +kernel) (by decide +kernel))
theorem wfX2_106 : Cond.fieldLink RX2 106 "EvenFlow$Marking" "left" "[I" ∈ tgd := (tgd_t 109 (by decide +kernel) (by decide +kernel))
theorem wfX2_109 : Cond.fieldLink RX2 109 "EvenFlow$Graph" "parts" "[LEvenFlow$Part;" ∈ tgd := (tgd_t 39 (by decide +kernel) (by decide +kernel))
abbrev iX2_leastLeft : tY := (RX2, cX2_leastLeft, 2, some (.object "EvenFlow$Part"), "leastLeft")
abbrev rmX2_leastLeft : Room := { frames := 0, cells := 0, slots := 0, locals := 0 }
def fX2_leastLeft_l2  (M : tM) : Nat → Int32 → Option ((Option Nat) ⊕ (Unit))
  | 0, _ => none
  | n + 1, y1 =>
    if (mI M 1 0 2) ≤ y1 then (
    some (Sum.inr (()))
    ) else (
    chk (inb y1 (mN M 603 0)) <|
    if (mI M 603 0 (y1.toNatClampNeg)) ≤ 0 then (
    bnd (y1 + 1) fun x4 =>
    fX2_leastLeft_l2 M n x4
    ) else (
    chk (inb y1 (mN M 200 0)) <|
    bnd (mR M 200 0 (y1.toNatClampNeg)) fun r6 =>
    some (Sum.inl r6)
    )
    )
def fX2_leastLeft  (M : tM) : Option (Option Nat) :=
  Option.bind (fX2_leastLeft_l2 M FU 0) fun w7 => match w7 with
  | Sum.inl q10 => some q10
  | Sum.inr u9 =>
    some none
set_option maxHeartbeats 4000000 in
set_option maxRecDepth 100000 in
theorem okX2_leastLeft_l2 {g : tG}  (M : tM) {r : Option tV} {Mz : tM} : ∀ (n : Nat) (y1 : Int32) (w : (Option Nat) ⊕ (Unit)), fX2_leastLeft_l2 M n y1 = some w → (∀ (uw : Unit), Sum.inr uw = w → TW g iX2_leastLeft rmX2_leastLeft 0 0 r Mz 0 0 41 [] [] M) → (∀ (v : Option Nat), Sum.inl v = w → r = (some (tq 7 v)) ∧ Mz = M) → TW g iX2_leastLeft rmX2_leastLeft 0 0 r Mz 0 0 2 [(0, tr 2 0), (1, ti y1)] [] M := by
  intro n
  induction n with
  | zero => intro y1 w h; cases h
  | succ n ih =>
    intro y1 w h J JR
    rw [fX2_leastLeft_l2] at h
    refine tm_iload_n dX2_leastLeft_2 rfl rfl ?_
    refine tm_aload_n dX2_leastLeft_3 rfl rfl ?_
    refine tm_get kX2 rfl (j := 0) (by decide) wfX2_15 dX2_leastLeft_4 (v := tr 1 0) rfl ?_
    refine tm_get kX1 rfl (j := 2) (by decide) wfX2_103 dX2_leastLeft_7 (v := ti (mI M 1 0 2)) rfl ?_
    refine tm_icmp_ge (tgt := 41) dX2_leastLeft_10 (by decide) (fun c1 => ?_) (fun c1 => ?_)
    · rw [if_pos c1] at h
      obtain rfl := Option.some.inj h
      refine tm_lcp [] rfl ?_
      exact J _ rfl
    · rw [if_neg c1] at h
      refine tm_aload_n dX2_leastLeft_13 rfl rfl ?_
      refine tm_get kX2 rfl (j := 1) (by decide) wfX2_19 dX2_leastLeft_14 (v := tr 5 0) rfl ?_
      refine tm_get kX5 rfl (j := 3) (by decide) wfX2_106 dX2_leastLeft_17 (v := tr 603 0) rfl ?_
      refine tm_iload_n dX2_leastLeft_20 rfl rfl ?_
      replace h := chk_some h
      obtain ⟨b2, h⟩ := h
      refine tm_iald rfl dX2_leastLeft_21 (inb_vp b2) ?_
      refine tm_if_le (tgt := 35) dX2_leastLeft_22 (by decide) (fun c3 => ?_) (fun c3 => ?_)
      · rw [if_pos c3] at h
        replace h := bnd_some h
        obtain ⟨x4, ex4, h⟩ := h
        refine tm_iinc (v := x4) (lc' := [(1, ti x4), (0, tr 2 0)]) dX2_leastLeft_35 rfl (by rw [ex4]; rfl) (by decide) rfl ?_
        refine tm_goto (tgt := 2) dX2_leastLeft_38 (by decide) ?_
        refine tm_lcp [0, 1] rfl ?_
        exact ih x4 _ h J JR
      · rw [if_neg c3] at h
        refine tm_aload_n dX2_leastLeft_25 rfl rfl ?_
        refine tm_get kX2 rfl (j := 0) (by decide) wfX2_15 dX2_leastLeft_26 (v := tr 1 0) rfl ?_
        refine tm_get kX1 rfl (j := 0) (by decide) wfX2_109 dX2_leastLeft_29 (v := tr 200 0) rfl ?_
        refine tm_iload_n dX2_leastLeft_32 rfl rfl ?_
        replace h := chk_some h
        obtain ⟨b5, h⟩ := h
        refine tm_aald (k2 := 7) ⟨rfl, rfl, rfl, fun _ => rfl⟩ dX2_leastLeft_33 (inb_vp b5) ?_
        replace h := bnd_some h
        obtain ⟨r6, er6, h⟩ := h
        refine tm_nmQ er6 ?_
        obtain rfl := Option.some.inj h
        obtain ⟨rfl, rfl⟩ := JR _ rfl
        exact tm_aret rfl dX2_leastLeft_34
set_option maxHeartbeats 4000000 in
set_option maxRecDepth 100000 in
theorem okX2_leastLeft {g : tG}  {M : tM} {v : Option Nat} (h : fX2_leastLeft  M = some v) : TMet g yX2_leastLeft (Cond.code yX2_leastLeft cX2_leastLeft 2 (some (.object "EvenFlow$Part")) :: tgd) rmX2_leastLeft [tr 2 0] M (some (tq 7 v)) M 0 0 := by
  have key : TW g iX2_leastLeft rmX2_leastLeft 0 0 (some (tq 7 v)) M 0 0 0 [(0, tr 2 0)] [] M := by
    rw [fX2_leastLeft] at h
    refine tm_iconst (v := 0) dX2_leastLeft_0 (by decide) ?_
    refine tm_istore_n (lc' := [(1, ti 0), (0, tr 2 0)]) dX2_leastLeft_1 rfl (by decide) rfl ?_
    replace h := obind_some h
    obtain ⟨w7, hE8, h⟩ := h
    refine tm_lcp [0, 1] rfl ?_
    refine okX2_leastLeft_l2 M FU 0 _ hE8 (fun u9 e => ?_) (fun v11 e => ?_)
    · subst e
      dsimp only at h
      refine tm_null dX2_leastLeft_41 ?_
      obtain rfl := Option.some.inj h
      exact tm_aret rfl dX2_leastLeft_42
    · subst e
      obtain rfl := Option.some.inj h
      exact ⟨rfl, rfl⟩
  exact TMet.of (by decide) (Nat.le_of_ble_eq_true rfl) key
