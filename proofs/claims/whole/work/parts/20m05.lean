abbrev iX11_leastLeft : tY := (RX11, cX11_leastLeft, 2, some .int, "leastLeft")
abbrev rmX11_leastLeft : Room := { frames := 0, cells := 0, slots := 0, locals := 0 }
def fX11_leastLeft_l2  (M : tM) : Nat → Int32 → Option ((Int32) ⊕ (Unit))
  | 0, _ => none
  | n + 1, y1 =>
    if (mI M 11 0 2) ≤ y1 then (
    some (Sum.inr (()))
    ) else (
    chk (inb y1 (mN M 1240 0)) <|
    if (mI M 1240 0 (y1.toNatClampNeg)) ≤ 0 then (
    bnd (y1 + 1) fun x4 =>
    fX11_leastLeft_l2 M n x4
    ) else (
    some (Sum.inl y1)
    )
    )
def fX11_leastLeft  (M : tM) : Option (Int32) :=
  Option.bind (fX11_leastLeft_l2 M FU 0) fun w5 => match w5 with
  | Sum.inl q8 => some q8
  | Sum.inr u7 =>
    some (-9)
set_option maxHeartbeats 4000000 in
set_option maxRecDepth 100000 in
theorem okX11_leastLeft_l2 {g : tG}  (M : tM) {r : Option tV} {Mz : tM} : ∀ (n : Nat) (y1 : Int32) (w : (Int32) ⊕ (Unit)), fX11_leastLeft_l2 M n y1 = some w → (∀ (uw : Unit), Sum.inr uw = w → TW g iX11_leastLeft rmX11_leastLeft 0 0 r Mz 0 0 27 [] [] M) → (∀ (v : Int32), Sum.inl v = w → r = (some (ti v)) ∧ Mz = M) → TW g iX11_leastLeft rmX11_leastLeft 0 0 r Mz 0 0 2 [(0, tr 11 0), (1, ti y1)] [] M := by
  intro n
  induction n with
  | zero => intro y1 w h; cases h
  | succ n ih =>
    intro y1 w h J JR
    rw [fX11_leastLeft_l2] at h
    refine tm_iload_n dX11_leastLeft_2 rfl rfl ?_
    refine tm_aload_n dX11_leastLeft_3 rfl rfl ?_
    refine tm_get kX11 rfl (j := 2) (by decide) wfX11_202 dX11_leastLeft_4 (v := ti (mI M 11 0 2)) rfl ?_
    refine tm_icmp_ge (tgt := 27) dX11_leastLeft_7 (by decide) (fun c1 => ?_) (fun c1 => ?_)
    · rw [if_pos c1] at h
      obtain rfl := Option.some.inj h
      refine tm_lcp [] rfl ?_
      exact J _ rfl
    · rw [if_neg c1] at h
      refine tm_aload_n dX11_leastLeft_10 rfl rfl ?_
      refine tm_get kX11 rfl (j := 40) (by decide) wfX11_104 dX11_leastLeft_11 (v := tr 1240 0) rfl ?_
      refine tm_iload_n dX11_leastLeft_14 rfl rfl ?_
      obtain ⟨b2, h⟩ := chk_some h
      refine tm_iald rfl dX11_leastLeft_15 (inb_vp b2) ?_
      refine tm_if_le (tgt := 21) dX11_leastLeft_16 (by decide) (fun c3 => ?_) (fun c3 => ?_)
      · rw [if_pos c3] at h
        obtain ⟨x4, ex4, h⟩ := bnd_some h
        refine tm_iinc (v := x4) (lc' := [(1, ti x4), (0, tr 11 0)]) dX11_leastLeft_21 rfl (by rw [ex4]; rfl) (by decide) rfl ?_
        refine tm_goto (tgt := 2) dX11_leastLeft_24 (by decide) ?_
        refine tm_lcp [0, 1] rfl ?_
        exact ih x4 _ h J JR
      · rw [if_neg c3] at h
        refine tm_iload_n dX11_leastLeft_19 rfl rfl ?_
        obtain rfl := Option.some.inj h
        obtain ⟨rfl, rfl⟩ := JR _ rfl
        exact tm_iret rfl dX11_leastLeft_20
set_option maxHeartbeats 4000000 in
set_option maxRecDepth 100000 in
theorem okX11_leastLeft {g : tG}  {M : tM} {v : Int32} (h : fX11_leastLeft  M = some v) : TMet g yX11_leastLeft (Cond.code yX11_leastLeft cX11_leastLeft 2 (some .int) :: tgd) rmX11_leastLeft [tr 11 0] M (some (ti v)) M 0 0 := by
  have key : TW g iX11_leastLeft rmX11_leastLeft 0 0 (some (ti v)) M 0 0 0 [(0, tr 11 0)] [] M := by
    rw [fX11_leastLeft] at h
    refine tm_iconst (v := 0) dX11_leastLeft_0 (by decide) ?_
    refine tm_istore_n (lc' := [(1, ti 0), (0, tr 11 0)]) dX11_leastLeft_1 rfl (by decide) rfl ?_
    obtain ⟨w5, hE6, h⟩ := obind_some h
    refine tm_lcp [0, 1] rfl ?_
    refine okX11_leastLeft_l2 M FU 0 _ hE6 (fun u7 e => ?_) (fun v9 e => ?_)
    · subst e
      dsimp only at h
      refine tm_bipush (v := (-9)) dX11_leastLeft_27 (by decide) ?_
      obtain rfl := Option.some.inj h
      exact tm_iret rfl dX11_leastLeft_29
    · subst e
      obtain rfl := Option.some.inj h
      exact ⟨rfl, rfl⟩
  exact TMet.of (by decide) (Nat.le_of_ble_eq_true rfl) key
theorem wcX11_286 : tCB RX11 286 yX11_markFirst cX11_markFirst 3 (none) 1 ∧ Cond.methodLink RX11 286 yX11_markFirst ∈ tgd ∧ Cond.instanceMethod yX11_markFirst ∈ tgd ∧ Cond.selects RX11 yX11_markFirst yX11_markFirst ∈ tgd := ⟨⟨(tgd_t 1596 (by decide +kernel) (by decide +kernel)), (tgd_t 10 (by decide +kernel) (by decide +kernel)), by decide, by decide +kernel⟩, (tgd_t 1593 (by decide +kernel) (by decide +kernel)), (tgd_t 1595 (by decide +kernel) (by decide +kernel)), (tgd_p 69 (by decide +kernel) (by decide +kernel))⟩
theorem wcX11_290 : tCB RX11 290 yX11_leastThatMay cX11_leastThatMay 2 (some .int) 0 ∧ Cond.methodLink RX11 290 yX11_leastThatMay ∈ tgd ∧ Cond.instanceMethod yX11_leastThatMay ∈ tgd ∧ Cond.selects RX11 yX11_leastThatMay yX11_leastThatMay ∈ tgd := ⟨⟨(tgd_t 1600 (by decide +kernel) (by decide +kernel)), (tgd_t 10 (by decide +kernel) (by decide +kernel)), by decide, by decide +kernel⟩, (tgd_t 1597 (by decide +kernel) (by decide +kernel)), (tgd_t 1599 (by decide +kernel) (by decide +kernel)), (tgd_p 70 (by decide +kernel) (by decide +kernel))⟩
theorem wcX11_293 : tCB RX11 293 yX11_fireMark cX11_fireMark 3 (none) 1 ∧ Cond.methodLink RX11 293 yX11_fireMark ∈ tgd ∧ Cond.instanceMethod yX11_fireMark ∈ tgd ∧ Cond.selects RX11 yX11_fireMark yX11_fireMark ∈ tgd := ⟨⟨(tgd_t 1608 (by decide +kernel) (by decide +kernel)), (tgd_t 10 (by decide +kernel) (by decide +kernel)), by decide, by decide +kernel⟩, (tgd_t 1605 (by decide +kernel) (by decide +kernel)), (tgd_t 1607 (by decide +kernel) (by decide +kernel)), (tgd_p 72 (by decide +kernel) (by decide +kernel))⟩
theorem wcX11_297 : tCB RX11 297 yX11_leastLeft cX11_leastLeft 2 (some .int) 0 ∧ Cond.methodLink RX11 297 yX11_leastLeft ∈ tgd ∧ Cond.instanceMethod yX11_leastLeft ∈ tgd ∧ Cond.selects RX11 yX11_leastLeft yX11_leastLeft ∈ tgd := ⟨⟨(tgd_t 1612 (by decide +kernel) (by decide +kernel)), (tgd_t 10 (by decide +kernel) (by decide +kernel)), by decide, by decide +kernel⟩, (tgd_t 1609 (by decide +kernel) (by decide +kernel)), (tgd_t 1611 (by decide +kernel) (by decide +kernel)), (tgd_p 73 (by decide +kernel) (by decide +kernel))⟩
abbrev iX11_isStuck : tY := (RX11, cX11_isStuck, 3, some .boolean, "isStuck")
abbrev rmX11_isStuck : Room := { frames := 2, cells := 0, slots := 0, locals := 44 }
def fX11_isStuck_l10  : Nat → Int32 → tM → Option (tM)
  | 0, _, _ => none
  | n + 1, y2, M =>
    if y2 < 0 then (
    some M
    ) else (
    (fX11_fireMark y2 M).bind fun M7 =>
    (fX11_leastThatMay M7).bind fun x8 =>
    fX11_isStuck_l10 n x8 M7
    )
def fX11_isStuck (a1 : Int32) (M : tM) : Option (Int32 × tM) :=
  (fX11_markFirst a1 M).bind fun M2 =>
  (fX11_leastThatMay M2).bind fun x3 =>
  Option.bind (fX11_isStuck_l10 FU x3 M2) fun M12 =>
  (fX11_leastLeft M12).bind fun x13 =>
  if x13 < 0 then (
  some ((0, M12))
  ) else (
  some ((1, M12))
  )
set_option maxHeartbeats 4000000 in
set_option maxRecDepth 100000 in
theorem okX11_isStuck_l10 {g : tG}  {r : Option tV} {Mz : tM} : ∀ (n : Nat) (y2 : Int32) (M : tM) (w : tM), fX11_isStuck_l10 n y2 M = some w → (∀ (Mw : tM), Mw = w → TW g iX11_isStuck rmX11_isStuck 0 0 r Mz 0 0 27 [(0, tr 11 0)] [] Mw) → TW g iX11_isStuck rmX11_isStuck 0 0 r Mz 0 0 10 [(0, tr 11 0), (2, ti y2)] [] M := by
  intro n
  induction n with
  | zero => intro y2 M w h; cases h
  | succ n ih =>
    intro y2 M w h J
    rw [fX11_isStuck_l10] at h
    refine tm_iload_n dX11_isStuck_10 rfl rfl ?_
    refine tm_if_lt (tgt := 27) dX11_isStuck_11 (by decide) (fun c5 => ?_) (fun c5 => ?_)
    · rw [if_pos c5] at h
      obtain rfl := Option.some.inj h
      refine tm_lcp [0] rfl ?_
      exact J _ rfl
    · rw [if_neg c5] at h
      refine tm_aload_n dX11_isStuck_14 rfl rfl ?_
      refine tm_iload_n dX11_isStuck_15 rfl rfl ?_
      obtain ⟨M7, hc6, h⟩ := obind_some h
      refine tm_callV kX11 rfl (avs := [ti y2]) (st := []) (okX11_fireMark hc6) wcX11_293.1 wcX11_293.2.1 wcX11_293.2.2.1 wcX11_293.2.2.2 ⟨rfl, rfl, Nat.le_of_ble_eq_true rfl, Nat.le_of_ble_eq_true rfl⟩ rfl (Nat.le_of_ble_eq_true rfl) ⟨Nat.zero_le _, Nat.zero_le _⟩ dX11_isStuck_16 ?_
      refine tm_aload_n dX11_isStuck_19 rfl rfl ?_
      obtain ⟨x8, hc9, h⟩ := obind_some h
      refine tm_callV kX11 rfl (avs := []) (st := []) (okX11_leastThatMay hc9) wcX11_290.1 wcX11_290.2.1 wcX11_290.2.2.1 wcX11_290.2.2.2 ⟨rfl, rfl, Nat.le_of_ble_eq_true rfl, Nat.le_of_ble_eq_true rfl⟩ rfl (Nat.le_of_ble_eq_true rfl) ⟨Nat.zero_le _, Nat.zero_le _⟩ dX11_isStuck_20 ?_
      refine tm_istore_n (lc' := [(2, ti x8), (0, tr 11 0)]) dX11_isStuck_23 rfl (by decide) rfl ?_
      refine tm_goto (tgt := 10) dX11_isStuck_24 (by decide) ?_
      refine tm_lcp [0, 2] rfl ?_
      exact ih x8 M7 _ h J
set_option maxHeartbeats 4000000 in
set_option maxRecDepth 100000 in
theorem okX11_isStuck {g : tG} {a1 : Int32} {M : tM} {v : Int32} {Mz : tM} (h : fX11_isStuck a1 M = some ((v, Mz))) : TMet g yX11_isStuck (Cond.code yX11_isStuck cX11_isStuck 3 (some .boolean) :: tgd) rmX11_isStuck [tr 11 0, ti a1] M (some (ti v)) Mz 0 0 := by
  have key : TW g iX11_isStuck rmX11_isStuck 0 0 (some (ti v)) Mz 0 0 0 [(0, tr 11 0), (1, ti a1)] [] M := by
    rw [fX11_isStuck] at h
    refine tm_aload_n dX11_isStuck_0 rfl rfl ?_
    refine tm_iload_n dX11_isStuck_1 rfl rfl ?_
    obtain ⟨M2, hc1, h⟩ := obind_some h
    refine tm_callV kX11 rfl (avs := [ti a1]) (st := []) (okX11_markFirst hc1) wcX11_286.1 wcX11_286.2.1 wcX11_286.2.2.1 wcX11_286.2.2.2 ⟨rfl, rfl, Nat.le_of_ble_eq_true rfl, Nat.le_of_ble_eq_true rfl⟩ rfl (Nat.le_of_ble_eq_true rfl) ⟨Nat.zero_le _, Nat.zero_le _⟩ dX11_isStuck_2 ?_
    refine tm_aload_n dX11_isStuck_5 rfl rfl ?_
    obtain ⟨x3, hc4, h⟩ := obind_some h
    refine tm_callV kX11 rfl (avs := []) (st := []) (okX11_leastThatMay hc4) wcX11_290.1 wcX11_290.2.1 wcX11_290.2.2.1 wcX11_290.2.2.2 ⟨rfl, rfl, Nat.le_of_ble_eq_true rfl, Nat.le_of_ble_eq_true rfl⟩ rfl (Nat.le_of_ble_eq_true rfl) ⟨Nat.zero_le _, Nat.zero_le _⟩ dX11_isStuck_6 ?_
    refine tm_istore_n (lc' := [(2, ti x3), (0, tr 11 0), (1, ti a1)]) dX11_isStuck_9 rfl (by decide) rfl ?_
    obtain ⟨w10, hE11, h⟩ := obind_some h
    refine tm_lcp [0, 2] rfl ?_
    refine okX11_isStuck_l10  FU x3 M2 _ hE11 (fun M12 e => ?_)
    subst e
    refine tm_aload_n dX11_isStuck_27 rfl rfl ?_
    obtain ⟨x13, hc14, h⟩ := obind_some h
    refine tm_callV kX11 rfl (avs := []) (st := []) (okX11_leastLeft hc14) wcX11_297.1 wcX11_297.2.1 wcX11_297.2.2.1 wcX11_297.2.2.2 ⟨rfl, rfl, Nat.le_of_ble_eq_true rfl, Nat.le_of_ble_eq_true rfl⟩ rfl (Nat.le_of_ble_eq_true rfl) ⟨Nat.zero_le _, Nat.zero_le _⟩ dX11_isStuck_28 ?_
    refine tm_if_lt (tgt := 38) dX11_isStuck_31 (by decide) (fun c15 => ?_) (fun c15 => ?_)
    · rw [if_pos c15] at h
      refine tm_iconst (v := 0) dX11_isStuck_38 (by decide) ?_
      obtain ⟨rfl, rfl⟩ := pj2 h
      exact tm_zret (by decide) rfl dX11_isStuck_39
    · rw [if_neg c15] at h
      refine tm_iconst (v := 1) dX11_isStuck_34 (by decide) ?_
      refine tm_goto (tgt := 39) dX11_isStuck_35 (by decide) ?_
      obtain ⟨rfl, rfl⟩ := pj2 h
      exact tm_zret (by decide) rfl dX11_isStuck_39
  exact TMet.of (by decide) (Nat.le_of_ble_eq_true rfl) key
theorem wcX11_300 : tCB RX11 300 yX11_isStuck cX11_isStuck 3 (some .boolean) 1 ∧ Cond.methodLink RX11 300 yX11_isStuck ∈ tgd ∧ Cond.instanceMethod yX11_isStuck ∈ tgd ∧ Cond.selects RX11 yX11_isStuck yX11_isStuck ∈ tgd := ⟨⟨(tgd_t 1592 (by decide +kernel) (by decide +kernel)), (tgd_t 10 (by decide +kernel) (by decide +kernel)), by decide, by decide +kernel⟩, (tgd_t 1589 (by decide +kernel) (by decide +kernel)), (tgd_t 1591 (by decide +kernel) (by decide +kernel)), (tgd_p 68 (by decide +kernel) (by decide +kernel))⟩
abbrev iX11_barred : tY := (RX11, cX11_barred, 3, some .int, "barred")
abbrev rmX11_barred : Room := { frames := 4, cells := 0, slots := 0, locals := 124 }
def fX11_barred (a1 : Int32) (M : tM) : Option (Int32 × tM) :=
  if (mI M 11 0 2) = 0 then (
  some (((-4), M))
  ) else (
  (fX11_balance M).bind fun (x2, M4) =>
  if x2 = (-9) then (
  some (((-4), M4))
  ) else (
  if x2 = (-6) then (
  some (((-6), M4))
  ) else (
  if a1 = 0 then (
  some ((0, M4))
  ) else (
  (fX11_isStuck 0 M4).bind fun (x8, M10) =>
  if x8 = 0 then (
  some ((0, M10))
  ) else (
  some (((-4), M10))
  )
  )
  )
  )
  )
set_option maxHeartbeats 4000000 in
set_option maxRecDepth 100000 in
theorem okX11_barred {g : tG} {a1 : Int32} {M : tM} {v : Int32} {Mz : tM} (h : fX11_barred a1 M = some ((v, Mz))) : TMet g yX11_barred (Cond.code yX11_barred cX11_barred 3 (some .int) :: tgd) rmX11_barred [tr 11 0, ti a1] M (some (ti v)) Mz 0 0 := by
  have key : TW g iX11_barred rmX11_barred 0 0 (some (ti v)) Mz 0 0 0 [(0, tr 11 0), (1, ti a1)] [] M := by
    rw [fX11_barred] at h
    refine tm_aload_n dX11_barred_0 rfl rfl ?_
    refine tm_get kX11 rfl (j := 2) (by decide) wfX11_202 dX11_barred_1 (v := ti (mI M 11 0 2)) rfl ?_
    refine tm_if_ne (tgt := 10) dX11_barred_4 (by decide) (fun c1 => ?_) (fun c1 => ?_)
    · rw [if_neg c1] at h
      refine tm_aload_n dX11_barred_10 rfl rfl ?_
      obtain ⟨⟨x2, M4⟩, hc3, h⟩ := obind_some h
      dsimp only at h
      refine tm_callV kX11 rfl (avs := []) (st := []) (okX11_balance hc3) wcX11_280.1 wcX11_280.2.1 wcX11_280.2.2.1 wcX11_280.2.2.2 ⟨rfl, rfl, Nat.le_of_ble_eq_true rfl, Nat.le_of_ble_eq_true rfl⟩ rfl (Nat.le_of_ble_eq_true rfl) ⟨Nat.zero_le _, Nat.zero_le _⟩ dX11_barred_11 ?_
      refine tm_istore_n (lc' := [(2, ti x2), (0, tr 11 0), (1, ti a1)]) dX11_barred_14 rfl (by decide) rfl ?_
      refine tm_iload_n dX11_barred_15 rfl rfl ?_
      refine tm_bipush (v := (-9)) dX11_barred_16 (by decide) ?_
      refine tm_icmp_ne (tgt := 24) dX11_barred_18 (by decide) (fun c5 => ?_) (fun c5 => ?_)
      · rw [if_neg c5] at h
        refine tm_iload_n dX11_barred_24 rfl rfl ?_
        refine tm_bipush (v := (-6)) dX11_barred_25 (by decide) ?_
        refine tm_icmp_ne (tgt := 35) dX11_barred_27 (by decide) (fun c6 => ?_) (fun c6 => ?_)
        · rw [if_neg c6] at h
          refine tm_iload_n dX11_barred_35 rfl rfl ?_
          refine tm_if_eq (tgt := 52) dX11_barred_36 (by decide) (fun c7 => ?_) (fun c7 => ?_)
          · rw [if_pos c7] at h
            refine tm_iconst (v := 0) dX11_barred_52 (by decide) ?_
            obtain ⟨rfl, rfl⟩ := pj2 h
            exact tm_iret rfl dX11_barred_53
          · rw [if_neg c7] at h
            refine tm_aload_n dX11_barred_39 rfl rfl ?_
            refine tm_iconst (v := 0) dX11_barred_40 (by decide) ?_
            obtain ⟨⟨x8, M10⟩, hc9, h⟩ := obind_some h
            dsimp only at h
            refine tm_callV kX11 rfl (avs := [ti 0]) (st := []) (okX11_isStuck hc9) wcX11_300.1 wcX11_300.2.1 wcX11_300.2.2.1 wcX11_300.2.2.2 ⟨rfl, rfl, Nat.le_of_ble_eq_true rfl, Nat.le_of_ble_eq_true rfl⟩ rfl (Nat.le_of_ble_eq_true rfl) ⟨Nat.zero_le _, Nat.zero_le _⟩ dX11_barred_41 ?_
            refine tm_if_eq (tgt := 52) dX11_barred_44 (by decide) (fun c11 => ?_) (fun c11 => ?_)
            · rw [if_pos c11] at h
              refine tm_iconst (v := 0) dX11_barred_52 (by decide) ?_
              obtain ⟨rfl, rfl⟩ := pj2 h
              exact tm_iret rfl dX11_barred_53
            · rw [if_neg c11] at h
              refine tm_bipush (v := (-4)) dX11_barred_47 (by decide) ?_
              refine tm_goto (tgt := 53) dX11_barred_49 (by decide) ?_
              obtain ⟨rfl, rfl⟩ := pj2 h
              exact tm_iret rfl dX11_barred_53
        · rw [if_pos c6] at h
          refine tm_bipush (v := (-6)) dX11_barred_30 (by decide) ?_
          refine tm_goto (tgt := 53) dX11_barred_32 (by decide) ?_
          obtain ⟨rfl, rfl⟩ := pj2 h
          exact tm_iret rfl dX11_barred_53
      · rw [if_pos c5] at h
        refine tm_bipush (v := (-4)) dX11_barred_21 (by decide) ?_
        obtain ⟨rfl, rfl⟩ := pj2 h
        exact tm_iret rfl dX11_barred_23
    · rw [if_pos c1] at h
      refine tm_bipush (v := (-4)) dX11_barred_7 (by decide) ?_
      obtain ⟨rfl, rfl⟩ := pj2 h
      exact tm_iret rfl dX11_barred_9
  exact TMet.of (by decide) (Nat.le_of_ble_eq_true rfl) key
theorem wcX11_304 : tCB RX11 304 yX11_barred cX11_barred 3 (some .int) 1 ∧ Cond.methodLink RX11 304 yX11_barred ∈ tgd ∧ Cond.instanceMethod yX11_barred ∈ tgd ∧ Cond.selects RX11 yX11_barred yX11_barred ∈ tgd := ⟨⟨(tgd_t 1588 (by decide +kernel) (by decide +kernel)), (tgd_t 10 (by decide +kernel) (by decide +kernel)), by decide, by decide +kernel⟩, (tgd_t 1585 (by decide +kernel) (by decide +kernel)), (tgd_t 1587 (by decide +kernel) (by decide +kernel)), (tgd_p 67 (by decide +kernel) (by decide +kernel))⟩
abbrev iX11_stuck : tY := (RX11, cX11_stuck, 2, some .int, "stuck")
abbrev rmX11_stuck : Room := { frames := 5, cells := 0, slots := 0, locals := 146 }
def fX11_stuck  (M : tM) : Option (Int32 × tM) :=
  (fX11_barred 0 M).bind fun (x1, M3) =>
  if 0 ≤ x1 then (
  (fX11_isStuck 0 M3).bind fun (x5, M7) =>
  if x5 = 0 then (
  some ((0, M7))
  ) else (
  some ((1, M7))
  )
  ) else (
  some ((x1, M3))
  )
set_option maxHeartbeats 4000000 in
set_option maxRecDepth 100000 in
theorem okX11_stuck {g : tG}  {M : tM} {v : Int32} {Mz : tM} (h : fX11_stuck  M = some ((v, Mz))) : TMet g yX11_stuck (Cond.code yX11_stuck cX11_stuck 2 (some .int) :: tgd) rmX11_stuck [tr 11 0] M (some (ti v)) Mz 0 0 := by
  have key : TW g iX11_stuck rmX11_stuck 0 0 (some (ti v)) Mz 0 0 0 [(0, tr 11 0)] [] M := by
    rw [fX11_stuck] at h
    refine tm_aload_n dX11_stuck_0 rfl rfl ?_
    refine tm_iconst (v := 0) dX11_stuck_1 (by decide) ?_
    obtain ⟨⟨x1, M3⟩, hc2, h⟩ := obind_some h
    dsimp only at h
    refine tm_callV kX11 rfl (avs := [ti 0]) (st := []) (okX11_barred hc2) wcX11_304.1 wcX11_304.2.1 wcX11_304.2.2.1 wcX11_304.2.2.2 ⟨rfl, rfl, Nat.le_of_ble_eq_true rfl, Nat.le_of_ble_eq_true rfl⟩ rfl (Nat.le_of_ble_eq_true rfl) ⟨Nat.zero_le _, Nat.zero_le _⟩ dX11_stuck_2 ?_
    refine tm_istore_n (lc' := [(1, ti x1), (0, tr 11 0)]) dX11_stuck_5 rfl (by decide) rfl ?_
    refine tm_iload_n dX11_stuck_6 rfl rfl ?_
    refine tm_if_ge (tgt := 14) dX11_stuck_7 (by decide) (fun c4 => ?_) (fun c4 => ?_)
    · rw [if_pos c4] at h
      refine tm_aload_n dX11_stuck_14 rfl rfl ?_
      refine tm_iconst (v := 0) dX11_stuck_15 (by decide) ?_
      obtain ⟨⟨x5, M7⟩, hc6, h⟩ := obind_some h
      dsimp only at h
      refine tm_callV kX11 rfl (avs := [ti 0]) (st := []) (okX11_isStuck hc6) wcX11_300.1 wcX11_300.2.1 wcX11_300.2.2.1 wcX11_300.2.2.2 ⟨rfl, rfl, Nat.le_of_ble_eq_true rfl, Nat.le_of_ble_eq_true rfl⟩ rfl (Nat.le_of_ble_eq_true rfl) ⟨Nat.zero_le _, Nat.zero_le _⟩ dX11_stuck_16 ?_
      refine tm_if_eq (tgt := 26) dX11_stuck_19 (by decide) (fun c8 => ?_) (fun c8 => ?_)
      · rw [if_pos c8] at h
        refine tm_iconst (v := 0) dX11_stuck_26 (by decide) ?_
        obtain ⟨rfl, rfl⟩ := pj2 h
        exact tm_iret rfl dX11_stuck_27
      · rw [if_neg c8] at h
        refine tm_iconst (v := 1) dX11_stuck_22 (by decide) ?_
        refine tm_goto (tgt := 27) dX11_stuck_23 (by decide) ?_
        obtain ⟨rfl, rfl⟩ := pj2 h
        exact tm_iret rfl dX11_stuck_27
    · rw [if_neg c4] at h
      refine tm_iload_n dX11_stuck_10 rfl rfl ?_
      refine tm_goto (tgt := 27) dX11_stuck_11 (by decide) ?_
      obtain ⟨rfl, rfl⟩ := pj2 h
      exact tm_iret rfl dX11_stuck_27
  exact TMet.of (by decide) (Nat.le_of_ble_eq_true rfl) key
abbrev iX11_supply : tY := (RX11, cX11_supply, 4, none, "supply")
abbrev rmX11_supply : Room := { frames := 0, cells := 0, slots := 0, locals := 0 }
def fX11_supply_l2 (z1 : Int32) : Nat → Int32 → tM → Option (tM)
  | 0, _, _ => none
  | n + 1, y2, M =>
    if (mI M 11 0 12) ≤ y2 then (
    some M
    ) else (
    chk (inb y2 (mN M 1214 0)) <|
    Option.bind (α := Int32) (
    if (mI M 1214 0 (y2.toNatClampNeg)) = z1 then (
    chk (inb z1 (mN M 1239 0)) <|
    chk (inb ((4 * y2) + (mI M 1239 0 (z1.toNatClampNeg))) (mN M 1216 0)) <|
    chk (inb y2 (mN M 1238 0)) <|
    some ((mI M 1216 0 (((4 * y2) + (mI M 1239 0 (z1.toNatClampNeg))).toNatClampNeg)) - (mI M 1238 0 (y2.toNatClampNeg)))
    ) else (
    some 0
    )
    ) fun x4 =>
    Option.bind (α := tM) (
    if x4 ≤ 0 then (
    some M
    ) else (
    chk (inb y2 (mN M 1238 0)) <|
    chk (inb y2 (mN M 1238 0)) <|
    bnd (sI M 1238 0 (y2.toNatClampNeg) ((mI M 1238 0 (y2.toNatClampNeg)) + x4)) fun M10 =>
    chk (inb y2 (mN M10 1241 0)) <|
    chk (inb y2 (mN M10 1241 0)) <|
    bnd (sI M10 1241 0 (y2.toNatClampNeg) ((mI M10 1241 0 (y2.toNatClampNeg)) + x4)) fun M13 =>
    some M13
    )
    ) fun M8 =>
    bnd (y2 + 1) fun x14 =>
    fX11_supply_l2 z1 n x14 M8
    )
def fX11_supply (a1 : Int32) (M : tM) : Option (tM) :=
  Option.bind (fX11_supply_l2 a1 FU 0 M) fun M17 =>
  some M17
set_option maxHeartbeats 4000000 in
set_option maxRecDepth 100000 in
theorem okX11_supply_l2 {g : tG} (z1 : Int32) {r : Option tV} {Mz : tM} : ∀ (n : Nat) (y2 : Int32) (M : tM) (w : tM), fX11_supply_l2 z1 n y2 M = some w → (∀ (Mw : tM), Mw = w → TW g iX11_supply rmX11_supply 0 0 r Mz 0 0 77 [] [] Mw) → TW g iX11_supply rmX11_supply 0 0 r Mz 0 0 2 [(0, tr 11 0), (1, ti z1), (2, ti y2)] [] M := by
  intro n
  induction n with
  | zero => intro y2 M w h; cases h
  | succ n ih =>
    intro y2 M w h J
    rw [fX11_supply_l2] at h
    refine tm_iload_n dX11_supply_2 rfl rfl ?_
    refine tm_aload_n dX11_supply_3 rfl rfl ?_
    refine tm_get kX11 rfl (j := 12) (by decide) wfX11_209 dX11_supply_4 (v := ti (mI M 11 0 12)) rfl ?_
    refine tm_icmp_ge (tgt := 77) dX11_supply_7 (by decide) (fun c1 => ?_) (fun c1 => ?_)
    · rw [if_pos c1] at h
      obtain rfl := Option.some.inj h
      refine tm_lcp [] rfl ?_
      exact J _ rfl
    · rw [if_neg c1] at h
      refine tm_aload_n dX11_supply_10 rfl rfl ?_
      refine tm_get kX11 rfl (j := 14) (by decide) wfX11_44 dX11_supply_11 (v := tr 1214 0) rfl ?_
      refine tm_iload_n dX11_supply_14 rfl rfl ?_
      obtain ⟨b2, h⟩ := chk_some h
      refine tm_iald rfl dX11_supply_15 (inb_vp b2) ?_
      refine tm_iload_n dX11_supply_16 rfl rfl ?_
      obtain ⟨x4, hE5, h⟩ := obind_some h
      have J6 : TW g iX11_supply rmX11_supply 0 0 r Mz 0 0 46 [(0, tr 11 0), (1, ti z1), (2, ti y2)] [ti x4] M := by
        refine tm_istore_n (lc' := [(3, ti x4), (0, tr 11 0), (1, ti z1), (2, ti y2)]) dX11_supply_46 rfl (by decide) rfl ?_
        refine tm_iload_n dX11_supply_47 rfl rfl ?_
        obtain ⟨M8, hE9, h⟩ := obind_some h
        have J10 : TW g iX11_supply rmX11_supply 0 0 r Mz 0 0 71 [(0, tr 11 0), (1, ti z1), (2, ti y2)] [] M8 := by
          obtain ⟨x14, ex14, h⟩ := bnd_some h
          refine tm_iinc (v := x14) (lc' := [(2, ti x14), (0, tr 11 0), (1, ti z1)]) dX11_supply_71 rfl (by rw [ex14]; rfl) (by decide) rfl ?_
          refine tm_goto (tgt := 2) dX11_supply_74 (by decide) ?_
          refine tm_lcp [0, 1, 2] rfl ?_
          exact ih x14 M8 _ h J
        refine tm_if_le (tgt := 71) dX11_supply_48 (by decide) (fun c7 => ?_) (fun c7 => ?_)
        · rw [if_pos c7] at hE9
          obtain rfl := Option.some.inj hE9
          refine tm_lcp [0, 1, 2] rfl ?_
          exact J10
        · rw [if_neg c7] at hE9
          refine tm_aload_n dX11_supply_51 rfl rfl ?_
          refine tm_get kX11 rfl (j := 38) (by decide) wfX11_98 dX11_supply_52 (v := tr 1238 0) rfl ?_
          refine tm_iload_n dX11_supply_55 rfl rfl ?_
          refine tm_dup2 dX11_supply_56 rfl rfl ?_
          obtain ⟨b8, hE9⟩ := chk_some hE9
          refine tm_iald rfl dX11_supply_57 (inb_vp b8) ?_
          refine tm_iload_n dX11_supply_58 rfl rfl ?_
          refine tm_iadd dX11_supply_59 ?_
          obtain ⟨b9, hE9⟩ := chk_some hE9
          obtain ⟨M10, eM10, hE9⟩ := bnd_some hE9
          refine tm_iast rfl dX11_supply_60 (inb_vp b9) ?_
          refine tm_nmM eM10 ?_
          refine tm_aload_n dX11_supply_61 rfl rfl ?_
          refine tm_get kX11 rfl (j := 41) (by decide) wfX11_107 dX11_supply_62 (v := tr 1241 0) rfl ?_
          refine tm_iload_n dX11_supply_65 rfl rfl ?_
          refine tm_dup2 dX11_supply_66 rfl rfl ?_
          obtain ⟨b11, hE9⟩ := chk_some hE9
          refine tm_iald rfl dX11_supply_67 (inb_vp b11) ?_
          refine tm_iload_n dX11_supply_68 rfl rfl ?_
          refine tm_iadd dX11_supply_69 ?_
          obtain ⟨b12, hE9⟩ := chk_some hE9
          obtain ⟨M13, eM13, hE9⟩ := bnd_some hE9
          refine tm_iast rfl dX11_supply_70 (inb_vp b12) ?_
          refine tm_nmM eM13 ?_
          obtain rfl := Option.some.inj hE9
          refine tm_lcp [0, 1, 2] rfl ?_
          exact J10
      refine tm_icmp_ne (tgt := 45) dX11_supply_17 (by decide) (fun c3 => ?_) (fun c3 => ?_)
      · rw [if_neg c3] at hE5
        refine tm_iconst (v := 0) dX11_supply_45 (by decide) ?_
        obtain rfl := Option.some.inj hE5
        refine tm_lcp [0, 1, 2] rfl ?_
        exact J6
      · rw [if_pos c3] at hE5
        refine tm_aload_n dX11_supply_20 rfl rfl ?_
        refine tm_get kX11 rfl (j := 16) (by decide) wfX11_50 dX11_supply_21 (v := tr 1216 0) rfl ?_
        refine tm_iconst (v := 4) dX11_supply_24 (by decide) ?_
        refine tm_iload_n dX11_supply_25 rfl rfl ?_
        refine tm_imul dX11_supply_26 ?_
        refine tm_aload_n dX11_supply_27 rfl rfl ?_
        refine tm_get kX11 rfl (j := 39) (by decide) wfX11_101 dX11_supply_28 (v := tr 1239 0) rfl ?_
        refine tm_iload_n dX11_supply_31 rfl rfl ?_
        obtain ⟨b4, hE5⟩ := chk_some hE5
        refine tm_iald rfl dX11_supply_32 (inb_vp b4) ?_
        refine tm_iadd dX11_supply_33 ?_
        obtain ⟨b5, hE5⟩ := chk_some hE5
        refine tm_iald rfl dX11_supply_34 (inb_vp b5) ?_
        refine tm_aload_n dX11_supply_35 rfl rfl ?_
        refine tm_get kX11 rfl (j := 38) (by decide) wfX11_98 dX11_supply_36 (v := tr 1238 0) rfl ?_
        refine tm_iload_n dX11_supply_39 rfl rfl ?_
        obtain ⟨b6, hE5⟩ := chk_some hE5
        refine tm_iald rfl dX11_supply_40 (inb_vp b6) ?_
        refine tm_isub dX11_supply_41 ?_
        refine tm_goto (tgt := 46) dX11_supply_42 (by decide) ?_
        obtain rfl := Option.some.inj hE5
        refine tm_lcp [0, 1, 2] rfl ?_
        exact J6
set_option maxHeartbeats 4000000 in
set_option maxRecDepth 100000 in
theorem okX11_supply {g : tG} {a1 : Int32} {M : tM} {Mz : tM} (h : fX11_supply a1 M = some Mz) : TMet g yX11_supply (Cond.code yX11_supply cX11_supply 4 (none) :: tgd) rmX11_supply [tr 11 0, ti a1] M none Mz 0 0 := by
  have key : TW g iX11_supply rmX11_supply 0 0 none Mz 0 0 0 [(0, tr 11 0), (1, ti a1)] [] M := by
    rw [fX11_supply] at h
    refine tm_iconst (v := 0) dX11_supply_0 (by decide) ?_
    refine tm_istore_n (lc' := [(2, ti 0), (0, tr 11 0), (1, ti a1)]) dX11_supply_1 rfl (by decide) rfl ?_
    obtain ⟨w15, hE16, h⟩ := obind_some h
    refine tm_lcp [0, 1, 2] rfl ?_
    refine okX11_supply_l2 a1 FU 0 M _ hE16 (fun M17 e => ?_)
    subst e
    obtain rfl := Option.some.inj h
    exact tm_vret rfl dX11_supply_77
  exact TMet.of (by decide) (Nat.le_of_ble_eq_true rfl) key
theorem wcX11_308 : tCB RX11 308 yX11_supply cX11_supply 4 (none) 1 ∧ Cond.methodLink RX11 308 yX11_supply ∈ tgd ∧ Cond.instanceMethod yX11_supply ∈ tgd ∧ Cond.selects RX11 yX11_supply yX11_supply ∈ tgd := ⟨⟨(tgd_t 1620 (by decide +kernel) (by decide +kernel)), (tgd_t 10 (by decide +kernel) (by decide +kernel)), by decide, by decide +kernel⟩, (tgd_t 1617 (by decide +kernel) (by decide +kernel)), (tgd_t 1619 (by decide +kernel) (by decide +kernel)), (tgd_p 74 (by decide +kernel) (by decide +kernel))⟩
abbrev iX11_lacks : tY := (RX11, cX11_lacks, 5, some .int, "lacks")
abbrev rmX11_lacks : Room := { frames := 5, cells := 0, slots := 0, locals := 146 }
def fX11_lacks_l24 (z1 : Int32) : Nat → Int32 → tM → Option (tM)
  | 0, _, _ => none
  | n + 1, y3, M =>
    if (mI M 11 0 12) ≤ y3 then (
    some M
    ) else (
    chk (inb y3 (mN M 1241 0)) <|
    bnd (sI M 1241 0 (y3.toNatClampNeg) 0) fun M10 =>
    bnd (y3 + 1) fun x11 =>
    fX11_lacks_l24 z1 n x11 M10
    )
def fX11_lacks_l50 (z1 : Int32) : Nat → tM → Option (tM)
  | 0, _ => none
  | n + 1, M =>
    (fX11_leastLeft M).bind fun x17 =>
    if x17 < 0 then (
    some M
    ) else (
    (fX11_leastThatMay M).bind fun x20 =>
    Option.bind (α := tM) (
    if x20 < 0 then (
    (fX11_leastLeft M).bind fun x23 =>
    (fX11_supply x23 M).bind fun M26 =>
    some M26
    ) else (
    (fX11_fireMark x20 M).bind fun M28 =>
    some M28
    )
    ) fun M23 =>
    fX11_lacks_l50 z1 n M23
    )
def fX11_lacks_l98 (z1 : Int32) (z3 : Int32) : Nat → Int32 → tM → Option (tM)
  | 0, _, _ => none
  | n + 1, y4, M =>
    if y4 = 0 then (
    some M
    ) else (
    chk (inb z3 (mN M 1241 0)) <|
    if (mI M 1241 0 (z3.toNatClampNeg)) ≤ 0 then (
    some M
    ) else (
    chk (inb z3 (mN M 1241 0)) <|
    chk (inb z3 (mN M 1241 0)) <|
    bnd (sI M 1241 0 (z3.toNatClampNeg) ((mI M 1241 0 (z3.toNatClampNeg)) - 1)) fun M38 =>
    (fX11_isStuck 1 M38).bind fun (x39, M41) =>
    if x39 = 0 then (
    fX11_lacks_l98 z1 z3 n y4 M41
    ) else (
    chk (inb z3 (mN M41 1241 0)) <|
    chk (inb z3 (mN M41 1241 0)) <|
    bnd (sI M41 1241 0 (z3.toNatClampNeg) ((mI M41 1241 0 (z3.toNatClampNeg)) + 1)) fun M45 =>
    fX11_lacks_l98 z1 z3 n 0 M45
    )
    )
    )
def fX11_lacks_l87 (z1 : Int32) : Nat → Int32 → tM → Option (tM)
  | 0, _, _ => none
  | n + 1, y3, M =>
    if (mI M 11 0 12) ≤ y3 then (
    some M
    ) else (
    Option.bind (fX11_lacks_l98 z1 y3 FU 1 M) fun M48 =>
    bnd (y3 + 1) fun x49 =>
    fX11_lacks_l87 z1 n x49 M48
    )
def fX11_lacks (a1 : Int32) (M : tM) : Option (Int32 × tM) :=
  (fX11_isLine a1 M).bind fun x1 =>
  if x1 = 0 then (
  some (((-1), M))
  ) else (
  (fX11_barred 0 M).bind fun (x4, M6) =>
  if 0 ≤ x4 then (
  Option.bind (fX11_lacks_l24 a1 FU 0 M6) fun M14 =>
  (fX11_markFirst 0 M14).bind fun M16 =>
  Option.bind (fX11_lacks_l50 a1 FU M16) fun M31 =>
  Option.bind (fX11_lacks_l87 a1 FU 0 M31) fun M52 =>
  chk (inb a1 (mN M52 1241 0)) <|
  some ((mI M52 1241 0 (a1.toNatClampNeg), M52))
  ) else (
  some ((x4, M6))
  )
  )
set_option maxHeartbeats 4000000 in
set_option maxRecDepth 100000 in
theorem okX11_lacks_l24 {g : tG} (z1 : Int32) {r : Option tV} {Mz : tM} : ∀ (n : Nat) (y3 : Int32) (M : tM) (w : tM), fX11_lacks_l24 z1 n y3 M = some w → (∀ (Mw : tM), Mw = w → TW g iX11_lacks rmX11_lacks 0 0 r Mz 0 0 45 [(0, tr 11 0), (1, ti z1)] [] Mw) → TW g iX11_lacks rmX11_lacks 0 0 r Mz 0 0 24 [(0, tr 11 0), (1, ti z1), (3, ti y3)] [] M := by
  intro n
  induction n with
  | zero => intro y3 M w h; cases h
  | succ n ih =>
    intro y3 M w h J
    rw [fX11_lacks_l24] at h
    refine tm_iload_n dX11_lacks_24 rfl rfl ?_
    refine tm_aload_n dX11_lacks_25 rfl rfl ?_
    refine tm_get kX11 rfl (j := 12) (by decide) wfX11_209 dX11_lacks_26 (v := ti (mI M 11 0 12)) rfl ?_
    refine tm_icmp_ge (tgt := 45) dX11_lacks_29 (by decide) (fun c8 => ?_) (fun c8 => ?_)
    · rw [if_pos c8] at h
      obtain rfl := Option.some.inj h
      refine tm_lcp [0, 1] rfl ?_
      exact J _ rfl
    · rw [if_neg c8] at h
      refine tm_aload_n dX11_lacks_32 rfl rfl ?_
      refine tm_get kX11 rfl (j := 41) (by decide) wfX11_107 dX11_lacks_33 (v := tr 1241 0) rfl ?_
      refine tm_iload_n dX11_lacks_36 rfl rfl ?_
      refine tm_iconst (v := 0) dX11_lacks_37 (by decide) ?_
      obtain ⟨b9, h⟩ := chk_some h
      obtain ⟨M10, eM10, h⟩ := bnd_some h
      refine tm_iast rfl dX11_lacks_38 (inb_vp b9) ?_
      refine tm_nmM eM10 ?_
      obtain ⟨x11, ex11, h⟩ := bnd_some h
      refine tm_iinc (v := x11) (lc' := [(3, ti x11), (0, tr 11 0), (1, ti z1)]) dX11_lacks_39 rfl (by rw [ex11]; rfl) (by decide) rfl ?_
      refine tm_goto (tgt := 24) dX11_lacks_42 (by decide) ?_
      refine tm_lcp [0, 1, 3] rfl ?_
      exact ih x11 M10 _ h J
set_option maxHeartbeats 4000000 in
set_option maxRecDepth 100000 in
theorem okX11_lacks_l50 {g : tG} (z1 : Int32) {r : Option tV} {Mz : tM} : ∀ (n : Nat)  (M : tM) (w : tM), fX11_lacks_l50 z1 n M = some w → (∀ (Mw : tM), Mw = w → TW g iX11_lacks rmX11_lacks 0 0 r Mz 0 0 85 [(0, tr 11 0), (1, ti z1)] [] Mw) → TW g iX11_lacks rmX11_lacks 0 0 r Mz 0 0 50 [(0, tr 11 0), (1, ti z1)] [] M := by
  intro n
  induction n with
  | zero => intro M w h; cases h
  | succ n ih =>
    intro M w h J
    rw [fX11_lacks_l50] at h
    refine tm_aload_n dX11_lacks_50 rfl rfl ?_
    obtain ⟨x17, hc18, h⟩ := obind_some h
    refine tm_callV kX11 rfl (avs := []) (st := []) (okX11_leastLeft hc18) wcX11_297.1 wcX11_297.2.1 wcX11_297.2.2.1 wcX11_297.2.2.2 ⟨rfl, rfl, Nat.le_of_ble_eq_true rfl, Nat.le_of_ble_eq_true rfl⟩ rfl (Nat.le_of_ble_eq_true rfl) ⟨Nat.zero_le _, Nat.zero_le _⟩ dX11_lacks_51 ?_
    refine tm_if_lt (tgt := 85) dX11_lacks_54 (by decide) (fun c19 => ?_) (fun c19 => ?_)
    · rw [if_pos c19] at h
      obtain rfl := Option.some.inj h
      refine tm_lcp [0, 1] rfl ?_
      exact J _ rfl
    · rw [if_neg c19] at h
      refine tm_aload_n dX11_lacks_57 rfl rfl ?_
      obtain ⟨x20, hc21, h⟩ := obind_some h
      refine tm_callV kX11 rfl (avs := []) (st := []) (okX11_leastThatMay hc21) wcX11_290.1 wcX11_290.2.1 wcX11_290.2.2.1 wcX11_290.2.2.2 ⟨rfl, rfl, Nat.le_of_ble_eq_true rfl, Nat.le_of_ble_eq_true rfl⟩ rfl (Nat.le_of_ble_eq_true rfl) ⟨Nat.zero_le _, Nat.zero_le _⟩ dX11_lacks_58 ?_
      refine tm_istore_n (lc' := [(3, ti x20), (0, tr 11 0), (1, ti z1)]) dX11_lacks_61 rfl (by decide) rfl ?_
      refine tm_iload_n dX11_lacks_62 rfl rfl ?_
      obtain ⟨M23, hE24, h⟩ := obind_some h
      have J25 : TW g iX11_lacks rmX11_lacks 0 0 r Mz 0 0 82 [(0, tr 11 0), (1, ti z1)] [] M23 := by
        refine tm_goto (tgt := 50) dX11_lacks_82 (by decide) ?_
        refine tm_lcp [0, 1] rfl ?_
        exact ih M23 _ h J
      refine tm_if_lt (tgt := 74) dX11_lacks_63 (by decide) (fun c22 => ?_) (fun c22 => ?_)
      · rw [if_pos c22] at hE24
        refine tm_aload_n dX11_lacks_74 rfl rfl ?_
        refine tm_aload_n dX11_lacks_75 rfl rfl ?_
        obtain ⟨x23, hc24, hE24⟩ := obind_some hE24
        refine tm_callV kX11 rfl (avs := []) (st := [tr 11 0]) (okX11_leastLeft hc24) wcX11_297.1 wcX11_297.2.1 wcX11_297.2.2.1 wcX11_297.2.2.2 ⟨rfl, rfl, Nat.le_of_ble_eq_true rfl, Nat.le_of_ble_eq_true rfl⟩ rfl (Nat.le_of_ble_eq_true rfl) ⟨Nat.zero_le _, Nat.zero_le _⟩ dX11_lacks_76 ?_
        obtain ⟨M26, hc25, hE24⟩ := obind_some hE24
        refine tm_callV kX11 rfl (avs := [ti x23]) (st := []) (okX11_supply hc25) wcX11_308.1 wcX11_308.2.1 wcX11_308.2.2.1 wcX11_308.2.2.2 ⟨rfl, rfl, Nat.le_of_ble_eq_true rfl, Nat.le_of_ble_eq_true rfl⟩ rfl (Nat.le_of_ble_eq_true rfl) ⟨Nat.zero_le _, Nat.zero_le _⟩ dX11_lacks_79 ?_
        obtain rfl := Option.some.inj hE24
        refine tm_lcp [0, 1] rfl ?_
        exact J25
      · rw [if_neg c22] at hE24
        refine tm_aload_n dX11_lacks_66 rfl rfl ?_
        refine tm_iload_n dX11_lacks_67 rfl rfl ?_
        obtain ⟨M28, hc27, hE24⟩ := obind_some hE24
        refine tm_callV kX11 rfl (avs := [ti x20]) (st := []) (okX11_fireMark hc27) wcX11_293.1 wcX11_293.2.1 wcX11_293.2.2.1 wcX11_293.2.2.2 ⟨rfl, rfl, Nat.le_of_ble_eq_true rfl, Nat.le_of_ble_eq_true rfl⟩ rfl (Nat.le_of_ble_eq_true rfl) ⟨Nat.zero_le _, Nat.zero_le _⟩ dX11_lacks_68 ?_
        refine tm_goto (tgt := 82) dX11_lacks_71 (by decide) ?_
        obtain rfl := Option.some.inj hE24
        refine tm_lcp [0, 1] rfl ?_
        exact J25
set_option maxHeartbeats 4000000 in
set_option maxRecDepth 100000 in
theorem okX11_lacks_l98 {g : tG} (z1 : Int32) (z3 : Int32) {r : Option tV} {Mz : tM} : ∀ (n : Nat) (y4 : Int32) (M : tM) (w : tM), fX11_lacks_l98 z1 z3 n y4 M = some w → (∀ (Mw : tM), Mw = w → TW g iX11_lacks rmX11_lacks 0 0 r Mz 0 0 146 [(0, tr 11 0), (1, ti z1), (3, ti z3)] [] Mw) → TW g iX11_lacks rmX11_lacks 0 0 r Mz 0 0 98 [(0, tr 11 0), (1, ti z1), (3, ti z3), (4, ti y4)] [] M := by
  intro n
  induction n with
  | zero => intro y4 M w h; cases h
  | succ n ih =>
    intro y4 M w h J
    rw [fX11_lacks_l98] at h
    refine tm_iload dX11_lacks_98 rfl ?_
    refine tm_if_eq (tgt := 146) dX11_lacks_100 (by decide) (fun c33 => ?_) (fun c33 => ?_)
    · rw [if_pos c33] at h
      obtain rfl := Option.some.inj h
      refine tm_lcp [0, 1, 3] rfl ?_
      exact J _ rfl
    · rw [if_neg c33] at h
      refine tm_aload_n dX11_lacks_103 rfl rfl ?_
      refine tm_get kX11 rfl (j := 41) (by decide) wfX11_107 dX11_lacks_104 (v := tr 1241 0) rfl ?_
      refine tm_iload_n dX11_lacks_107 rfl rfl ?_
      obtain ⟨b34, h⟩ := chk_some h
      refine tm_iald rfl dX11_lacks_108 (inb_vp b34) ?_
      refine tm_if_le (tgt := 146) dX11_lacks_109 (by decide) (fun c35 => ?_) (fun c35 => ?_)
      · rw [if_pos c35] at h
        obtain rfl := Option.some.inj h
        refine tm_lcp [0, 1, 3] rfl ?_
        exact J _ rfl
      · rw [if_neg c35] at h
        refine tm_aload_n dX11_lacks_112 rfl rfl ?_
        refine tm_get kX11 rfl (j := 41) (by decide) wfX11_107 dX11_lacks_113 (v := tr 1241 0) rfl ?_
        refine tm_iload_n dX11_lacks_116 rfl rfl ?_
        refine tm_dup2 dX11_lacks_117 rfl rfl ?_
        obtain ⟨b36, h⟩ := chk_some h
        refine tm_iald rfl dX11_lacks_118 (inb_vp b36) ?_
        refine tm_iconst (v := 1) dX11_lacks_119 (by decide) ?_
        refine tm_isub dX11_lacks_120 ?_
        obtain ⟨b37, h⟩ := chk_some h
        obtain ⟨M38, eM38, h⟩ := bnd_some h
        refine tm_iast rfl dX11_lacks_121 (inb_vp b37) ?_
        refine tm_nmM eM38 ?_
        refine tm_aload_n dX11_lacks_122 rfl rfl ?_
        refine tm_iconst (v := 1) dX11_lacks_123 (by decide) ?_
        obtain ⟨⟨x39, M41⟩, hc40, h⟩ := obind_some h
        dsimp only at h
        refine tm_callV kX11 rfl (avs := [ti 1]) (st := []) (okX11_isStuck hc40) wcX11_300.1 wcX11_300.2.1 wcX11_300.2.2.1 wcX11_300.2.2.2 ⟨rfl, rfl, Nat.le_of_ble_eq_true rfl, Nat.le_of_ble_eq_true rfl⟩ rfl (Nat.le_of_ble_eq_true rfl) ⟨Nat.zero_le _, Nat.zero_le _⟩ dX11_lacks_124 ?_
        refine tm_if_eq (tgt := 98) dX11_lacks_127 (by decide) (fun c42 => ?_) (fun c42 => ?_)
        · rw [if_pos c42] at h
          refine tm_lcp [0, 1, 3, 4] rfl ?_
          exact ih y4 M41 _ h J
        · rw [if_neg c42] at h
          refine tm_aload_n dX11_lacks_130 rfl rfl ?_
          refine tm_get kX11 rfl (j := 41) (by decide) wfX11_107 dX11_lacks_131 (v := tr 1241 0) rfl ?_
          refine tm_iload_n dX11_lacks_134 rfl rfl ?_
          refine tm_dup2 dX11_lacks_135 rfl rfl ?_
          obtain ⟨b43, h⟩ := chk_some h
          refine tm_iald rfl dX11_lacks_136 (inb_vp b43) ?_
          refine tm_iconst (v := 1) dX11_lacks_137 (by decide) ?_
          refine tm_iadd dX11_lacks_138 ?_
          obtain ⟨b44, h⟩ := chk_some h
          obtain ⟨M45, eM45, h⟩ := bnd_some h
          refine tm_iast rfl dX11_lacks_139 (inb_vp b44) ?_
          refine tm_nmM eM45 ?_
          refine tm_iconst (v := 0) dX11_lacks_140 (by decide) ?_
          refine tm_istore (lc' := [(4, ti 0), (0, tr 11 0), (1, ti z1), (3, ti z3)]) dX11_lacks_141 (by decide) rfl ?_
          refine tm_goto (tgt := 98) dX11_lacks_143 (by decide) ?_
          refine tm_lcp [0, 1, 3, 4] rfl ?_
          exact ih 0 M45 _ h J
set_option maxHeartbeats 4000000 in
set_option maxRecDepth 100000 in
theorem okX11_lacks_l87 {g : tG} (z1 : Int32) {r : Option tV} {Mz : tM} : ∀ (n : Nat) (y3 : Int32) (M : tM) (w : tM), fX11_lacks_l87 z1 n y3 M = some w → (∀ (Mw : tM), Mw = w → TW g iX11_lacks rmX11_lacks 0 0 r Mz 0 0 152 [(0, tr 11 0), (1, ti z1)] [] Mw) → TW g iX11_lacks rmX11_lacks 0 0 r Mz 0 0 87 [(0, tr 11 0), (1, ti z1), (3, ti y3)] [] M := by
  intro n
  induction n with
  | zero => intro y3 M w h; cases h
  | succ n ih =>
    intro y3 M w h J
    rw [fX11_lacks_l87] at h
    refine tm_iload_n dX11_lacks_87 rfl rfl ?_
    refine tm_aload_n dX11_lacks_88 rfl rfl ?_
    refine tm_get kX11 rfl (j := 12) (by decide) wfX11_209 dX11_lacks_89 (v := ti (mI M 11 0 12)) rfl ?_
    refine tm_icmp_ge (tgt := 152) dX11_lacks_92 (by decide) (fun c32 => ?_) (fun c32 => ?_)
    · rw [if_pos c32] at h
      obtain rfl := Option.some.inj h
      refine tm_lcp [0, 1] rfl ?_
      exact J _ rfl
    · rw [if_neg c32] at h
      refine tm_iconst (v := 1) dX11_lacks_95 (by decide) ?_
      refine tm_istore (lc' := [(4, ti 1), (0, tr 11 0), (1, ti z1), (3, ti y3)]) dX11_lacks_96 (by decide) rfl ?_
      obtain ⟨w46, hE47, h⟩ := obind_some h
      refine tm_lcp [0, 1, 3, 4] rfl ?_
      refine okX11_lacks_l98 z1 y3 FU 1 M _ hE47 (fun M48 e => ?_)
      subst e
      obtain ⟨x49, ex49, h⟩ := bnd_some h
      refine tm_iinc (v := x49) (lc' := [(3, ti x49), (0, tr 11 0), (1, ti z1)]) dX11_lacks_146 rfl (by rw [ex49]; rfl) (by decide) rfl ?_
      refine tm_goto (tgt := 87) dX11_lacks_149 (by decide) ?_
      refine tm_lcp [0, 1, 3] rfl ?_
      exact ih x49 M48 _ h J
set_option maxHeartbeats 4000000 in
set_option maxRecDepth 100000 in
theorem okX11_lacks {g : tG} {a1 : Int32} {M : tM} {v : Int32} {Mz : tM} (h : fX11_lacks a1 M = some ((v, Mz))) : TMet g yX11_lacks (Cond.code yX11_lacks cX11_lacks 5 (some .int) :: tgd) rmX11_lacks [tr 11 0, ti a1] M (some (ti v)) Mz 0 0 := by
  have key : TW g iX11_lacks rmX11_lacks 0 0 (some (ti v)) Mz 0 0 0 [(0, tr 11 0), (1, ti a1)] [] M := by
    rw [fX11_lacks] at h
    refine tm_aload_n dX11_lacks_0 rfl rfl ?_
    refine tm_iload_n dX11_lacks_1 rfl rfl ?_
    obtain ⟨x1, hc2, h⟩ := obind_some h
    refine tm_callV kX11 rfl (avs := [ti a1]) (st := []) (okX11_isLine hc2) wcX11_232.1 wcX11_232.2.1 wcX11_232.2.2.1 wcX11_232.2.2.2 ⟨rfl, rfl, Nat.le_of_ble_eq_true rfl, Nat.le_of_ble_eq_true rfl⟩ rfl (Nat.le_of_ble_eq_true rfl) ⟨Nat.zero_le _, Nat.zero_le _⟩ dX11_lacks_2 ?_
    refine tm_if_ne (tgt := 10) dX11_lacks_5 (by decide) (fun c3 => ?_) (fun c3 => ?_)
    · rw [if_neg c3] at h
      refine tm_aload_n dX11_lacks_10 rfl rfl ?_
      refine tm_iconst (v := 0) dX11_lacks_11 (by decide) ?_
      obtain ⟨⟨x4, M6⟩, hc5, h⟩ := obind_some h
      dsimp only at h
      refine tm_callV kX11 rfl (avs := [ti 0]) (st := []) (okX11_barred hc5) wcX11_304.1 wcX11_304.2.1 wcX11_304.2.2.1 wcX11_304.2.2.2 ⟨rfl, rfl, Nat.le_of_ble_eq_true rfl, Nat.le_of_ble_eq_true rfl⟩ rfl (Nat.le_of_ble_eq_true rfl) ⟨Nat.zero_le _, Nat.zero_le _⟩ dX11_lacks_12 ?_
      refine tm_istore_n (lc' := [(2, ti x4), (0, tr 11 0), (1, ti a1)]) dX11_lacks_15 rfl (by decide) rfl ?_
      refine tm_iload_n dX11_lacks_16 rfl rfl ?_
      refine tm_if_ge (tgt := 22) dX11_lacks_17 (by decide) (fun c7 => ?_) (fun c7 => ?_)
      · rw [if_pos c7] at h
        refine tm_iconst (v := 0) dX11_lacks_22 (by decide) ?_
        refine tm_istore_n (lc' := [(3, ti 0), (2, ti x4), (0, tr 11 0), (1, ti a1)]) dX11_lacks_23 rfl (by decide) rfl ?_
        obtain ⟨w12, hE13, h⟩ := obind_some h
        refine tm_lcp [0, 1, 3] rfl ?_
        refine okX11_lacks_l24 a1 FU 0 M6 _ hE13 (fun M14 e => ?_)
        subst e
        refine tm_aload_n dX11_lacks_45 rfl rfl ?_
        refine tm_iconst (v := 0) dX11_lacks_46 (by decide) ?_
        obtain ⟨M16, hc15, h⟩ := obind_some h
        refine tm_callV kX11 rfl (avs := [ti 0]) (st := []) (okX11_markFirst hc15) wcX11_286.1 wcX11_286.2.1 wcX11_286.2.2.1 wcX11_286.2.2.2 ⟨rfl, rfl, Nat.le_of_ble_eq_true rfl, Nat.le_of_ble_eq_true rfl⟩ rfl (Nat.le_of_ble_eq_true rfl) ⟨Nat.zero_le _, Nat.zero_le _⟩ dX11_lacks_47 ?_
        obtain ⟨w29, hE30, h⟩ := obind_some h
        refine tm_lcp [0, 1] rfl ?_
        refine okX11_lacks_l50 a1 FU M16 _ hE30 (fun M31 e => ?_)
        subst e
        refine tm_iconst (v := 0) dX11_lacks_85 (by decide) ?_
        refine tm_istore_n (lc' := [(3, ti 0), (0, tr 11 0), (1, ti a1)]) dX11_lacks_86 rfl (by decide) rfl ?_
        obtain ⟨w50, hE51, h⟩ := obind_some h
        refine tm_lcp [0, 1, 3] rfl ?_
        refine okX11_lacks_l87 a1 FU 0 M31 _ hE51 (fun M52 e => ?_)
        subst e
        refine tm_aload_n dX11_lacks_152 rfl rfl ?_
        refine tm_get kX11 rfl (j := 41) (by decide) wfX11_107 dX11_lacks_153 (v := tr 1241 0) rfl ?_
        refine tm_iload_n dX11_lacks_156 rfl rfl ?_
        obtain ⟨b53, h⟩ := chk_some h
        refine tm_iald rfl dX11_lacks_157 (inb_vp b53) ?_
        obtain ⟨rfl, rfl⟩ := pj2 h
        exact tm_iret rfl dX11_lacks_158
      · rw [if_neg c7] at h
        refine tm_iload_n dX11_lacks_20 rfl rfl ?_
        obtain ⟨rfl, rfl⟩ := pj2 h
        exact tm_iret rfl dX11_lacks_21
    · rw [if_pos c3] at h
      refine tm_iconst (v := (-1)) dX11_lacks_8 (by decide) ?_
      obtain ⟨rfl, rfl⟩ := pj2 h
      exact tm_iret rfl dX11_lacks_9
  exact TMet.of (by decide) (Nat.le_of_ble_eq_true rfl) key
theorem wfX11_123 : Cond.fieldLink RX11 123 "EvenFlowModel" "trialStores" "[I" ∈ tgd := (tgd_t 1271 (by decide +kernel) (by decide +kernel))
abbrev iX11_stored : tY := (RX11, cX11_stored, 3, some .int, "stored")
abbrev rmX11_stored : Room := { frames := 0, cells := 0, slots := 0, locals := 0 }
def fX11_stored_l4  (M : tM) : Nat → Int32 → Int32 → Option (Int32)
  | 0, _, _ => none
  | n + 1, y1, y2 =>
    if (mI M 11 0 12) ≤ y2 then (
    some y1
    ) else (
    chk (inb y2 (mN M 1246 0)) <|
    bnd (y1 + (mI M 1246 0 (y2.toNatClampNeg))) fun x3 =>
    bnd (y2 + 1) fun x4 =>
    fX11_stored_l4 M n x3 x4
    )
def fX11_stored  (M : tM) : Option (Int32) :=
  Option.bind (fX11_stored_l4 M FU 0 0) fun x7 =>
  some x7
set_option maxHeartbeats 4000000 in
set_option maxRecDepth 100000 in
theorem okX11_stored_l4 {g : tG}  (M : tM) {r : Option tV} {Mz : tM} : ∀ (n : Nat) (y1 : Int32) (y2 : Int32) (w : Int32), fX11_stored_l4 M n y1 y2 = some w → (∀ (w1 : Int32), w1 = w → TW g iX11_stored rmX11_stored 0 0 r Mz 0 0 27 [(1, ti w1)] [] M) → TW g iX11_stored rmX11_stored 0 0 r Mz 0 0 4 [(0, tr 11 0), (1, ti y1), (2, ti y2)] [] M := by
  intro n
  induction n with
  | zero => intro y1 y2 w h; cases h
  | succ n ih =>
    intro y1 y2 w h J
    rw [fX11_stored_l4] at h
    refine tm_iload_n dX11_stored_4 rfl rfl ?_
    refine tm_aload_n dX11_stored_5 rfl rfl ?_
    refine tm_get kX11 rfl (j := 12) (by decide) wfX11_209 dX11_stored_6 (v := ti (mI M 11 0 12)) rfl ?_
    refine tm_icmp_ge (tgt := 27) dX11_stored_9 (by decide) (fun c1 => ?_) (fun c1 => ?_)
    · rw [if_pos c1] at h
      obtain rfl := Option.some.inj h
      refine tm_lcp [1] rfl ?_
      exact J _ rfl
    · rw [if_neg c1] at h
      refine tm_iload_n dX11_stored_12 rfl rfl ?_
      refine tm_aload_n dX11_stored_13 rfl rfl ?_
      refine tm_get kX11 rfl (j := 46) (by decide) wfX11_123 dX11_stored_14 (v := tr 1246 0) rfl ?_
      refine tm_iload_n dX11_stored_17 rfl rfl ?_
      obtain ⟨b2, h⟩ := chk_some h
      refine tm_iald rfl dX11_stored_18 (inb_vp b2) ?_
      refine tm_iadd dX11_stored_19 ?_
      obtain ⟨x3, ex3, h⟩ := bnd_some h
      refine tm_nmI ex3 ?_
      refine tm_istore_n (lc' := [(1, ti x3), (0, tr 11 0), (2, ti y2)]) dX11_stored_20 rfl (by decide) rfl ?_
      obtain ⟨x4, ex4, h⟩ := bnd_some h
      refine tm_iinc (v := x4) (lc' := [(2, ti x4), (1, ti x3), (0, tr 11 0)]) dX11_stored_21 rfl (by rw [ex4]; rfl) (by decide) rfl ?_
      refine tm_goto (tgt := 4) dX11_stored_24 (by decide) ?_
      refine tm_lcp [0, 1, 2] rfl ?_
      exact ih x3 x4 _ h J
set_option maxHeartbeats 4000000 in
set_option maxRecDepth 100000 in
theorem okX11_stored {g : tG}  {M : tM} {v : Int32} (h : fX11_stored  M = some v) : TMet g yX11_stored (Cond.code yX11_stored cX11_stored 3 (some .int) :: tgd) rmX11_stored [tr 11 0] M (some (ti v)) M 0 0 := by
  have key : TW g iX11_stored rmX11_stored 0 0 (some (ti v)) M 0 0 0 [(0, tr 11 0)] [] M := by
    rw [fX11_stored] at h
    refine tm_iconst (v := 0) dX11_stored_0 (by decide) ?_
    refine tm_istore_n (lc' := [(1, ti 0), (0, tr 11 0)]) dX11_stored_1 rfl (by decide) rfl ?_
    refine tm_iconst (v := 0) dX11_stored_2 (by decide) ?_
    refine tm_istore_n (lc' := [(2, ti 0), (1, ti 0), (0, tr 11 0)]) dX11_stored_3 rfl (by decide) rfl ?_
    obtain ⟨w5, hE6, h⟩ := obind_some h
    refine tm_lcp [0, 1, 2] rfl ?_
    refine okX11_stored_l4 M FU 0 0 _ hE6 (fun x7 e => ?_)
    subst e
    refine tm_iload_n dX11_stored_27 rfl rfl ?_
    obtain rfl := Option.some.inj h
    exact tm_iret rfl dX11_stored_28
  exact TMet.of (by decide) (Nat.le_of_ble_eq_true rfl) key
abbrev iX11_storeFirst : tY := (RX11, cX11_storeFirst, 2, none, "storeFirst")
abbrev rmX11_storeFirst : Room := { frames := 0, cells := 0, slots := 0, locals := 0 }
def fX11_storeFirst_l2  : Nat → Int32 → tM → Option (tM)
  | 0, _, _ => none
  | n + 1, y1, M =>
    if (mI M 11 0 12) ≤ y1 then (
    some M
    ) else (
    chk (inb y1 (mN M 1238 0)) <|
    chk (inb y1 (mN M 1246 0)) <|
    bnd (sI M 1246 0 (y1.toNatClampNeg) (mI M 1238 0 (y1.toNatClampNeg))) fun M4 =>
    bnd (y1 + 1) fun x5 =>
    fX11_storeFirst_l2 n x5 M4
    )
def fX11_storeFirst  (M : tM) : Option (tM) :=
  Option.bind (fX11_storeFirst_l2 FU 0 M) fun M8 =>
  some M8
set_option maxHeartbeats 4000000 in
set_option maxRecDepth 100000 in
theorem okX11_storeFirst_l2 {g : tG}  {r : Option tV} {Mz : tM} : ∀ (n : Nat) (y1 : Int32) (M : tM) (w : tM), fX11_storeFirst_l2 n y1 M = some w → (∀ (Mw : tM), Mw = w → TW g iX11_storeFirst rmX11_storeFirst 0 0 r Mz 0 0 28 [] [] Mw) → TW g iX11_storeFirst rmX11_storeFirst 0 0 r Mz 0 0 2 [(0, tr 11 0), (1, ti y1)] [] M := by
  intro n
  induction n with
  | zero => intro y1 M w h; cases h
  | succ n ih =>
    intro y1 M w h J
    rw [fX11_storeFirst_l2] at h
    refine tm_iload_n dX11_storeFirst_2 rfl rfl ?_
    refine tm_aload_n dX11_storeFirst_3 rfl rfl ?_
    refine tm_get kX11 rfl (j := 12) (by decide) wfX11_209 dX11_storeFirst_4 (v := ti (mI M 11 0 12)) rfl ?_
    refine tm_icmp_ge (tgt := 28) dX11_storeFirst_7 (by decide) (fun c1 => ?_) (fun c1 => ?_)
    · rw [if_pos c1] at h
      obtain rfl := Option.some.inj h
      refine tm_lcp [] rfl ?_
      exact J _ rfl
    · rw [if_neg c1] at h
      refine tm_aload_n dX11_storeFirst_10 rfl rfl ?_
      refine tm_get kX11 rfl (j := 46) (by decide) wfX11_123 dX11_storeFirst_11 (v := tr 1246 0) rfl ?_
      refine tm_iload_n dX11_storeFirst_14 rfl rfl ?_
      refine tm_aload_n dX11_storeFirst_15 rfl rfl ?_
      refine tm_get kX11 rfl (j := 38) (by decide) wfX11_98 dX11_storeFirst_16 (v := tr 1238 0) rfl ?_
      refine tm_iload_n dX11_storeFirst_19 rfl rfl ?_
      obtain ⟨b2, h⟩ := chk_some h
      refine tm_iald rfl dX11_storeFirst_20 (inb_vp b2) ?_
      obtain ⟨b3, h⟩ := chk_some h
      obtain ⟨M4, eM4, h⟩ := bnd_some h
      refine tm_iast rfl dX11_storeFirst_21 (inb_vp b3) ?_
      refine tm_nmM eM4 ?_
      obtain ⟨x5, ex5, h⟩ := bnd_some h
      refine tm_iinc (v := x5) (lc' := [(1, ti x5), (0, tr 11 0)]) dX11_storeFirst_22 rfl (by rw [ex5]; rfl) (by decide) rfl ?_
      refine tm_goto (tgt := 2) dX11_storeFirst_25 (by decide) ?_
      refine tm_lcp [0, 1] rfl ?_
      exact ih x5 M4 _ h J
set_option maxHeartbeats 4000000 in
set_option maxRecDepth 100000 in
theorem okX11_storeFirst {g : tG}  {M : tM} {Mz : tM} (h : fX11_storeFirst  M = some Mz) : TMet g yX11_storeFirst (Cond.code yX11_storeFirst cX11_storeFirst 2 (none) :: tgd) rmX11_storeFirst [tr 11 0] M none Mz 0 0 := by
  have key : TW g iX11_storeFirst rmX11_storeFirst 0 0 none Mz 0 0 0 [(0, tr 11 0)] [] M := by
    rw [fX11_storeFirst] at h
    refine tm_iconst (v := 0) dX11_storeFirst_0 (by decide) ?_
    refine tm_istore_n (lc' := [(1, ti 0), (0, tr 11 0)]) dX11_storeFirst_1 rfl (by decide) rfl ?_
    obtain ⟨w6, hE7, h⟩ := obind_some h
    refine tm_lcp [0, 1] rfl ?_
    refine okX11_storeFirst_l2  FU 0 M _ hE7 (fun M8 e => ?_)
    subst e
    obtain rfl := Option.some.inj h
    exact tm_vret rfl dX11_storeFirst_28
  exact TMet.of (by decide) (Nat.le_of_ble_eq_true rfl) key
abbrev iX11_storeMore : tY := (RX11, cX11_storeMore, 2, none, "storeMore")
abbrev rmX11_storeMore : Room := { frames := 0, cells := 0, slots := 0, locals := 0 }
def fX11_storeMore_l2  : Nat → Int32 → tM → Option (tM)
  | 0, _, _ => none
  | n + 1, y1, M =>
    if (mI M 11 0 12) ≤ y1 then (
    some M
    ) else (
    chk (inb y1 (mN M 1238 0)) <|
    chk (inb y1 (mN M 1246 0)) <|
    Option.bind (α := Int32) (
    if (mI M 1238 0 (y1.toNatClampNeg)) ≤ (mI M 1246 0 (y1.toNatClampNeg)) then (
    chk (inb y1 (mN M 1246 0)) <|
    some (mI M 1246 0 (y1.toNatClampNeg))
    ) else (
    chk (inb y1 (mN M 1238 0)) <|
    some (mI M 1238 0 (y1.toNatClampNeg))
    )
    ) fun x5 =>
    chk (inb y1 (mN M 1246 0)) <|
    bnd (sI M 1246 0 (y1.toNatClampNeg) x5) fun M9 =>
    bnd (y1 + 1) fun x10 =>
    fX11_storeMore_l2 n x10 M9
    )
def fX11_storeMore  (M : tM) : Option (tM) :=
  Option.bind (fX11_storeMore_l2 FU 0 M) fun M13 =>
  some M13
set_option maxHeartbeats 4000000 in
set_option maxRecDepth 100000 in
theorem okX11_storeMore_l2 {g : tG}  {r : Option tV} {Mz : tM} : ∀ (n : Nat) (y1 : Int32) (M : tM) (w : tM), fX11_storeMore_l2 n y1 M = some w → (∀ (Mw : tM), Mw = w → TW g iX11_storeMore rmX11_storeMore 0 0 r Mz 0 0 52 [] [] Mw) → TW g iX11_storeMore rmX11_storeMore 0 0 r Mz 0 0 2 [(0, tr 11 0), (1, ti y1)] [] M := by
  intro n
  induction n with
  | zero => intro y1 M w h; cases h
  | succ n ih =>
    intro y1 M w h J
    rw [fX11_storeMore_l2] at h
    refine tm_iload_n dX11_storeMore_2 rfl rfl ?_
    refine tm_aload_n dX11_storeMore_3 rfl rfl ?_
    refine tm_get kX11 rfl (j := 12) (by decide) wfX11_209 dX11_storeMore_4 (v := ti (mI M 11 0 12)) rfl ?_
    refine tm_icmp_ge (tgt := 52) dX11_storeMore_7 (by decide) (fun c1 => ?_) (fun c1 => ?_)
    · rw [if_pos c1] at h
      obtain rfl := Option.some.inj h
      refine tm_lcp [] rfl ?_
      exact J _ rfl
    · rw [if_neg c1] at h
      refine tm_aload_n dX11_storeMore_10 rfl rfl ?_
      refine tm_get kX11 rfl (j := 46) (by decide) wfX11_123 dX11_storeMore_11 (v := tr 1246 0) rfl ?_
      refine tm_iload_n dX11_storeMore_14 rfl rfl ?_
      refine tm_aload_n dX11_storeMore_15 rfl rfl ?_
      refine tm_get kX11 rfl (j := 38) (by decide) wfX11_98 dX11_storeMore_16 (v := tr 1238 0) rfl ?_
      refine tm_iload_n dX11_storeMore_19 rfl rfl ?_
      obtain ⟨b2, h⟩ := chk_some h
      refine tm_iald rfl dX11_storeMore_20 (inb_vp b2) ?_
      refine tm_aload_n dX11_storeMore_21 rfl rfl ?_
      refine tm_get kX11 rfl (j := 46) (by decide) wfX11_123 dX11_storeMore_22 (v := tr 1246 0) rfl ?_
      refine tm_iload_n dX11_storeMore_25 rfl rfl ?_
      obtain ⟨b3, h⟩ := chk_some h
      refine tm_iald rfl dX11_storeMore_26 (inb_vp b3) ?_
      obtain ⟨x5, hE6, h⟩ := obind_some h
      have J7 : TW g iX11_storeMore rmX11_storeMore 0 0 r Mz 0 0 45 [(0, tr 11 0), (1, ti y1)] [ti x5, ti y1, tr 1246 0] M := by
        obtain ⟨b8, h⟩ := chk_some h
        obtain ⟨M9, eM9, h⟩ := bnd_some h
        refine tm_iast rfl dX11_storeMore_45 (inb_vp b8) ?_
        refine tm_nmM eM9 ?_
        obtain ⟨x10, ex10, h⟩ := bnd_some h
        refine tm_iinc (v := x10) (lc' := [(1, ti x10), (0, tr 11 0)]) dX11_storeMore_46 rfl (by rw [ex10]; rfl) (by decide) rfl ?_
        refine tm_goto (tgt := 2) dX11_storeMore_49 (by decide) ?_
        refine tm_lcp [0, 1] rfl ?_
        exact ih x10 M9 _ h J
      refine tm_icmp_le (tgt := 39) dX11_storeMore_27 (by decide) (fun c4 => ?_) (fun c4 => ?_)
      · rw [if_pos c4] at hE6
        refine tm_aload_n dX11_storeMore_39 rfl rfl ?_
        refine tm_get kX11 rfl (j := 46) (by decide) wfX11_123 dX11_storeMore_40 (v := tr 1246 0) rfl ?_
        refine tm_iload_n dX11_storeMore_43 rfl rfl ?_
        obtain ⟨b5, hE6⟩ := chk_some hE6
        refine tm_iald rfl dX11_storeMore_44 (inb_vp b5) ?_
        obtain rfl := Option.some.inj hE6
        refine tm_lcp [0, 1] rfl ?_
        exact J7
      · rw [if_neg c4] at hE6
        refine tm_aload_n dX11_storeMore_30 rfl rfl ?_
        refine tm_get kX11 rfl (j := 38) (by decide) wfX11_98 dX11_storeMore_31 (v := tr 1238 0) rfl ?_
        refine tm_iload_n dX11_storeMore_34 rfl rfl ?_
        obtain ⟨b6, hE6⟩ := chk_some hE6
        refine tm_iald rfl dX11_storeMore_35 (inb_vp b6) ?_
        refine tm_goto (tgt := 45) dX11_storeMore_36 (by decide) ?_
        obtain rfl := Option.some.inj hE6
        refine tm_lcp [0, 1] rfl ?_
        exact J7
set_option maxHeartbeats 4000000 in
set_option maxRecDepth 100000 in
theorem okX11_storeMore {g : tG}  {M : tM} {Mz : tM} (h : fX11_storeMore  M = some Mz) : TMet g yX11_storeMore (Cond.code yX11_storeMore cX11_storeMore 2 (none) :: tgd) rmX11_storeMore [tr 11 0] M none Mz 0 0 := by
  have key : TW g iX11_storeMore rmX11_storeMore 0 0 none Mz 0 0 0 [(0, tr 11 0)] [] M := by
    rw [fX11_storeMore] at h
    refine tm_iconst (v := 0) dX11_storeMore_0 (by decide) ?_
    refine tm_istore_n (lc' := [(1, ti 0), (0, tr 11 0)]) dX11_storeMore_1 rfl (by decide) rfl ?_
    obtain ⟨w11, hE12, h⟩ := obind_some h
    refine tm_lcp [0, 1] rfl ?_
    refine okX11_storeMore_l2  FU 0 M _ hE12 (fun M13 e => ?_)
    subst e
    obtain rfl := Option.some.inj h
    exact tm_vret rfl dX11_storeMore_52
  exact TMet.of (by decide) (Nat.le_of_ble_eq_true rfl) key
