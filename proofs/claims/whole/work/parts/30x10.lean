theorem wcX9_149 : tCB RX9 149 yX4_thingAt cX4_thingAt 2 (some .long) 1 ∧ Cond.methodLink RX9 149 yX4_thingAt ∈ tgd ∧ Cond.instanceMethod yX4_thingAt ∈ tgd ∧ Cond.selects RX4 yX4_thingAt yX4_thingAt ∈ tgd := ⟨⟨(tgd_t 1090 (by decide +kernel) (by decide +kernel)), (tgd_t 15 (by decide +kernel) (by decide +kernel)), by decide, by decide +kernel⟩, (tgd_t 1087 (by decide +kernel) (by decide +kernel)), (tgd_t 1088 (by decide +kernel) (by decide +kernel)), (tgd_t 1089 (by decide +kernel) (by decide +kernel))⟩
abbrev iX9_sumTaken : tY := (RX9, cX9_sumTaken, 7, some .long, "sumTaken")
abbrev rmX9_sumTaken : Room := { frames := 1, cells := 0, slots := 0, locals := 21 }
def fX9_sumTaken_l27 (z1 : Nat) (z4 : Nat) (z5 : Int32) (M : tM) : Nat → Int64 → Int32 → Option (Int64)
  | 0, _, _ => none
  | n + 1, y2, y6 =>
    if z5 ≤ y6 then (
    some y2
    ) else (
    (fX4_thingAt z4 y6 M).bind fun x8 =>
    bnd (y2 + x8) fun x10 =>
    bnd (y6 + 1) fun x11 =>
    fX9_sumTaken_l27 z1 z4 z5 M n x10 x11
    )
def fX9_sumTaken_l8 (z1 : Nat) (M : tM) : Nat → Int64 → (Option Nat) → Option (Int64)
  | 0, _, _ => none
  | n + 1, y2, y4 =>
    if y4 = none then (
    some y2
    ) else (
    Option.bind y4 fun i4 =>
    (fX4_takesIn i4 (mI M 7 z1 7) M).bind fun x5 =>
    Option.bind (fX9_sumTaken_l27 z1 i4 x5 M FU y2 0) fun x14 =>
    bnd (mR M 4 i4 12) fun r15 =>
    fX9_sumTaken_l8 z1 M n x14 r15
    )
def fX9_sumTaken (a1 : Option Nat) (M : tM) : Option (Int64) :=
  Option.bind a1 fun i1 =>
  bnd (mR M 7 i1 11) fun r2 =>
  Option.bind (fX9_sumTaken_l8 i1 M FU 0 r2) fun x18 =>
  some x18
set_option maxHeartbeats 4000000 in
set_option maxRecDepth 100000 in
theorem okX9_sumTaken_l27 {g : tG} (z1 : Nat) (z4 : Nat) (z5 : Int32) (M : tM) {r : Option tV} {Mz : tM} : ∀ (n : Nat) (y2 : Int64) (y6 : Int32) (w : Int64), fX9_sumTaken_l27 z1 z4 z5 M n y2 y6 = some w → (∀ (w2 : Int64), w2 = w → TW g iX9_sumTaken rmX9_sumTaken 0 0 r Mz 0 0 50 [(1, tr 7 z1), (2, tl w2), (4, tr 4 z4)] [] M) → TW g iX9_sumTaken rmX9_sumTaken 0 0 r Mz 0 0 27 [(1, tr 7 z1), (2, tl y2), (4, tr 4 z4), (5, ti z5), (6, ti y6)] [] M := by
  intro n
  induction n with
  | zero => intro y2 y6 w h; cases h
  | succ n ih =>
    intro y2 y6 w h J
    rw [fX9_sumTaken_l27] at h
    refine tm_iload dX9_sumTaken_27 rfl ?_
    refine tm_iload dX9_sumTaken_29 rfl ?_
    refine tm_icmp_ge (tgt := 50) dX9_sumTaken_31 (by decide) (fun c7 => ?_) (fun c7 => ?_)
    · rw [if_pos c7] at h
      obtain rfl := Option.some.inj h
      refine tm_lcp [1, 2, 4] rfl ?_
      exact J _ rfl
    · rw [if_neg c7] at h
      refine tm_lload_n dX9_sumTaken_34 rfl rfl ?_
      refine tm_aload dX9_sumTaken_35 rfl ?_
      refine tm_iload dX9_sumTaken_37 rfl ?_
      replace h := obind_some h
      obtain ⟨x8, hc9, h⟩ := h
      refine tm_callV kX4 rfl (avs := [ti y6]) (st := [tl y2]) (okX4_thingAt hc9) wcX9_149.1 wcX9_149.2.1 wcX9_149.2.2.1 wcX9_149.2.2.2 ⟨rfl, rfl, Nat.le_of_ble_eq_true rfl, Nat.le_of_ble_eq_true rfl⟩ rfl (Nat.le_of_ble_eq_true rfl) ⟨Nat.zero_le _, Nat.zero_le _⟩ dX9_sumTaken_39 ?_
      refine tm_ladd dX9_sumTaken_42 ?_
      replace h := bnd_some h
      obtain ⟨x10, ex10, h⟩ := h
      refine tm_nmL ex10 ?_
      refine tm_lstore_n (lc' := [(2, tl x10), (1, tr 7 z1), (4, tr 4 z4), (5, ti z5), (6, ti y6)]) dX9_sumTaken_43 rfl (by decide) rfl ?_
      replace h := bnd_some h
      obtain ⟨x11, ex11, h⟩ := h
      refine tm_iinc (v := x11) (lc' := [(6, ti x11), (2, tl x10), (1, tr 7 z1), (4, tr 4 z4), (5, ti z5)]) dX9_sumTaken_44 rfl (by rw [ex11]; rfl) (by decide) rfl ?_
      refine tm_goto (tgt := 27) dX9_sumTaken_47 (by decide) ?_
      refine tm_lcp [1, 2, 4, 5, 6] rfl ?_
      exact ih x10 x11 _ h J
set_option maxHeartbeats 4000000 in
set_option maxRecDepth 100000 in
theorem okX9_sumTaken_l8 {g : tG} (z1 : Nat) (M : tM) {r : Option tV} {Mz : tM} : ∀ (n : Nat) (y2 : Int64) (y4 : Option Nat) (w : Int64), fX9_sumTaken_l8 z1 M n y2 y4 = some w → (∀ (w2 : Int64), w2 = w → TW g iX9_sumTaken rmX9_sumTaken 0 0 r Mz 0 0 60 [(2, tl w2)] [] M) → TW g iX9_sumTaken rmX9_sumTaken 0 0 r Mz 0 0 8 [(1, tr 7 z1), (2, tl y2), (4, tq 4 y4)] [] M := by
  intro n
  induction n with
  | zero => intro y2 y4 w h; cases h
  | succ n ih =>
    intro y2 y4 w h J
    rw [fX9_sumTaken_l8] at h
    refine tm_aload dX9_sumTaken_8 rfl ?_
    refine tm_ifnull (k2 := 4) (q := y4) (tgt := 60) dX9_sumTaken_10 (by decide) (fun c3 => ?_) (fun c3 => ?_)
    · rw [if_pos c3] at h
      obtain rfl := Option.some.inj h
      refine tm_lcp [2] rfl ?_
      exact J _ rfl
    · rw [if_neg c3] at h
      refine tm_aload dX9_sumTaken_13 rfl ?_
      refine tm_aload_n dX9_sumTaken_15 rfl rfl ?_
      refine tm_get kX7 rfl (j := 7) (by decide) wfX9_57 dX9_sumTaken_16 (v := ti (mI M 7 z1 7)) rfl ?_
      replace h := obind_some h
      obtain ⟨i4, ei4, h⟩ := h
      subst ei4
      replace h := obind_some h
      obtain ⟨x5, hc6, h⟩ := h
      refine tm_callV kX4 rfl (avs := [ti (mI M 7 z1 7)]) (st := []) (okX4_takesIn hc6) wcX9_60.1 wcX9_60.2.1 wcX9_60.2.2.1 wcX9_60.2.2.2 ⟨rfl, rfl, Nat.le_of_ble_eq_true rfl, Nat.le_of_ble_eq_true rfl⟩ rfl (Nat.le_of_ble_eq_true rfl) ⟨Nat.zero_le _, Nat.zero_le _⟩ dX9_sumTaken_19 ?_
      refine tm_istore (lc' := [(5, ti x5), (1, tr 7 z1), (2, tl y2), (4, tr 4 i4)]) dX9_sumTaken_22 (by decide) rfl ?_
      refine tm_iconst (v := 0) dX9_sumTaken_24 (by decide) ?_
      refine tm_istore (lc' := [(6, ti 0), (5, ti x5), (1, tr 7 z1), (2, tl y2), (4, tr 4 i4)]) dX9_sumTaken_25 (by decide) rfl ?_
      replace h := obind_some h
      obtain ⟨w12, hE13, h⟩ := h
      refine tm_lcp [1, 2, 4, 5, 6] rfl ?_
      refine okX9_sumTaken_l27 z1 i4 x5 M FU y2 0 _ hE13 (fun x14 e => ?_)
      subst e
      refine tm_aload dX9_sumTaken_50 rfl ?_
      refine tm_get kX4 rfl (j := 12) (by decide) wfX9_64 dX9_sumTaken_52 (v := tq 4 (mR M 4 i4 12)) rfl ?_
      replace h := bnd_some h
      obtain ⟨r15, er15, h⟩ := h
      refine tm_nmQ er15 ?_
      refine tm_astore (lc' := [(4, tq 4 r15), (1, tr 7 z1), (2, tl x14)]) dX9_sumTaken_55 (by decide) rfl ?_
      refine tm_goto (tgt := 8) dX9_sumTaken_57 (by decide) ?_
      refine tm_lcp [1, 2, 4] rfl ?_
      exact ih x14 r15 _ h J
set_option maxHeartbeats 4000000 in
set_option maxRecDepth 100000 in
theorem okX9_sumTaken {g : tG} {a1 : Option Nat} {M : tM} {v : Int64} (h : fX9_sumTaken a1 M = some v) : TMet g yX9_sumTaken (Cond.code yX9_sumTaken cX9_sumTaken 7 (some .long) :: tgd) rmX9_sumTaken [tr 9 0, tq 7 a1] M (some (tl v)) M 0 0 := by
  have key : TW g iX9_sumTaken rmX9_sumTaken 0 0 (some (tl v)) M 0 0 0 [(0, tr 9 0), (1, tq 7 a1)] [] M := by
    rw [fX9_sumTaken] at h
    refine tm_lconst (v := 0) dX9_sumTaken_0 (by decide) ?_
    refine tm_lstore_n (lc' := [(2, tl 0), (0, tr 9 0), (1, tq 7 a1)]) dX9_sumTaken_1 rfl (by decide) rfl ?_
    refine tm_aload_n dX9_sumTaken_2 rfl rfl ?_
    replace h := obind_some h
    obtain ⟨i1, ei1, h⟩ := h
    subst ei1
    refine tm_get kX7 rfl (j := 11) (by decide) wfX9_50 dX9_sumTaken_3 (v := tq 4 (mR M 7 i1 11)) rfl ?_
    replace h := bnd_some h
    obtain ⟨r2, er2, h⟩ := h
    refine tm_nmQ er2 ?_
    refine tm_astore (lc' := [(4, tq 4 r2), (2, tl 0), (0, tr 9 0), (1, tr 7 i1)]) dX9_sumTaken_6 (by decide) rfl ?_
    replace h := obind_some h
    obtain ⟨w16, hE17, h⟩ := h
    refine tm_lcp [1, 2, 4] rfl ?_
    refine okX9_sumTaken_l8 i1 M FU 0 r2 _ hE17 (fun x18 e => ?_)
    subst e
    refine tm_lload_n dX9_sumTaken_60 rfl rfl ?_
    obtain rfl := Option.some.inj h
    exact tm_lret rfl dX9_sumTaken_61
  exact TMet.of (by decide) (Nat.le_of_ble_eq_true rfl) key
abbrev iX9_writeTrace : tY := (RX9, cX9_writeTrace, 2, none, "writeTrace")
abbrev rmX9_writeTrace : Room := { frames := 0, cells := 0, slots := 0, locals := 0 }
def fX9_writeTrace (a1 : Int32) (M : tM) : Option (tM) :=
  if 3 ≤ (mI M 9 0 6) then (
  some M
  ) else (
  chk (inb (mI M 9 0 6) (mN M 1005 0)) <|
  bnd (sI M 1005 0 ((mI M 9 0 6).toNatClampNeg) a1) fun M3 =>
  bnd (sI M3 9 0 6 ((mI M3 9 0 6) + 1)) fun M4 =>
  some M4
  )
set_option maxHeartbeats 4000000 in
set_option maxRecDepth 100000 in
theorem okX9_writeTrace {g : tG} {a1 : Int32} {M : tM} {Mz : tM} (h : fX9_writeTrace a1 M = some Mz) : TMet g yX9_writeTrace (Cond.code yX9_writeTrace cX9_writeTrace 2 (none) :: tgd) rmX9_writeTrace [tr 9 0, ti a1] M none Mz 0 0 := by
  have key : TW g iX9_writeTrace rmX9_writeTrace 0 0 none Mz 0 0 0 [(0, tr 9 0), (1, ti a1)] [] M := by
    rw [fX9_writeTrace] at h
    refine tm_aload_n dX9_writeTrace_0 rfl rfl ?_
    refine tm_get kX9 rfl (j := 6) (by decide) wfX9_47 dX9_writeTrace_1 (v := ti (mI M 9 0 6)) rfl ?_
    refine tm_iconst (v := 3) dX9_writeTrace_4 (by decide) ?_
    refine tm_icmp_ge (tgt := 28) dX9_writeTrace_5 (by decide) (fun c1 => ?_) (fun c1 => ?_)
    · rw [if_pos c1] at h
      obtain rfl := Option.some.inj h
      exact tm_vret rfl dX9_writeTrace_28
    · rw [if_neg c1] at h
      refine tm_aload_n dX9_writeTrace_8 rfl rfl ?_
      refine tm_get kX9 rfl (j := 5) (by decide) wfX9_11 dX9_writeTrace_9 (v := tr 1005 0) rfl ?_
      refine tm_aload_n dX9_writeTrace_12 rfl rfl ?_
      refine tm_get kX9 rfl (j := 6) (by decide) wfX9_47 dX9_writeTrace_13 (v := ti (mI M 9 0 6)) rfl ?_
      refine tm_iload_n dX9_writeTrace_16 rfl rfl ?_
      replace h := chk_some h
      obtain ⟨b2, h⟩ := h
      replace h := bnd_some h
      obtain ⟨M3, eM3, h⟩ := h
      refine tm_iast rfl dX9_writeTrace_17 (inb_vp b2) ?_
      refine tm_nmM eM3 ?_
      refine tm_aload_n dX9_writeTrace_18 rfl rfl ?_
      refine tm_dup dX9_writeTrace_19 rfl ?_
      refine tm_get kX9 rfl (j := 6) (by decide) wfX9_47 dX9_writeTrace_20 (v := ti (mI M3 9 0 6)) rfl ?_
      refine tm_iconst (v := 1) dX9_writeTrace_23 (by decide) ?_
      refine tm_iadd dX9_writeTrace_24 ?_
      replace h := bnd_some h
      obtain ⟨M4, eM4, h⟩ := h
      refine tm_put kX9 rfl (j := 6) (by decide) wfX9_47 rfl dX9_writeTrace_25 (fun _ => ⟨rfl, rfl⟩) (tPut_I ((mI M3 9 0 6) + 1) rfl) ?_
      refine tm_nmM eM4 ?_
      obtain rfl := Option.some.inj h
      exact tm_vret rfl dX9_writeTrace_28
  exact TMet.of (by decide) (Nat.le_of_ble_eq_true rfl) key
theorem wcX9_140 : tCB RX9 140 yX9_writeTrace cX9_writeTrace 2 (none) 1 ∧ Cond.methodLink RX9 140 yX9_writeTrace ∈ tgd ∧ Cond.instanceMethod yX9_writeTrace ∈ tgd ∧ Cond.selects RX9 yX9_writeTrace yX9_writeTrace ∈ tgd := ⟨⟨(tgd_t 1102 (by decide +kernel) (by decide +kernel)), (tgd_t 9 (by decide +kernel) (by decide +kernel)), by decide, by decide +kernel⟩, (tgd_t 1099 (by decide +kernel) (by decide +kernel)), (tgd_t 1101 (by decide +kernel) (by decide +kernel)), (tgd_p 46 (by decide +kernel) (by decide +kernel))⟩
theorem wfX9_81 : Cond.fieldLink RX9 81 "EvenFlow$Works" "taken" "J" ∈ tgd := (tgd_t 325 (by decide +kernel) (by decide +kernel))
theorem wfX9_143 : Cond.fieldLink RX9 143 "EvenFlow$Part" "k" "J" ∈ tgd := (tgd_t 415 (by decide +kernel) (by decide +kernel))
abbrev iX9_fixedBody : tY := (RX9, cX9_fixedBody, 2, some .long, "fixedBody")
abbrev rmX9_fixedBody : Room := { frames := 1, cells := 0, slots := 0, locals := 21 }
def fX9_fixedBody (a1 : Option Nat) (M : tM) : Option (Int64 × tM) :=
  (fX9_writeTrace 1 M).bind fun M2 =>
  Option.bind a1 fun i3 =>
  some (((mL M2 9 0 4) + (mL M2 7 i3 2), M2))
set_option maxHeartbeats 4000000 in
set_option maxRecDepth 100000 in
theorem okX9_fixedBody {g : tG} {a1 : Option Nat} {M : tM} {v : Int64} {Mz : tM} (h : fX9_fixedBody a1 M = some ((v, Mz))) : TMet g yX9_fixedBody (Cond.code yX9_fixedBody cX9_fixedBody 2 (some .long) :: tgd) rmX9_fixedBody [tr 9 0, tq 7 a1] M (some (tl v)) Mz 0 0 := by
  have key : TW g iX9_fixedBody rmX9_fixedBody 0 0 (some (tl v)) Mz 0 0 0 [(0, tr 9 0), (1, tq 7 a1)] [] M := by
    rw [fX9_fixedBody] at h
    refine tm_aload_n dX9_fixedBody_0 rfl rfl ?_
    refine tm_iconst (v := 1) dX9_fixedBody_1 (by decide) ?_
    replace h := obind_some h
    obtain ⟨M2, hc1, h⟩ := h
    refine tm_callV kX9 rfl (avs := [ti 1]) (st := []) (okX9_writeTrace hc1) wcX9_140.1 wcX9_140.2.1 wcX9_140.2.2.1 wcX9_140.2.2.2 ⟨rfl, rfl, Nat.le_of_ble_eq_true rfl, Nat.le_of_ble_eq_true rfl⟩ rfl (Nat.le_of_ble_eq_true rfl) ⟨Nat.zero_le _, Nat.zero_le _⟩ dX9_fixedBody_2 ?_
    refine tm_aload_n dX9_fixedBody_5 rfl rfl ?_
    refine tm_get kX9 rfl (j := 4) (by decide) wfX9_81 dX9_fixedBody_6 (v := tl (mL M2 9 0 4)) rfl ?_
    refine tm_aload_n dX9_fixedBody_9 rfl rfl ?_
    replace h := obind_some h
    obtain ⟨i3, ei3, h⟩ := h
    subst ei3
    refine tm_get kX7 rfl (j := 2) (by decide) wfX9_143 dX9_fixedBody_10 (v := tl (mL M2 7 i3 2)) rfl ?_
    refine tm_ladd dX9_fixedBody_13 ?_
    obtain ⟨rfl, rfl⟩ := pj2 h
    exact tm_lret rfl dX9_fixedBody_14
  exact TMet.of (by decide) (Nat.le_of_ble_eq_true rfl) key
theorem wcX9_137 : tCB RX9 137 yX9_fixedBody cX9_fixedBody 2 (some .long) 1 ∧ Cond.methodLink RX9 137 yX9_fixedBody ∈ tgd ∧ Cond.instanceMethod yX9_fixedBody ∈ tgd ∧ Cond.selects RX9 yX9_fixedBody yX9_fixedBody ∈ tgd := ⟨⟨(tgd_t 1106 (by decide +kernel) (by decide +kernel)), (tgd_t 9 (by decide +kernel) (by decide +kernel)), by decide, by decide +kernel⟩, (tgd_t 1103 (by decide +kernel) (by decide +kernel)), (tgd_t 1105 (by decide +kernel) (by decide +kernel)), (tgd_p 47 (by decide +kernel) (by decide +kernel))⟩
abbrev iX9_scaledBody : tY := (RX9, cX9_scaledBody, 2, some .long, "scaledBody")
abbrev rmX9_scaledBody : Room := { frames := 2, cells := 0, slots := 0, locals := 42 }
def fX9_scaledBody (a1 : Option Nat) (M : tM) : Option (Int64 × tM) :=
  (fX9_writeTrace 2 M).bind fun M2 =>
  Option.bind a1 fun i3 =>
  (fX9_fixedBody (some i3) M2).bind fun (x4, M6) =>
  some (((mL M2 7 i3 2) * x4, M6))
set_option maxHeartbeats 4000000 in
set_option maxRecDepth 100000 in
theorem okX9_scaledBody {g : tG} {a1 : Option Nat} {M : tM} {v : Int64} {Mz : tM} (h : fX9_scaledBody a1 M = some ((v, Mz))) : TMet g yX9_scaledBody (Cond.code yX9_scaledBody cX9_scaledBody 2 (some .long) :: tgd) rmX9_scaledBody [tr 9 0, tq 7 a1] M (some (tl v)) Mz 0 0 := by
  have key : TW g iX9_scaledBody rmX9_scaledBody 0 0 (some (tl v)) Mz 0 0 0 [(0, tr 9 0), (1, tq 7 a1)] [] M := by
    rw [fX9_scaledBody] at h
    refine tm_aload_n dX9_scaledBody_0 rfl rfl ?_
    refine tm_iconst (v := 2) dX9_scaledBody_1 (by decide) ?_
    replace h := obind_some h
    obtain ⟨M2, hc1, h⟩ := h
    refine tm_callV kX9 rfl (avs := [ti 2]) (st := []) (okX9_writeTrace hc1) wcX9_140.1 wcX9_140.2.1 wcX9_140.2.2.1 wcX9_140.2.2.2 ⟨rfl, rfl, Nat.le_of_ble_eq_true rfl, Nat.le_of_ble_eq_true rfl⟩ rfl (Nat.le_of_ble_eq_true rfl) ⟨Nat.zero_le _, Nat.zero_le _⟩ dX9_scaledBody_2 ?_
    refine tm_aload_n dX9_scaledBody_5 rfl rfl ?_
    replace h := obind_some h
    obtain ⟨i3, ei3, h⟩ := h
    subst ei3
    refine tm_get kX7 rfl (j := 2) (by decide) wfX9_143 dX9_scaledBody_6 (v := tl (mL M2 7 i3 2)) rfl ?_
    refine tm_aload_n dX9_scaledBody_9 rfl rfl ?_
    refine tm_aload_n dX9_scaledBody_10 rfl rfl ?_
    replace h := obind_some h
    obtain ⟨⟨x4, M6⟩, hc5, h⟩ := h
    dsimp only at h
    refine tm_callV kX9 rfl (avs := [tr 7 i3]) (st := [tl (mL M2 7 i3 2)]) (okX9_fixedBody hc5) wcX9_137.1 wcX9_137.2.1 wcX9_137.2.2.1 wcX9_137.2.2.2 ⟨rfl, rfl, Nat.le_of_ble_eq_true rfl, Nat.le_of_ble_eq_true rfl⟩ rfl (Nat.le_of_ble_eq_true rfl) ⟨Nat.zero_le _, Nat.zero_le _⟩ dX9_scaledBody_11 ?_
    refine tm_lmul dX9_scaledBody_14 ?_
    obtain ⟨rfl, rfl⟩ := pj2 h
    exact tm_lret rfl dX9_scaledBody_15
  exact TMet.of (by decide) (Nat.le_of_ble_eq_true rfl) key
theorem wcX9_122 : tCB RX9 122 yX9_scaledBody cX9_scaledBody 2 (some .long) 1 ∧ Cond.methodLink RX9 122 yX9_scaledBody ∈ tgd ∧ Cond.instanceMethod yX9_scaledBody ∈ tgd ∧ Cond.selects RX9 yX9_scaledBody yX9_scaledBody ∈ tgd := ⟨⟨(tgd_t 1098 (by decide +kernel) (by decide +kernel)), (tgd_t 9 (by decide +kernel) (by decide +kernel)), by decide, by decide +kernel⟩, (tgd_t 1095 (by decide +kernel) (by decide +kernel)), (tgd_t 1097 (by decide +kernel) (by decide +kernel)), (tgd_p 45 (by decide +kernel) (by decide +kernel))⟩
theorem wfX9_146 : Cond.fieldLink RX9 146 "EvenFlow$Part" "kept" "J" ∈ tgd := (tgd_t 434 (by decide +kernel) (by decide +kernel))
abbrev iX9_keeperBody : tY := (RX9, cX9_keeperBody, 2, some .long, "keeperBody")
abbrev rmX9_keeperBody : Room := { frames := 3, cells := 0, slots := 0, locals := 63 }
def fX9_keeperBody (a1 : Option Nat) (M : tM) : Option (Int64 × tM) :=
  (fX9_writeTrace 3 M).bind fun M2 =>
  Option.bind a1 fun i3 =>
  (fX9_scaledBody (some i3) M2).bind fun (x4, M6) =>
  bnd (sL M6 7 i3 8 ((mL M2 7 i3 8) + x4)) fun M7 =>
  some ((mL M7 7 i3 8, M7))
set_option maxHeartbeats 4000000 in
set_option maxRecDepth 100000 in
theorem okX9_keeperBody {g : tG} {a1 : Option Nat} {M : tM} {v : Int64} {Mz : tM} (h : fX9_keeperBody a1 M = some ((v, Mz))) : TMet g yX9_keeperBody (Cond.code yX9_keeperBody cX9_keeperBody 2 (some .long) :: tgd) rmX9_keeperBody [tr 9 0, tq 7 a1] M (some (tl v)) Mz 0 0 := by
  have key : TW g iX9_keeperBody rmX9_keeperBody 0 0 (some (tl v)) Mz 0 0 0 [(0, tr 9 0), (1, tq 7 a1)] [] M := by
    rw [fX9_keeperBody] at h
    refine tm_aload_n dX9_keeperBody_0 rfl rfl ?_
    refine tm_iconst (v := 3) dX9_keeperBody_1 (by decide) ?_
    replace h := obind_some h
    obtain ⟨M2, hc1, h⟩ := h
    refine tm_callV kX9 rfl (avs := [ti 3]) (st := []) (okX9_writeTrace hc1) wcX9_140.1 wcX9_140.2.1 wcX9_140.2.2.1 wcX9_140.2.2.2 ⟨rfl, rfl, Nat.le_of_ble_eq_true rfl, Nat.le_of_ble_eq_true rfl⟩ rfl (Nat.le_of_ble_eq_true rfl) ⟨Nat.zero_le _, Nat.zero_le _⟩ dX9_keeperBody_2 ?_
    refine tm_aload_n dX9_keeperBody_5 rfl rfl ?_
    refine tm_dup dX9_keeperBody_6 rfl ?_
    replace h := obind_some h
    obtain ⟨i3, ei3, h⟩ := h
    subst ei3
    refine tm_get kX7 rfl (j := 8) (by decide) wfX9_146 dX9_keeperBody_7 (v := tl (mL M2 7 i3 8)) rfl ?_
    refine tm_aload_n dX9_keeperBody_10 rfl rfl ?_
    refine tm_aload_n dX9_keeperBody_11 rfl rfl ?_
    replace h := obind_some h
    obtain ⟨⟨x4, M6⟩, hc5, h⟩ := h
    dsimp only at h
    refine tm_callV kX9 rfl (avs := [tr 7 i3]) (st := [tl (mL M2 7 i3 8), tr 7 i3]) (okX9_scaledBody hc5) wcX9_122.1 wcX9_122.2.1 wcX9_122.2.2.1 wcX9_122.2.2.2 ⟨rfl, rfl, Nat.le_of_ble_eq_true rfl, Nat.le_of_ble_eq_true rfl⟩ rfl (Nat.le_of_ble_eq_true rfl) ⟨Nat.zero_le _, Nat.zero_le _⟩ dX9_keeperBody_12 ?_
    refine tm_ladd dX9_keeperBody_15 ?_
    replace h := bnd_some h
    obtain ⟨M7, eM7, h⟩ := h
    refine tm_put kX7 rfl (j := 8) (by decide) wfX9_146 rfl dX9_keeperBody_16 (fun _ => ⟨rfl, rfl⟩) (tPut_L ((mL M2 7 i3 8) + x4) rfl) ?_
    refine tm_nmM eM7 ?_
    refine tm_aload_n dX9_keeperBody_19 rfl rfl ?_
    refine tm_get kX7 rfl (j := 8) (by decide) wfX9_146 dX9_keeperBody_20 (v := tl (mL M7 7 i3 8)) rfl ?_
    obtain ⟨rfl, rfl⟩ := pj2 h
    exact tm_lret rfl dX9_keeperBody_23
  exact TMet.of (by decide) (Nat.le_of_ble_eq_true rfl) key
theorem wfX9_74 : Cond.fieldLink RX9 74 "EvenFlow$Works" "met" "I" ∈ tgd := (tgd_t 323 (by decide +kernel) (by decide +kernel))
abbrev iX9_shareBody : tY := (RX9, cX9_shareBody, 6, some .long, "shareBody")
abbrev rmX9_shareBody : Room := { frames := 3, cells := 0, slots := 0, locals := 63 }
def fX9_shareBody (a1 : Option Nat) (M : tM) : Option (Int64 × tM) :=
  (fX9_writeTrace 4 M).bind fun M2 =>
  (fX9_scaledBody a1 M2).bind fun (x3, M5) =>
  Option.bind a1 fun i6 =>
  bnd (mR M5 7 i6 11) fun r7 =>
  Option.bind (α := Int64) (
  if r7 = none then (
  some 0
  ) else (
  bnd (mR M5 7 i6 11) fun r9 =>
  Option.bind r9 fun i10 =>
  (fX4_thingAt i10 0 M5).bind fun x11 =>
  some x11
  )
  ) fun x9 =>
  if (lg_cmp x9 0) = 0 then (
  bnd (sI M5 9 0 3 4) fun M15 =>
  some ((0, M15))
  ) else (
  chk (nz8 x9) <|
  some ((x3 / x9, M5))
  )
set_option maxHeartbeats 4000000 in
set_option maxRecDepth 100000 in
theorem okX9_shareBody {g : tG} {a1 : Option Nat} {M : tM} {v : Int64} {Mz : tM} (h : fX9_shareBody a1 M = some ((v, Mz))) : TMet g yX9_shareBody (Cond.code yX9_shareBody cX9_shareBody 6 (some .long) :: tgd) rmX9_shareBody [tr 9 0, tq 7 a1] M (some (tl v)) Mz 0 0 := by
  have key : TW g iX9_shareBody rmX9_shareBody 0 0 (some (tl v)) Mz 0 0 0 [(0, tr 9 0), (1, tq 7 a1)] [] M := by
    rw [fX9_shareBody] at h
    refine tm_aload_n dX9_shareBody_0 rfl rfl ?_
    refine tm_iconst (v := 4) dX9_shareBody_1 (by decide) ?_
    replace h := obind_some h
    obtain ⟨M2, hc1, h⟩ := h
    refine tm_callV kX9 rfl (avs := [ti 4]) (st := []) (okX9_writeTrace hc1) wcX9_140.1 wcX9_140.2.1 wcX9_140.2.2.1 wcX9_140.2.2.2 ⟨rfl, rfl, Nat.le_of_ble_eq_true rfl, Nat.le_of_ble_eq_true rfl⟩ rfl (Nat.le_of_ble_eq_true rfl) ⟨Nat.zero_le _, Nat.zero_le _⟩ dX9_shareBody_2 ?_
    refine tm_aload_n dX9_shareBody_5 rfl rfl ?_
    refine tm_aload_n dX9_shareBody_6 rfl rfl ?_
    replace h := obind_some h
    obtain ⟨⟨x3, M5⟩, hc4, h⟩ := h
    dsimp only at h
    refine tm_callV kX9 rfl (avs := [tq 7 a1]) (st := []) (okX9_scaledBody hc4) wcX9_122.1 wcX9_122.2.1 wcX9_122.2.2.1 wcX9_122.2.2.2 ⟨rfl, rfl, Nat.le_of_ble_eq_true rfl, Nat.le_of_ble_eq_true rfl⟩ rfl (Nat.le_of_ble_eq_true rfl) ⟨Nat.zero_le _, Nat.zero_le _⟩ dX9_shareBody_7 ?_
    refine tm_lstore_n (lc' := [(2, tl x3), (0, tr 9 0), (1, tq 7 a1)]) dX9_shareBody_10 rfl (by decide) rfl ?_
    refine tm_aload_n dX9_shareBody_11 rfl rfl ?_
    replace h := obind_some h
    obtain ⟨i6, ei6, h⟩ := h
    subst ei6
    refine tm_get kX7 rfl (j := 11) (by decide) wfX9_50 dX9_shareBody_12 (v := tq 4 (mR M5 7 i6 11)) rfl ?_
    replace h := bnd_some h
    obtain ⟨r7, er7, h⟩ := h
    refine tm_nmQ er7 ?_
    replace h := obind_some h
    obtain ⟨x9, hE10, h⟩ := h
    have J11 : TW g iX9_shareBody rmX9_shareBody 0 0 (some (tl v)) Mz 0 0 30 [(0, tr 9 0), (2, tl x3)] [tl x9] M5 := by
      refine tm_lstore (lc' := [(4, tl x9), (0, tr 9 0), (2, tl x3)]) dX9_shareBody_30 (by decide) rfl ?_
      refine tm_lload dX9_shareBody_32 rfl ?_
      refine tm_lconst (v := 0) dX9_shareBody_34 (by decide) ?_
      refine tm_lcmp dX9_shareBody_35 ?_
      refine tm_if_ne (tgt := 46) dX9_shareBody_36 (by decide) (fun c13 => ?_) (fun c13 => ?_)
      · rw [if_neg c13] at h
        refine tm_lload_n dX9_shareBody_46 rfl rfl ?_
        refine tm_lload dX9_shareBody_47 rfl ?_
        replace h := chk_some h
        obtain ⟨b14, h⟩ := h
        refine tm_ldiv dX9_shareBody_49 (nz8_ne b14) ?_
        obtain ⟨rfl, rfl⟩ := pj2 h
        exact tm_lret rfl dX9_shareBody_50
      · rw [if_pos c13] at h
        refine tm_aload_n dX9_shareBody_39 rfl rfl ?_
        refine tm_iconst (v := 4) dX9_shareBody_40 (by decide) ?_
        replace h := bnd_some h
        obtain ⟨M15, eM15, h⟩ := h
        refine tm_put kX9 rfl (j := 3) (by decide) wfX9_74 rfl dX9_shareBody_41 (fun _ => ⟨rfl, rfl⟩) (tPut_I 4 rfl) ?_
        refine tm_nmM eM15 ?_
        refine tm_lconst (v := 0) dX9_shareBody_44 (by decide) ?_
        obtain ⟨rfl, rfl⟩ := pj2 h
        exact tm_lret rfl dX9_shareBody_45
    refine tm_ifnonnull (k2 := 4) (q := r7) (tgt := 22) dX9_shareBody_15 (by decide) (fun c8 => ?_) (fun c8 => ?_)
    · rw [if_neg c8] at hE10
      refine tm_aload_n dX9_shareBody_22 rfl rfl ?_
      refine tm_get kX7 rfl (j := 11) (by decide) wfX9_50 dX9_shareBody_23 (v := tq 4 (mR M5 7 i6 11)) rfl ?_
      replace hE10 := bnd_some hE10
      obtain ⟨r9, er9, hE10⟩ := hE10
      refine tm_nmQ er9 ?_
      refine tm_iconst (v := 0) dX9_shareBody_26 (by decide) ?_
      replace hE10 := obind_some hE10
      obtain ⟨i10, ei10, hE10⟩ := hE10
      subst ei10
      replace hE10 := obind_some hE10
      obtain ⟨x11, hc12, hE10⟩ := hE10
      refine tm_callV kX4 rfl (avs := [ti 0]) (st := []) (okX4_thingAt hc12) wcX9_149.1 wcX9_149.2.1 wcX9_149.2.2.1 wcX9_149.2.2.2 ⟨rfl, rfl, Nat.le_of_ble_eq_true rfl, Nat.le_of_ble_eq_true rfl⟩ rfl (Nat.le_of_ble_eq_true rfl) ⟨Nat.zero_le _, Nat.zero_le _⟩ dX9_shareBody_27 ?_
      obtain rfl := Option.some.inj hE10
      refine tm_lcp [0, 2] rfl ?_
      exact J11
    · rw [if_pos c8] at hE10
      refine tm_lconst (v := 0) dX9_shareBody_18 (by decide) ?_
      refine tm_goto (tgt := 30) dX9_shareBody_19 (by decide) ?_
      obtain rfl := Option.some.inj hE10
      refine tm_lcp [0, 2] rfl ?_
      exact J11
  exact TMet.of (by decide) (Nat.le_of_ble_eq_true rfl) key
abbrev iX9_phasedBody : tY := (RX9, cX9_phasedBody, 2, some .long, "phasedBody")
abbrev rmX9_phasedBody : Room := { frames := 2, cells := 0, slots := 0, locals := 42 }
def fX9_phasedBody (a1 : Option Nat) (M : tM) : Option (Int64 × tM) :=
  (fX9_writeTrace 5 M).bind fun M2 =>
  (fX9_fixedBody a1 M2).bind fun (x3, M5) =>
  Option.bind a1 fun i6 =>
  some ((x3 + ((mI M5 7 i6 7).toInt64), M5))
set_option maxHeartbeats 4000000 in
set_option maxRecDepth 100000 in
theorem okX9_phasedBody {g : tG} {a1 : Option Nat} {M : tM} {v : Int64} {Mz : tM} (h : fX9_phasedBody a1 M = some ((v, Mz))) : TMet g yX9_phasedBody (Cond.code yX9_phasedBody cX9_phasedBody 2 (some .long) :: tgd) rmX9_phasedBody [tr 9 0, tq 7 a1] M (some (tl v)) Mz 0 0 := by
  have key : TW g iX9_phasedBody rmX9_phasedBody 0 0 (some (tl v)) Mz 0 0 0 [(0, tr 9 0), (1, tq 7 a1)] [] M := by
    rw [fX9_phasedBody] at h
    refine tm_aload_n dX9_phasedBody_0 rfl rfl ?_
    refine tm_iconst (v := 5) dX9_phasedBody_1 (by decide) ?_
    replace h := obind_some h
    obtain ⟨M2, hc1, h⟩ := h
    refine tm_callV kX9 rfl (avs := [ti 5]) (st := []) (okX9_writeTrace hc1) wcX9_140.1 wcX9_140.2.1 wcX9_140.2.2.1 wcX9_140.2.2.2 ⟨rfl, rfl, Nat.le_of_ble_eq_true rfl, Nat.le_of_ble_eq_true rfl⟩ rfl (Nat.le_of_ble_eq_true rfl) ⟨Nat.zero_le _, Nat.zero_le _⟩ dX9_phasedBody_2 ?_
    refine tm_aload_n dX9_phasedBody_5 rfl rfl ?_
    refine tm_aload_n dX9_phasedBody_6 rfl rfl ?_
    replace h := obind_some h
    obtain ⟨⟨x3, M5⟩, hc4, h⟩ := h
    dsimp only at h
    refine tm_callV kX9 rfl (avs := [tq 7 a1]) (st := []) (okX9_fixedBody hc4) wcX9_137.1 wcX9_137.2.1 wcX9_137.2.2.1 wcX9_137.2.2.2 ⟨rfl, rfl, Nat.le_of_ble_eq_true rfl, Nat.le_of_ble_eq_true rfl⟩ rfl (Nat.le_of_ble_eq_true rfl) ⟨Nat.zero_le _, Nat.zero_le _⟩ dX9_phasedBody_7 ?_
    refine tm_aload_n dX9_phasedBody_10 rfl rfl ?_
    replace h := obind_some h
    obtain ⟨i6, ei6, h⟩ := h
    subst ei6
    refine tm_get kX7 rfl (j := 7) (by decide) wfX9_57 dX9_phasedBody_11 (v := ti (mI M5 7 i6 7)) rfl ?_
    refine tm_i2l dX9_phasedBody_14 ?_
    refine tm_ladd dX9_phasedBody_15 ?_
    obtain ⟨rfl, rfl⟩ := pj2 h
    exact tm_lret rfl dX9_phasedBody_16
  exact TMet.of (by decide) (Nat.le_of_ble_eq_true rfl) key
theorem wcwX9_157 : tCW RX9 157 := ⟨(tgd_t 1123 (by decide +kernel) (by decide +kernel)), (tgd_t 523 (by decide +kernel) (by decide +kernel)), (tgd_t 522 (by decide +kernel) (by decide +kernel)), (tgd_t 13 (by decide +kernel) (by decide +kernel))⟩
theorem wfX9_153 : Cond.fieldLink RX9 153 "EvenFlow$Part" "row" "[J" ∈ tgd := (tgd_t 439 (by decide +kernel) (by decide +kernel))
abbrev iX9_delayBody : tY := (RX9, cX9_delayBody, 7, some .long, "delayBody")
abbrev rmX9_delayBody : Room := { frames := 2, cells := 0, slots := 0, locals := 42 }
def fX9_delayBody (a1 : Option Nat) (M : tM) : Option (Int64 × tM) :=
  (fX9_writeTrace 6 M).bind fun M2 =>
  Option.bind a1 fun i3 =>
  bnd (mR M2 7 i3 10) fun r4 =>
  if r4 = none then (
  bnd (sI M2 9 0 3 1) fun M30 =>
  some ((0, M30))
  ) else (
  (fX9_fixedBody (some i3) M2).bind fun (x6, M8) =>
  bnd (mR M8 7 i3 10) fun r9 =>
  Option.bind r9 fun i10 =>
  if (nI (mN M8 810 i10)) = 0 then (
  some ((x6, M8))
  ) else (
  bnd (mR M8 7 i3 10) fun r12 =>
  Option.bind r12 fun i13 =>
  bnd ((nI (mN M8 810 i13)) - 1) fun x14 =>
  bnd (mR M8 7 i3 10) fun r15 =>
  Option.bind r15 fun i16 =>
  chk (inb 0 (mN M8 810 i16)) <|
  bnd (mL M8 810 i16 ((0 : Int32).toNatClampNeg)) fun x18 =>
  bnd (mR M8 7 i3 10) fun r19 =>
  bnd (mR M8 7 i3 10) fun r20 =>
  Option.bind r20 fun i21 =>
  Option.bind r19 fun i22 =>
  chk (cpok 1 0 x14 (mN M8 810 i22) (mN M8 810 i21)) <|
  bnd (cL M8 810 i21 (va_cpy (mL M8 810 i22) (mL M8 810 i21) ((1 : Int32).toNatClampNeg) ((0 : Int32).toNatClampNeg) (x14.toNatClampNeg))) fun M24 =>
  bnd (mR M24 7 i3 10) fun r26 =>
  Option.bind r26 fun i27 =>
  chk (inb x14 (mN M24 810 i27)) <|
  bnd (sL M24 810 i27 (x14.toNatClampNeg) x6) fun M29 =>
  some ((x18, M29))
  )
  )
set_option maxHeartbeats 4000000 in
set_option maxRecDepth 100000 in
theorem okX9_delayBody {g : tG} {a1 : Option Nat} {M : tM} {v : Int64} {Mz : tM} (h : fX9_delayBody a1 M = some ((v, Mz))) : TMet g yX9_delayBody (Cond.code yX9_delayBody cX9_delayBody 7 (some .long) :: tgd) rmX9_delayBody [tr 9 0, tq 7 a1] M (some (tl v)) Mz 0 0 := by
  have key : TW g iX9_delayBody rmX9_delayBody 0 0 (some (tl v)) Mz 0 0 0 [(0, tr 9 0), (1, tq 7 a1)] [] M := by
    rw [fX9_delayBody] at h
    refine tm_aload_n dX9_delayBody_0 rfl rfl ?_
    refine tm_bipush (v := 6) dX9_delayBody_1 (by decide) ?_
    replace h := obind_some h
    obtain ⟨M2, hc1, h⟩ := h
    refine tm_callV kX9 rfl (avs := [ti 6]) (st := []) (okX9_writeTrace hc1) wcX9_140.1 wcX9_140.2.1 wcX9_140.2.2.1 wcX9_140.2.2.2 ⟨rfl, rfl, Nat.le_of_ble_eq_true rfl, Nat.le_of_ble_eq_true rfl⟩ rfl (Nat.le_of_ble_eq_true rfl) ⟨Nat.zero_le _, Nat.zero_le _⟩ dX9_delayBody_3 ?_
    refine tm_aload_n dX9_delayBody_6 rfl rfl ?_
    replace h := obind_some h
    obtain ⟨i3, ei3, h⟩ := h
    subst ei3
    refine tm_get kX7 rfl (j := 10) (by decide) wfX9_153 dX9_delayBody_7 (v := tq 810 (mR M2 7 i3 10)) rfl ?_
    replace h := bnd_some h
    obtain ⟨r4, er4, h⟩ := h
    refine tm_nmQ er4 ?_
    refine tm_ifnonnull (k2 := 810) (q := r4) (tgt := 20) dX9_delayBody_10 (by decide) (fun c5 => ?_) (fun c5 => ?_)
    · rw [if_neg c5] at h
      refine tm_aload_n dX9_delayBody_20 rfl rfl ?_
      refine tm_aload_n dX9_delayBody_21 rfl rfl ?_
      replace h := obind_some h
      obtain ⟨⟨x6, M8⟩, hc7, h⟩ := h
      dsimp only at h
      refine tm_callV kX9 rfl (avs := [tr 7 i3]) (st := []) (okX9_fixedBody hc7) wcX9_137.1 wcX9_137.2.1 wcX9_137.2.2.1 wcX9_137.2.2.2 ⟨rfl, rfl, Nat.le_of_ble_eq_true rfl, Nat.le_of_ble_eq_true rfl⟩ rfl (Nat.le_of_ble_eq_true rfl) ⟨Nat.zero_le _, Nat.zero_le _⟩ dX9_delayBody_22 ?_
      refine tm_lstore_n (lc' := [(2, tl x6), (0, tr 9 0), (1, tr 7 i3)]) dX9_delayBody_25 rfl (by decide) rfl ?_
      refine tm_aload_n dX9_delayBody_26 rfl rfl ?_
      refine tm_get kX7 rfl (j := 10) (by decide) wfX9_153 dX9_delayBody_27 (v := tq 810 (mR M8 7 i3 10)) rfl ?_
      replace h := bnd_some h
      obtain ⟨r9, er9, h⟩ := h
      refine tm_nmQ er9 ?_
      replace h := obind_some h
      obtain ⟨i10, ei10, h⟩ := h
      subst ei10
      refine tm_alen ⟨rfl, rfl⟩ dX9_delayBody_30 ?_
      refine tm_if_ne (tgt := 36) dX9_delayBody_31 (by decide) (fun c11 => ?_) (fun c11 => ?_)
      · rw [if_neg c11] at h
        refine tm_aload_n dX9_delayBody_36 rfl rfl ?_
        refine tm_get kX7 rfl (j := 10) (by decide) wfX9_153 dX9_delayBody_37 (v := tq 810 (mR M8 7 i3 10)) rfl ?_
        replace h := bnd_some h
        obtain ⟨r12, er12, h⟩ := h
        refine tm_nmQ er12 ?_
        replace h := obind_some h
        obtain ⟨i13, ei13, h⟩ := h
        subst ei13
        refine tm_alen ⟨rfl, rfl⟩ dX9_delayBody_40 ?_
        refine tm_iconst (v := 1) dX9_delayBody_41 (by decide) ?_
        refine tm_isub dX9_delayBody_42 ?_
        replace h := bnd_some h
        obtain ⟨x14, ex14, h⟩ := h
        refine tm_nmI ex14 ?_
        refine tm_istore (lc' := [(4, ti x14), (2, tl x6), (0, tr 9 0), (1, tr 7 i3)]) dX9_delayBody_43 (by decide) rfl ?_
        refine tm_aload_n dX9_delayBody_45 rfl rfl ?_
        refine tm_get kX7 rfl (j := 10) (by decide) wfX9_153 dX9_delayBody_46 (v := tq 810 (mR M8 7 i3 10)) rfl ?_
        replace h := bnd_some h
        obtain ⟨r15, er15, h⟩ := h
        refine tm_nmQ er15 ?_
        refine tm_iconst (v := 0) dX9_delayBody_49 (by decide) ?_
        replace h := obind_some h
        obtain ⟨i16, ei16, h⟩ := h
        subst ei16
        replace h := chk_some h
        obtain ⟨b17, h⟩ := h
        refine tm_lald rfl dX9_delayBody_50 (inb_vp b17) ?_
        replace h := bnd_some h
        obtain ⟨x18, ex18, h⟩ := h
        refine tm_nmL ex18 ?_
        refine tm_lstore (lc' := [(5, tl x18), (4, ti x14), (2, tl x6), (0, tr 9 0), (1, tr 7 i3)]) dX9_delayBody_51 (by decide) rfl ?_
        refine tm_aload_n dX9_delayBody_53 rfl rfl ?_
        refine tm_get kX7 rfl (j := 10) (by decide) wfX9_153 dX9_delayBody_54 (v := tq 810 (mR M8 7 i3 10)) rfl ?_
        replace h := bnd_some h
        obtain ⟨r19, er19, h⟩ := h
        refine tm_nmQ er19 ?_
        refine tm_iconst (v := 1) dX9_delayBody_57 (by decide) ?_
        refine tm_aload_n dX9_delayBody_58 rfl rfl ?_
        refine tm_get kX7 rfl (j := 10) (by decide) wfX9_153 dX9_delayBody_59 (v := tq 810 (mR M8 7 i3 10)) rfl ?_
        replace h := bnd_some h
        obtain ⟨r20, er20, h⟩ := h
        refine tm_nmQ er20 ?_
        refine tm_iconst (v := 0) dX9_delayBody_62 (by decide) ?_
        refine tm_iload dX9_delayBody_63 rfl ?_
        replace h := obind_some h
        obtain ⟨i21, ei21, h⟩ := h
        subst ei21
        replace h := obind_some h
        obtain ⟨i22, ei22, h⟩ := h
        subst ei22
        replace h := chk_some h
        obtain ⟨b23, h⟩ := h
        replace h := bnd_some h
        obtain ⟨M24, eM24, h⟩ := h
        have q25 := (cpok_of b23)
        refine tm_copyL rfl rfl wcwX9_157 ⟨by decide, by decide⟩ dX9_delayBody_65 q25.1 q25.2.1 q25.2.2.1 q25.2.2.2.1 q25.2.2.2.2 ?_
        refine tm_nmM eM24 ?_
        refine tm_aload_n dX9_delayBody_68 rfl rfl ?_
        refine tm_get kX7 rfl (j := 10) (by decide) wfX9_153 dX9_delayBody_69 (v := tq 810 (mR M24 7 i3 10)) rfl ?_
        replace h := bnd_some h
        obtain ⟨r26, er26, h⟩ := h
        refine tm_nmQ er26 ?_
        refine tm_iload dX9_delayBody_72 rfl ?_
        refine tm_lload_n dX9_delayBody_74 rfl rfl ?_
        replace h := obind_some h
        obtain ⟨i27, ei27, h⟩ := h
        subst ei27
        replace h := chk_some h
        obtain ⟨b28, h⟩ := h
        replace h := bnd_some h
        obtain ⟨M29, eM29, h⟩ := h
        refine tm_last rfl dX9_delayBody_75 (inb_vp b28) ?_
        refine tm_nmM eM29 ?_
        refine tm_lload dX9_delayBody_76 rfl ?_
        obtain ⟨rfl, rfl⟩ := pj2 h
        exact tm_lret rfl dX9_delayBody_78
      · rw [if_pos c11] at h
        refine tm_lload_n dX9_delayBody_34 rfl rfl ?_
        obtain ⟨rfl, rfl⟩ := pj2 h
        exact tm_lret rfl dX9_delayBody_35
    · rw [if_pos c5] at h
      refine tm_aload_n dX9_delayBody_13 rfl rfl ?_
      refine tm_iconst (v := 1) dX9_delayBody_14 (by decide) ?_
      replace h := bnd_some h
      obtain ⟨M30, eM30, h⟩ := h
      refine tm_put kX9 rfl (j := 3) (by decide) wfX9_74 rfl dX9_delayBody_15 (fun _ => ⟨rfl, rfl⟩) (tPut_I 1 rfl) ?_
      refine tm_nmM eM30 ?_
      refine tm_lconst (v := 0) dX9_delayBody_18 (by decide) ?_
      obtain ⟨rfl, rfl⟩ := pj2 h
      exact tm_lret rfl dX9_delayBody_19
  exact TMet.of (by decide) (Nat.le_of_ble_eq_true rfl) key
theorem wcX9_125 : tCB RX9 125 yX9_keeperBody cX9_keeperBody 2 (some .long) 1 ∧ Cond.methodLink RX9 125 yX9_keeperBody ∈ tgd ∧ Cond.instanceMethod yX9_keeperBody ∈ tgd ∧ Cond.selects RX9 yX9_keeperBody yX9_keeperBody ∈ tgd := ⟨⟨(tgd_t 1110 (by decide +kernel) (by decide +kernel)), (tgd_t 9 (by decide +kernel) (by decide +kernel)), by decide, by decide +kernel⟩, (tgd_t 1107 (by decide +kernel) (by decide +kernel)), (tgd_t 1109 (by decide +kernel) (by decide +kernel)), (tgd_p 48 (by decide +kernel) (by decide +kernel))⟩
theorem wcX9_128 : tCB RX9 128 yX9_shareBody cX9_shareBody 6 (some .long) 1 ∧ Cond.methodLink RX9 128 yX9_shareBody ∈ tgd ∧ Cond.instanceMethod yX9_shareBody ∈ tgd ∧ Cond.selects RX9 yX9_shareBody yX9_shareBody ∈ tgd := ⟨⟨(tgd_t 1114 (by decide +kernel) (by decide +kernel)), (tgd_t 9 (by decide +kernel) (by decide +kernel)), by decide, by decide +kernel⟩, (tgd_t 1111 (by decide +kernel) (by decide +kernel)), (tgd_t 1113 (by decide +kernel) (by decide +kernel)), (tgd_p 49 (by decide +kernel) (by decide +kernel))⟩
theorem wcX9_131 : tCB RX9 131 yX9_phasedBody cX9_phasedBody 2 (some .long) 1 ∧ Cond.methodLink RX9 131 yX9_phasedBody ∈ tgd ∧ Cond.instanceMethod yX9_phasedBody ∈ tgd ∧ Cond.selects RX9 yX9_phasedBody yX9_phasedBody ∈ tgd := ⟨⟨(tgd_t 1118 (by decide +kernel) (by decide +kernel)), (tgd_t 9 (by decide +kernel) (by decide +kernel)), by decide, by decide +kernel⟩, (tgd_t 1115 (by decide +kernel) (by decide +kernel)), (tgd_t 1117 (by decide +kernel) (by decide +kernel)), (tgd_p 50 (by decide +kernel) (by decide +kernel))⟩
theorem wcX9_134 : tCB RX9 134 yX9_delayBody cX9_delayBody 7 (some .long) 1 ∧ Cond.methodLink RX9 134 yX9_delayBody ∈ tgd ∧ Cond.instanceMethod yX9_delayBody ∈ tgd ∧ Cond.selects RX9 yX9_delayBody yX9_delayBody ∈ tgd := ⟨⟨(tgd_t 1122 (by decide +kernel) (by decide +kernel)), (tgd_t 9 (by decide +kernel) (by decide +kernel)), by decide, by decide +kernel⟩, (tgd_t 1119 (by decide +kernel) (by decide +kernel)), (tgd_t 1121 (by decide +kernel) (by decide +kernel)), (tgd_p 51 (by decide +kernel) (by decide +kernel))⟩
theorem wfX9_119 : Cond.fieldLink RX9 119 "EvenFlow$Part" "kind" "I" ∈ tgd := (tgd_t 413 (by decide +kernel) (by decide +kernel))
abbrev iX9_workOf : tY := (RX9, cX9_workOf, 2, some .long, "workOf")
abbrev rmX9_workOf : Room := { frames := 4, cells := 0, slots := 0, locals := 88 }
def fX9_workOf (a1 : Option Nat) (M : tM) : Option (Int64 × tM) :=
  Option.bind a1 fun i1 =>
  bnd (mI M 7 i1 1) fun x2 =>
  if x2.toInt < 1 ∨ 5 < x2.toInt then (
  (fX9_fixedBody (some i1) M).bind fun (x4, M6) =>
  some ((x4, M6))
  ) else (
  if x2 = 1 then (
  (fX9_scaledBody (some i1) M).bind fun (x7, M9) =>
  some ((x7, M9))
  ) else (
  if x2 = 2 then (
  (fX9_keeperBody (some i1) M).bind fun (x11, M13) =>
  some ((x11, M13))
  ) else (
  if x2 = 3 then (
  (fX9_shareBody (some i1) M).bind fun (x15, M17) =>
  some ((x15, M17))
  ) else (
  if x2 = 4 then (
  (fX9_phasedBody (some i1) M).bind fun (x19, M21) =>
  some ((x19, M21))
  ) else (
  if x2 = 5 then (
  (fX9_delayBody (some i1) M).bind fun (x23, M25) =>
  some ((x23, M25))
  ) else (
  none))))))
set_option maxHeartbeats 4000000 in
set_option maxRecDepth 100000 in
theorem okX9_workOf {g : tG} {a1 : Option Nat} {M : tM} {v : Int64} {Mz : tM} (h : fX9_workOf a1 M = some ((v, Mz))) : TMet g yX9_workOf (Cond.code yX9_workOf cX9_workOf 2 (some .long) :: tgd) rmX9_workOf [tr 9 0, tq 7 a1] M (some (tl v)) Mz 0 0 := by
  have key : TW g iX9_workOf rmX9_workOf 0 0 (some (tl v)) Mz 0 0 0 [(0, tr 9 0), (1, tq 7 a1)] [] M := by
    rw [fX9_workOf] at h
    refine tm_aload_n dX9_workOf_0 rfl rfl ?_
    replace h := obind_some h
    obtain ⟨i1, ei1, h⟩ := h
    subst ei1
    refine tm_get kX7 rfl (j := 1) (by decide) wfX9_119 dX9_workOf_1 (v := ti (mI M 7 i1 1)) rfl ?_
    replace h := bnd_some h
    obtain ⟨x2, ex2, h⟩ := h
    refine tm_nmI ex2 ?_
    by_cases c3 : x2.toInt < 1 ∨ 5 < x2.toInt
    · rw [if_pos c3] at h
      refine tm_tableOut (tgt := 70) dX9_workOf_4 c3 (by decide) ?_
      refine tm_aload_n dX9_workOf_70 rfl rfl ?_
      refine tm_aload_n dX9_workOf_71 rfl rfl ?_
      replace h := obind_some h
      obtain ⟨⟨x4, M6⟩, hc5, h⟩ := h
      dsimp only at h
      refine tm_callV kX9 rfl (avs := [tr 7 i1]) (st := []) (okX9_fixedBody hc5) wcX9_137.1 wcX9_137.2.1 wcX9_137.2.2.1 wcX9_137.2.2.2 ⟨rfl, rfl, Nat.le_of_ble_eq_true rfl, Nat.le_of_ble_eq_true rfl⟩ rfl (Nat.le_of_ble_eq_true rfl) ⟨Nat.zero_le _, Nat.zero_le _⟩ dX9_workOf_72 ?_
      obtain ⟨rfl, rfl⟩ := pj2 h
      exact tm_lret rfl dX9_workOf_75
    · rw [if_neg c3] at h
      by_cases c10 : x2 = 1
      · rw [if_pos c10] at h
        subst c10
        refine tm_tableIn (tgt := 40) dX9_workOf_4 (by decide) (by decide) rfl (by decide) ?_
        refine tm_aload_n dX9_workOf_40 rfl rfl ?_
        refine tm_aload_n dX9_workOf_41 rfl rfl ?_
        replace h := obind_some h
        obtain ⟨⟨x7, M9⟩, hc8, h⟩ := h
        dsimp only at h
        refine tm_callV kX9 rfl (avs := [tr 7 i1]) (st := []) (okX9_scaledBody hc8) wcX9_122.1 wcX9_122.2.1 wcX9_122.2.2.1 wcX9_122.2.2.2 ⟨rfl, rfl, Nat.le_of_ble_eq_true rfl, Nat.le_of_ble_eq_true rfl⟩ rfl (Nat.le_of_ble_eq_true rfl) ⟨Nat.zero_le _, Nat.zero_le _⟩ dX9_workOf_42 ?_
        obtain ⟨rfl, rfl⟩ := pj2 h
        exact tm_lret rfl dX9_workOf_45
      · rw [if_neg c10] at h
        by_cases c14 : x2 = 2
        · rw [if_pos c14] at h
          subst c14
          refine tm_tableIn (tgt := 46) dX9_workOf_4 (by decide) (by decide) rfl (by decide) ?_
          refine tm_aload_n dX9_workOf_46 rfl rfl ?_
          refine tm_aload_n dX9_workOf_47 rfl rfl ?_
          replace h := obind_some h
          obtain ⟨⟨x11, M13⟩, hc12, h⟩ := h
          dsimp only at h
          refine tm_callV kX9 rfl (avs := [tr 7 i1]) (st := []) (okX9_keeperBody hc12) wcX9_125.1 wcX9_125.2.1 wcX9_125.2.2.1 wcX9_125.2.2.2 ⟨rfl, rfl, Nat.le_of_ble_eq_true rfl, Nat.le_of_ble_eq_true rfl⟩ rfl (Nat.le_of_ble_eq_true rfl) ⟨Nat.zero_le _, Nat.zero_le _⟩ dX9_workOf_48 ?_
          obtain ⟨rfl, rfl⟩ := pj2 h
          exact tm_lret rfl dX9_workOf_51
        · rw [if_neg c14] at h
          by_cases c18 : x2 = 3
          · rw [if_pos c18] at h
            subst c18
            refine tm_tableIn (tgt := 52) dX9_workOf_4 (by decide) (by decide) rfl (by decide) ?_
            refine tm_aload_n dX9_workOf_52 rfl rfl ?_
            refine tm_aload_n dX9_workOf_53 rfl rfl ?_
            replace h := obind_some h
            obtain ⟨⟨x15, M17⟩, hc16, h⟩ := h
            dsimp only at h
            refine tm_callV kX9 rfl (avs := [tr 7 i1]) (st := []) (okX9_shareBody hc16) wcX9_128.1 wcX9_128.2.1 wcX9_128.2.2.1 wcX9_128.2.2.2 ⟨rfl, rfl, Nat.le_of_ble_eq_true rfl, Nat.le_of_ble_eq_true rfl⟩ rfl (Nat.le_of_ble_eq_true rfl) ⟨Nat.zero_le _, Nat.zero_le _⟩ dX9_workOf_54 ?_
            obtain ⟨rfl, rfl⟩ := pj2 h
            exact tm_lret rfl dX9_workOf_57
          · rw [if_neg c18] at h
            by_cases c22 : x2 = 4
            · rw [if_pos c22] at h
              subst c22
              refine tm_tableIn (tgt := 58) dX9_workOf_4 (by decide) (by decide) rfl (by decide) ?_
              refine tm_aload_n dX9_workOf_58 rfl rfl ?_
              refine tm_aload_n dX9_workOf_59 rfl rfl ?_
              replace h := obind_some h
              obtain ⟨⟨x19, M21⟩, hc20, h⟩ := h
              dsimp only at h
              refine tm_callV kX9 rfl (avs := [tr 7 i1]) (st := []) (okX9_phasedBody hc20) wcX9_131.1 wcX9_131.2.1 wcX9_131.2.2.1 wcX9_131.2.2.2 ⟨rfl, rfl, Nat.le_of_ble_eq_true rfl, Nat.le_of_ble_eq_true rfl⟩ rfl (Nat.le_of_ble_eq_true rfl) ⟨Nat.zero_le _, Nat.zero_le _⟩ dX9_workOf_60 ?_
              obtain ⟨rfl, rfl⟩ := pj2 h
              exact tm_lret rfl dX9_workOf_63
            · rw [if_neg c22] at h
              by_cases c26 : x2 = 5
              · rw [if_pos c26] at h
                subst c26
                refine tm_tableIn (tgt := 64) dX9_workOf_4 (by decide) (by decide) rfl (by decide) ?_
                refine tm_aload_n dX9_workOf_64 rfl rfl ?_
                refine tm_aload_n dX9_workOf_65 rfl rfl ?_
                replace h := obind_some h
                obtain ⟨⟨x23, M25⟩, hc24, h⟩ := h
                dsimp only at h
                refine tm_callV kX9 rfl (avs := [tr 7 i1]) (st := []) (okX9_delayBody hc24) wcX9_134.1 wcX9_134.2.1 wcX9_134.2.2.1 wcX9_134.2.2.2 ⟨rfl, rfl, Nat.le_of_ble_eq_true rfl, Nat.le_of_ble_eq_true rfl⟩ rfl (Nat.le_of_ble_eq_true rfl) ⟨Nat.zero_le _, Nat.zero_le _⟩ dX9_workOf_66 ?_
                obtain ⟨rfl, rfl⟩ := pj2 h
                exact tm_lret rfl dX9_workOf_69
              · rw [if_neg c26] at h
                cases h
  exact TMet.of (by decide) (Nat.le_of_ble_eq_true rfl) key
theorem wcX9_108 : tCB RX9 108 yX4_drop cX4_drop 3 (none) 1 ∧ Cond.methodLink RX9 108 yX4_drop ∈ tgd ∧ Cond.instanceMethod yX4_drop ∈ tgd ∧ Cond.selects RX4 yX4_drop yX4_drop ∈ tgd := ⟨⟨(tgd_t 1131 (by decide +kernel) (by decide +kernel)), (tgd_t 15 (by decide +kernel) (by decide +kernel)), by decide, by decide +kernel⟩, (tgd_t 1128 (by decide +kernel) (by decide +kernel)), (tgd_t 1129 (by decide +kernel) (by decide +kernel)), (tgd_t 1130 (by decide +kernel) (by decide +kernel))⟩
theorem wcX9_112 : tCB RX9 112 yX4_put cX4_put 3 (none) 1 ∧ Cond.methodLink RX9 112 yX4_put ∈ tgd ∧ Cond.instanceMethod yX4_put ∈ tgd ∧ Cond.selects RX4 yX4_put yX4_put ∈ tgd := ⟨⟨(tgd_t 1137 (by decide +kernel) (by decide +kernel)), (tgd_t 15 (by decide +kernel) (by decide +kernel)), by decide, by decide +kernel⟩, (tgd_t 1134 (by decide +kernel) (by decide +kernel)), (tgd_t 1135 (by decide +kernel) (by decide +kernel)), (tgd_t 1136 (by decide +kernel) (by decide +kernel))⟩
theorem wcX9_116 : tCB RX9 116 yX7_phaseBehind cX7_phaseBehind 2 (some .int) 1 ∧ Cond.methodLink RX9 116 yX7_phaseBehind ∈ tgd ∧ Cond.instanceMethod yX7_phaseBehind ∈ tgd ∧ Cond.selects RX7 yX7_phaseBehind yX7_phaseBehind ∈ tgd := ⟨⟨(tgd_t 795 (by decide +kernel) (by decide +kernel)), (tgd_t 11 (by decide +kernel) (by decide +kernel)), by decide, by decide +kernel⟩, (tgd_t 1138 (by decide +kernel) (by decide +kernel)), (tgd_t 793 (by decide +kernel) (by decide +kernel)), (tgd_t 794 (by decide +kernel) (by decide +kernel))⟩
abbrev iX9_move : tY := (RX9, cX9_move, 7, none, "move")
abbrev rmX9_move : Room := { frames := 2, cells := 0, slots := 0, locals := 43 }
def fX9_move_l6 (z1 : Nat) (z2 : Int64) : Nat → (Option Nat) → tM → Option (tM)
  | 0, _, _ => none
  | n + 1, y4, M =>
    if y4 = none then (
    some M
    ) else (
    Option.bind y4 fun i4 =>
    (fX4_takesIn i4 (mI M 7 z1 7) M).bind fun x5 =>
    (fX4_drop i4 x5 M).bind fun M8 =>
    bnd (mR M8 4 i4 12) fun r9 =>
    fX9_move_l6 z1 z2 n r9 M8
    )
def fX9_move_l60 (z1 : Nat) (z2 : Int64) (z4 : Nat) (z5 : Int32) : Nat → Int32 → tM → Option (tM)
  | 0, _, _ => none
  | n + 1, y6, M =>
    if z5 ≤ y6 then (
    some M
    ) else (
    (fX4_put z4 (z2 + (y6.toInt64)) M).bind fun M20 =>
    bnd (y6 + 1) fun x21 =>
    fX9_move_l60 z1 z2 z4 z5 n x21 M20
    )
def fX9_move_l41 (z1 : Nat) (z2 : Int64) : Nat → (Option Nat) → tM → Option (tM)
  | 0, _, _ => none
  | n + 1, y4, M =>
    if y4 = none then (
    some M
    ) else (
    Option.bind y4 fun i15 =>
    (fX4_givesIn i15 (mI M 7 z1 7) M).bind fun x16 =>
    Option.bind (fX9_move_l60 z1 z2 i15 x16 FU 0 M) fun M24 =>
    bnd (mR M24 4 i15 13) fun r25 =>
    fX9_move_l41 z1 z2 n r25 M24
    )
def fX9_move (a1 : Option Nat) (a2 : Int64) (M : tM) : Option (tM) :=
  Option.bind a1 fun i1 =>
  bnd (mR M 7 i1 11) fun r2 =>
  Option.bind (fX9_move_l6 i1 a2 FU r2 M) fun M12 =>
  bnd (mR M12 7 i1 13) fun r13 =>
  Option.bind (fX9_move_l41 i1 a2 FU r13 M12) fun M28 =>
  (fX7_phaseBehind i1 (mI M28 7 i1 7) M28).bind fun x29 =>
  bnd (sI M28 7 i1 7 x29) fun M31 =>
  some M31
set_option maxHeartbeats 4000000 in
set_option maxRecDepth 100000 in
theorem okX9_move_l6 {g : tG} (z1 : Nat) (z2 : Int64) {r : Option tV} {Mz : tM} : ∀ (n : Nat) (y4 : Option Nat) (M : tM) (w : tM), fX9_move_l6 z1 z2 n y4 M = some w → (∀ (Mw : tM), Mw = w → TW g iX9_move rmX9_move 0 0 r Mz 0 0 35 [(1, tr 7 z1), (2, tl z2)] [] Mw) → TW g iX9_move rmX9_move 0 0 r Mz 0 0 6 [(1, tr 7 z1), (2, tl z2), (4, tq 4 y4)] [] M := by
  intro n
  induction n with
  | zero => intro y4 M w h; cases h
  | succ n ih =>
    intro y4 M w h J
    rw [fX9_move_l6] at h
    refine tm_aload dX9_move_6 rfl ?_
    refine tm_ifnull (k2 := 4) (q := y4) (tgt := 35) dX9_move_8 (by decide) (fun c3 => ?_) (fun c3 => ?_)
    · rw [if_pos c3] at h
      obtain rfl := Option.some.inj h
      refine tm_lcp [1, 2] rfl ?_
      exact J _ rfl
    · rw [if_neg c3] at h
      refine tm_aload dX9_move_11 rfl ?_
      refine tm_aload dX9_move_13 rfl ?_
      refine tm_aload_n dX9_move_15 rfl rfl ?_
      refine tm_get kX7 rfl (j := 7) (by decide) wfX9_57 dX9_move_16 (v := ti (mI M 7 z1 7)) rfl ?_
      replace h := obind_some h
      obtain ⟨i4, ei4, h⟩ := h
      subst ei4
      replace h := obind_some h
      obtain ⟨x5, hc6, h⟩ := h
      refine tm_callV kX4 rfl (avs := [ti (mI M 7 z1 7)]) (st := [tr 4 i4]) (okX4_takesIn hc6) wcX9_60.1 wcX9_60.2.1 wcX9_60.2.2.1 wcX9_60.2.2.2 ⟨rfl, rfl, Nat.le_of_ble_eq_true rfl, Nat.le_of_ble_eq_true rfl⟩ rfl (Nat.le_of_ble_eq_true rfl) ⟨Nat.zero_le _, Nat.zero_le _⟩ dX9_move_19 ?_
      replace h := obind_some h
      obtain ⟨M8, hc7, h⟩ := h
      refine tm_callV kX4 rfl (avs := [ti x5]) (st := []) (okX4_drop hc7) wcX9_108.1 wcX9_108.2.1 wcX9_108.2.2.1 wcX9_108.2.2.2 ⟨rfl, rfl, Nat.le_of_ble_eq_true rfl, Nat.le_of_ble_eq_true rfl⟩ rfl (Nat.le_of_ble_eq_true rfl) ⟨Nat.zero_le _, Nat.zero_le _⟩ dX9_move_22 ?_
      refine tm_aload dX9_move_25 rfl ?_
      refine tm_get kX4 rfl (j := 12) (by decide) wfX9_64 dX9_move_27 (v := tq 4 (mR M8 4 i4 12)) rfl ?_
      replace h := bnd_some h
      obtain ⟨r9, er9, h⟩ := h
      refine tm_nmQ er9 ?_
      refine tm_astore (lc' := [(4, tq 4 r9), (1, tr 7 z1), (2, tl z2)]) dX9_move_30 (by decide) rfl ?_
      refine tm_goto (tgt := 6) dX9_move_32 (by decide) ?_
      refine tm_lcp [1, 2, 4] rfl ?_
      exact ih r9 M8 _ h J
set_option maxHeartbeats 4000000 in
set_option maxRecDepth 100000 in
theorem okX9_move_l60 {g : tG} (z1 : Nat) (z2 : Int64) (z4 : Nat) (z5 : Int32) {r : Option tV} {Mz : tM} : ∀ (n : Nat) (y6 : Int32) (M : tM) (w : tM), fX9_move_l60 z1 z2 z4 z5 n y6 M = some w → (∀ (Mw : tM), Mw = w → TW g iX9_move rmX9_move 0 0 r Mz 0 0 83 [(1, tr 7 z1), (2, tl z2), (4, tr 4 z4)] [] Mw) → TW g iX9_move rmX9_move 0 0 r Mz 0 0 60 [(1, tr 7 z1), (2, tl z2), (4, tr 4 z4), (5, ti z5), (6, ti y6)] [] M := by
  intro n
  induction n with
  | zero => intro y6 M w h; cases h
  | succ n ih =>
    intro y6 M w h J
    rw [fX9_move_l60] at h
    refine tm_iload dX9_move_60 rfl ?_
    refine tm_iload dX9_move_62 rfl ?_
    refine tm_icmp_ge (tgt := 83) dX9_move_64 (by decide) (fun c18 => ?_) (fun c18 => ?_)
    · rw [if_pos c18] at h
      obtain rfl := Option.some.inj h
      refine tm_lcp [1, 2, 4] rfl ?_
      exact J _ rfl
    · rw [if_neg c18] at h
      refine tm_aload dX9_move_67 rfl ?_
      refine tm_lload_n dX9_move_69 rfl rfl ?_
      refine tm_iload dX9_move_70 rfl ?_
      refine tm_i2l dX9_move_72 ?_
      refine tm_ladd dX9_move_73 ?_
      replace h := obind_some h
      obtain ⟨M20, hc19, h⟩ := h
      refine tm_callV kX4 rfl (avs := [tl (z2 + (y6.toInt64))]) (st := []) (okX4_put hc19) wcX9_112.1 wcX9_112.2.1 wcX9_112.2.2.1 wcX9_112.2.2.2 ⟨rfl, rfl, Nat.le_of_ble_eq_true rfl, Nat.le_of_ble_eq_true rfl⟩ rfl (Nat.le_of_ble_eq_true rfl) ⟨Nat.zero_le _, Nat.zero_le _⟩ dX9_move_74 ?_
      replace h := bnd_some h
      obtain ⟨x21, ex21, h⟩ := h
      refine tm_iinc (v := x21) (lc' := [(6, ti x21), (1, tr 7 z1), (2, tl z2), (4, tr 4 z4), (5, ti z5)]) dX9_move_77 rfl (by rw [ex21]; rfl) (by decide) rfl ?_
      refine tm_goto (tgt := 60) dX9_move_80 (by decide) ?_
      refine tm_lcp [1, 2, 4, 5, 6] rfl ?_
      exact ih x21 M20 _ h J
set_option maxHeartbeats 4000000 in
set_option maxRecDepth 100000 in
theorem okX9_move_l41 {g : tG} (z1 : Nat) (z2 : Int64) {r : Option tV} {Mz : tM} : ∀ (n : Nat) (y4 : Option Nat) (M : tM) (w : tM), fX9_move_l41 z1 z2 n y4 M = some w → (∀ (Mw : tM), Mw = w → TW g iX9_move rmX9_move 0 0 r Mz 0 0 93 [(1, tr 7 z1)] [] Mw) → TW g iX9_move rmX9_move 0 0 r Mz 0 0 41 [(1, tr 7 z1), (2, tl z2), (4, tq 4 y4)] [] M := by
  intro n
  induction n with
  | zero => intro y4 M w h; cases h
  | succ n ih =>
    intro y4 M w h J
    rw [fX9_move_l41] at h
    refine tm_aload dX9_move_41 rfl ?_
    refine tm_ifnull (k2 := 4) (q := y4) (tgt := 93) dX9_move_43 (by decide) (fun c14 => ?_) (fun c14 => ?_)
    · rw [if_pos c14] at h
      obtain rfl := Option.some.inj h
      refine tm_lcp [1] rfl ?_
      exact J _ rfl
    · rw [if_neg c14] at h
      refine tm_aload dX9_move_46 rfl ?_
      refine tm_aload_n dX9_move_48 rfl rfl ?_
      refine tm_get kX7 rfl (j := 7) (by decide) wfX9_57 dX9_move_49 (v := ti (mI M 7 z1 7)) rfl ?_
      replace h := obind_some h
      obtain ⟨i15, ei15, h⟩ := h
      subst ei15
      replace h := obind_some h
      obtain ⟨x16, hc17, h⟩ := h
      refine tm_callV kX4 rfl (avs := [ti (mI M 7 z1 7)]) (st := []) (okX4_givesIn hc17) wcX9_102.1 wcX9_102.2.1 wcX9_102.2.2.1 wcX9_102.2.2.2 ⟨rfl, rfl, Nat.le_of_ble_eq_true rfl, Nat.le_of_ble_eq_true rfl⟩ rfl (Nat.le_of_ble_eq_true rfl) ⟨Nat.zero_le _, Nat.zero_le _⟩ dX9_move_52 ?_
      refine tm_istore (lc' := [(5, ti x16), (1, tr 7 z1), (2, tl z2), (4, tr 4 i15)]) dX9_move_55 (by decide) rfl ?_
      refine tm_iconst (v := 0) dX9_move_57 (by decide) ?_
      refine tm_istore (lc' := [(6, ti 0), (5, ti x16), (1, tr 7 z1), (2, tl z2), (4, tr 4 i15)]) dX9_move_58 (by decide) rfl ?_
      replace h := obind_some h
      obtain ⟨w22, hE23, h⟩ := h
      refine tm_lcp [1, 2, 4, 5, 6] rfl ?_
      refine okX9_move_l60 z1 z2 i15 x16 FU 0 M _ hE23 (fun M24 e => ?_)
      subst e
      refine tm_aload dX9_move_83 rfl ?_
      refine tm_get kX4 rfl (j := 13) (by decide) wfX9_105 dX9_move_85 (v := tq 4 (mR M24 4 i15 13)) rfl ?_
      replace h := bnd_some h
      obtain ⟨r25, er25, h⟩ := h
      refine tm_nmQ er25 ?_
      refine tm_astore (lc' := [(4, tq 4 r25), (1, tr 7 z1), (2, tl z2)]) dX9_move_88 (by decide) rfl ?_
      refine tm_goto (tgt := 41) dX9_move_90 (by decide) ?_
      refine tm_lcp [1, 2, 4] rfl ?_
      exact ih r25 M24 _ h J
set_option maxHeartbeats 4000000 in
set_option maxRecDepth 100000 in
theorem okX9_move {g : tG} {a1 : Option Nat} {a2 : Int64} {M : tM} {Mz : tM} (h : fX9_move a1 a2 M = some Mz) : TMet g yX9_move (Cond.code yX9_move cX9_move 7 (none) :: tgd) rmX9_move [tr 9 0, tq 7 a1, tl a2] M none Mz 0 0 := by
  have key : TW g iX9_move rmX9_move 0 0 none Mz 0 0 0 [(0, tr 9 0), (1, tq 7 a1), (2, tl a2)] [] M := by
    rw [fX9_move] at h
    refine tm_aload_n dX9_move_0 rfl rfl ?_
    replace h := obind_some h
    obtain ⟨i1, ei1, h⟩ := h
    subst ei1
    refine tm_get kX7 rfl (j := 11) (by decide) wfX9_50 dX9_move_1 (v := tq 4 (mR M 7 i1 11)) rfl ?_
    replace h := bnd_some h
    obtain ⟨r2, er2, h⟩ := h
    refine tm_nmQ er2 ?_
    refine tm_astore (lc' := [(4, tq 4 r2), (0, tr 9 0), (1, tr 7 i1), (2, tl a2)]) dX9_move_4 (by decide) rfl ?_
    replace h := obind_some h
    obtain ⟨w10, hE11, h⟩ := h
    refine tm_lcp [1, 2, 4] rfl ?_
    refine okX9_move_l6 i1 a2 FU r2 M _ hE11 (fun M12 e => ?_)
    subst e
    refine tm_aload_n dX9_move_35 rfl rfl ?_
    refine tm_get kX7 rfl (j := 13) (by decide) wfX9_95 dX9_move_36 (v := tq 4 (mR M12 7 i1 13)) rfl ?_
    replace h := bnd_some h
    obtain ⟨r13, er13, h⟩ := h
    refine tm_nmQ er13 ?_
    refine tm_astore (lc' := [(4, tq 4 r13), (1, tr 7 i1), (2, tl a2)]) dX9_move_39 (by decide) rfl ?_
    replace h := obind_some h
    obtain ⟨w26, hE27, h⟩ := h
    refine tm_lcp [1, 2, 4] rfl ?_
    refine okX9_move_l41 i1 a2 FU r13 M12 _ hE27 (fun M28 e => ?_)
    subst e
    refine tm_aload_n dX9_move_93 rfl rfl ?_
    refine tm_aload_n dX9_move_94 rfl rfl ?_
    refine tm_aload_n dX9_move_95 rfl rfl ?_
    refine tm_get kX7 rfl (j := 7) (by decide) wfX9_57 dX9_move_96 (v := ti (mI M28 7 i1 7)) rfl ?_
    replace h := obind_some h
    obtain ⟨x29, hc30, h⟩ := h
    refine tm_callV kX7 rfl (avs := [ti (mI M28 7 i1 7)]) (st := [tr 7 i1]) (okX7_phaseBehind hc30) wcX9_116.1 wcX9_116.2.1 wcX9_116.2.2.1 wcX9_116.2.2.2 ⟨rfl, rfl, Nat.le_of_ble_eq_true rfl, Nat.le_of_ble_eq_true rfl⟩ rfl (Nat.le_of_ble_eq_true rfl) ⟨Nat.zero_le _, Nat.zero_le _⟩ dX9_move_99 ?_
    replace h := bnd_some h
    obtain ⟨M31, eM31, h⟩ := h
    refine tm_put kX7 rfl (j := 7) (by decide) wfX9_57 rfl dX9_move_102 (fun _ => ⟨rfl, rfl⟩) (tPut_I x29 rfl) ?_
    refine tm_nmM eM31 ?_
    obtain rfl := Option.some.inj h
    exact tm_vret rfl dX9_move_105
  exact TMet.of (by decide) (Nat.le_of_ble_eq_true rfl) key
