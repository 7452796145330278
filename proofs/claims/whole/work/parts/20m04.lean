theorem wcX11_280 : tCB RX11 280 yX11_balance cX11_balance 7 (some .int) 0 ∧ Cond.methodLink RX11 280 yX11_balance ∈ tgd ∧ Cond.instanceMethod yX11_balance ∈ tgd ∧ Cond.selects RX11 yX11_balance yX11_balance ∈ tgd := ⟨⟨(tgd_t 1550 (by decide +kernel) (by decide +kernel)), (tgd_t 10 (by decide +kernel) (by decide +kernel)), by decide, by decide +kernel⟩, (tgd_t 1547 (by decide +kernel) (by decide +kernel)), (tgd_t 1549 (by decide +kernel) (by decide +kernel)), (tgd_p 62 (by decide +kernel) (by decide +kernel))⟩
abbrev iX11_round : tY := (RX11, cX11_round, 2, some .int, "round")
abbrev rmX11_round : Room := { frames := 4, cells := 0, slots := 0, locals := 124 }
def fX11_round  (M : tM) : Option (Int32 × tM) :=
  if (mI M 11 0 2) = 0 then (
  some (((-4), M))
  ) else (
  (fX11_balance M).bind fun (x2, M4) =>
  if x2 = 1 then (
  some ((mI M4 11 0 36, M4))
  ) else (
  some ((x2, M4))
  )
  )
set_option maxHeartbeats 4000000 in
set_option maxRecDepth 100000 in
theorem okX11_round {g : tG}  {M : tM} {v : Int32} {Mz : tM} (h : fX11_round  M = some ((v, Mz))) : TMet g yX11_round (Cond.code yX11_round cX11_round 2 (some .int) :: tgd) rmX11_round [tr 11 0] M (some (ti v)) Mz 0 0 := by
  have key : TW g iX11_round rmX11_round 0 0 (some (ti v)) Mz 0 0 0 [(0, tr 11 0)] [] M := by
    rw [fX11_round] at h
    refine tm_aload_n dX11_round_0 rfl rfl ?_
    refine tm_get kX11 rfl (j := 2) (by decide) wfX11_202 dX11_round_1 (v := ti (mI M 11 0 2)) rfl ?_
    refine tm_if_ne (tgt := 10) dX11_round_4 (by decide) (fun c1 => ?_) (fun c1 => ?_)
    · rw [if_neg c1] at h
      refine tm_aload_n dX11_round_10 rfl rfl ?_
      obtain ⟨⟨x2, M4⟩, hc3, h⟩ := obind_some h
      dsimp only at h
      refine tm_callV kX11 rfl (avs := []) (st := []) (okX11_balance hc3) wcX11_280.1 wcX11_280.2.1 wcX11_280.2.2.1 wcX11_280.2.2.2 ⟨rfl, rfl, Nat.le_of_ble_eq_true rfl, Nat.le_of_ble_eq_true rfl⟩ rfl (Nat.le_of_ble_eq_true rfl) ⟨Nat.zero_le _, Nat.zero_le _⟩ dX11_round_11 ?_
      refine tm_istore_n (lc' := [(1, ti x2), (0, tr 11 0)]) dX11_round_14 rfl (by decide) rfl ?_
      refine tm_iload_n dX11_round_15 rfl rfl ?_
      refine tm_iconst (v := 1) dX11_round_16 (by decide) ?_
      refine tm_icmp_ne (tgt := 27) dX11_round_17 (by decide) (fun c5 => ?_) (fun c5 => ?_)
      · rw [if_neg c5] at h
        refine tm_iload_n dX11_round_27 rfl rfl ?_
        obtain ⟨rfl, rfl⟩ := pj2 h
        exact tm_iret rfl dX11_round_28
      · rw [if_pos c5] at h
        refine tm_aload_n dX11_round_20 rfl rfl ?_
        refine tm_get kX11 rfl (j := 36) (by decide) wfX11_273 dX11_round_21 (v := ti (mI M4 11 0 36)) rfl ?_
        refine tm_goto (tgt := 28) dX11_round_24 (by decide) ?_
        obtain ⟨rfl, rfl⟩ := pj2 h
        exact tm_iret rfl dX11_round_28
    · rw [if_pos c1] at h
      refine tm_bipush (v := (-4)) dX11_round_7 (by decide) ?_
      obtain ⟨rfl, rfl⟩ := pj2 h
      exact tm_iret rfl dX11_round_9
  exact TMet.of (by decide) (Nat.le_of_ble_eq_true rfl) key
abbrev iX11_firings : tY := (RX11, cX11_firings, 3, some .int, "firings")
abbrev rmX11_firings : Room := { frames := 4, cells := 0, slots := 0, locals := 124 }
def fX11_firings (a1 : Int32) (M : tM) : Option (Int32 × tM) :=
  (fX11_isPart a1 M).bind fun x1 =>
  if x1 = 0 then (
  some (((-1), M))
  ) else (
  (fX11_balance M).bind fun (x4, M6) =>
  if x4 = 1 then (
  chk (inb a1 (mN M6 1235 0)) <|
  some ((mI M6 1235 0 (a1.toNatClampNeg), M6))
  ) else (
  some ((x4, M6))
  )
  )
set_option maxHeartbeats 4000000 in
set_option maxRecDepth 100000 in
theorem okX11_firings {g : tG} {a1 : Int32} {M : tM} {v : Int32} {Mz : tM} (h : fX11_firings a1 M = some ((v, Mz))) : TMet g yX11_firings (Cond.code yX11_firings cX11_firings 3 (some .int) :: tgd) rmX11_firings [tr 11 0, ti a1] M (some (ti v)) Mz 0 0 := by
  have key : TW g iX11_firings rmX11_firings 0 0 (some (ti v)) Mz 0 0 0 [(0, tr 11 0), (1, ti a1)] [] M := by
    rw [fX11_firings] at h
    refine tm_aload_n dX11_firings_0 rfl rfl ?_
    refine tm_iload_n dX11_firings_1 rfl rfl ?_
    obtain ⟨x1, hc2, h⟩ := obind_some h
    refine tm_callV kX11 rfl (avs := [ti a1]) (st := []) (okX11_isPart hc2) wcX11_228.1 wcX11_228.2.1 wcX11_228.2.2.1 wcX11_228.2.2.2 ⟨rfl, rfl, Nat.le_of_ble_eq_true rfl, Nat.le_of_ble_eq_true rfl⟩ rfl (Nat.le_of_ble_eq_true rfl) ⟨Nat.zero_le _, Nat.zero_le _⟩ dX11_firings_2 ?_
    refine tm_if_ne (tgt := 10) dX11_firings_5 (by decide) (fun c3 => ?_) (fun c3 => ?_)
    · rw [if_neg c3] at h
      refine tm_aload_n dX11_firings_10 rfl rfl ?_
      obtain ⟨⟨x4, M6⟩, hc5, h⟩ := obind_some h
      dsimp only at h
      refine tm_callV kX11 rfl (avs := []) (st := []) (okX11_balance hc5) wcX11_280.1 wcX11_280.2.1 wcX11_280.2.2.1 wcX11_280.2.2.2 ⟨rfl, rfl, Nat.le_of_ble_eq_true rfl, Nat.le_of_ble_eq_true rfl⟩ rfl (Nat.le_of_ble_eq_true rfl) ⟨Nat.zero_le _, Nat.zero_le _⟩ dX11_firings_11 ?_
      refine tm_istore_n (lc' := [(2, ti x4), (0, tr 11 0), (1, ti a1)]) dX11_firings_14 rfl (by decide) rfl ?_
      refine tm_iload_n dX11_firings_15 rfl rfl ?_
      refine tm_iconst (v := 1) dX11_firings_16 (by decide) ?_
      refine tm_icmp_ne (tgt := 29) dX11_firings_17 (by decide) (fun c7 => ?_) (fun c7 => ?_)
      · rw [if_neg c7] at h
        refine tm_iload_n dX11_firings_29 rfl rfl ?_
        obtain ⟨rfl, rfl⟩ := pj2 h
        exact tm_iret rfl dX11_firings_30
      · rw [if_pos c7] at h
        refine tm_aload_n dX11_firings_20 rfl rfl ?_
        refine tm_get kX11 rfl (j := 35) (by decide) wfX11_95 dX11_firings_21 (v := tr 1235 0) rfl ?_
        refine tm_iload_n dX11_firings_24 rfl rfl ?_
        obtain ⟨b8, h⟩ := chk_some h
        refine tm_iald rfl dX11_firings_25 (inb_vp b8) ?_
        refine tm_goto (tgt := 30) dX11_firings_26 (by decide) ?_
        obtain ⟨rfl, rfl⟩ := pj2 h
        exact tm_iret rfl dX11_firings_30
    · rw [if_pos c3] at h
      refine tm_iconst (v := (-1)) dX11_firings_8 (by decide) ?_
      obtain ⟨rfl, rfl⟩ := pj2 h
      exact tm_iret rfl dX11_firings_9
  exact TMet.of (by decide) (Nat.le_of_ble_eq_true rfl) key
abbrev iX11_uneven : tY := (RX11, cX11_uneven, 2, some .int, "uneven")
abbrev rmX11_uneven : Room := { frames := 4, cells := 0, slots := 0, locals := 124 }
def fX11_uneven  (M : tM) : Option (Int32 × tM) :=
  if (mI M 11 0 2) = 0 then (
  some (((-4), M))
  ) else (
  (fX11_balance M).bind fun (x2, M4) =>
  some ((mI M4 11 0 37, M4))
  )
set_option maxHeartbeats 4000000 in
set_option maxRecDepth 100000 in
theorem okX11_uneven {g : tG}  {M : tM} {v : Int32} {Mz : tM} (h : fX11_uneven  M = some ((v, Mz))) : TMet g yX11_uneven (Cond.code yX11_uneven cX11_uneven 2 (some .int) :: tgd) rmX11_uneven [tr 11 0] M (some (ti v)) Mz 0 0 := by
  have key : TW g iX11_uneven rmX11_uneven 0 0 (some (ti v)) Mz 0 0 0 [(0, tr 11 0)] [] M := by
    rw [fX11_uneven] at h
    refine tm_aload_n dX11_uneven_0 rfl rfl ?_
    refine tm_get kX11 rfl (j := 2) (by decide) wfX11_202 dX11_uneven_1 (v := ti (mI M 11 0 2)) rfl ?_
    refine tm_if_ne (tgt := 10) dX11_uneven_4 (by decide) (fun c1 => ?_) (fun c1 => ?_)
    · rw [if_neg c1] at h
      refine tm_aload_n dX11_uneven_10 rfl rfl ?_
      obtain ⟨⟨x2, M4⟩, hc3, h⟩ := obind_some h
      dsimp only at h
      refine tm_callV kX11 rfl (avs := []) (st := []) (okX11_balance hc3) wcX11_280.1 wcX11_280.2.1 wcX11_280.2.2.1 wcX11_280.2.2.2 ⟨rfl, rfl, Nat.le_of_ble_eq_true rfl, Nat.le_of_ble_eq_true rfl⟩ rfl (Nat.le_of_ble_eq_true rfl) ⟨Nat.zero_le _, Nat.zero_le _⟩ dX11_uneven_11 ?_
      refine tm_istore_n (lc' := [(1, ti x2), (0, tr 11 0)]) dX11_uneven_14 rfl (by decide) rfl ?_
      refine tm_aload_n dX11_uneven_15 rfl rfl ?_
      refine tm_get kX11 rfl (j := 37) (by decide) wfX11_258 dX11_uneven_16 (v := ti (mI M4 11 0 37)) rfl ?_
      obtain ⟨rfl, rfl⟩ := pj2 h
      exact tm_iret rfl dX11_uneven_19
    · rw [if_pos c1] at h
      refine tm_bipush (v := (-4)) dX11_uneven_7 (by decide) ?_
      obtain ⟨rfl, rfl⟩ := pj2 h
      exact tm_iret rfl dX11_uneven_9
  exact TMet.of (by decide) (Nat.le_of_ble_eq_true rfl) key
theorem wfX11_98 : Cond.fieldLink RX11 98 "EvenFlowModel" "mark" "[I" ∈ tgd := (tgd_t 1263 (by decide +kernel) (by decide +kernel))
theorem wfX11_101 : Cond.fieldLink RX11 101 "EvenFlowModel" "at" "[I" ∈ tgd := (tgd_t 1264 (by decide +kernel) (by decide +kernel))
theorem wfX11_104 : Cond.fieldLink RX11 104 "EvenFlowModel" "left" "[I" ∈ tgd := (tgd_t 1265 (by decide +kernel) (by decide +kernel))
theorem wfX11_107 : Cond.fieldLink RX11 107 "EvenFlowModel" "more" "[I" ∈ tgd := (tgd_t 1266 (by decide +kernel) (by decide +kernel))
abbrev iX11_markFirst : tY := (RX11, cX11_markFirst, 3, none, "markFirst")
abbrev rmX11_markFirst : Room := { frames := 0, cells := 0, slots := 0, locals := 0 }
def fX11_markFirst_l2 (z1 : Int32) : Nat → Int32 → tM → Option (tM)
  | 0, _, _ => none
  | n + 1, y2, M =>
    if (mI M 11 0 12) ≤ y2 then (
    some M
    ) else (
    chk (inb y2 (mN M 1217 0)) <|
    Option.bind (α := Int32) (
    if z1 = 0 then (
    some 0
    ) else (
    chk (inb y2 (mN M 1241 0)) <|
    some (mI M 1241 0 (y2.toNatClampNeg))
    )
    ) fun x4 =>
    chk (inb y2 (mN M 1238 0)) <|
    bnd (sI M 1238 0 (y2.toNatClampNeg) ((mI M 1217 0 (y2.toNatClampNeg)) + x4)) fun M8 =>
    bnd (y2 + 1) fun x9 =>
    fX11_markFirst_l2 z1 n x9 M8
    )
def fX11_markFirst_l45  : Nat → Int32 → tM → Option (tM)
  | 0, _, _ => none
  | n + 1, y2, M =>
    if (mI M 11 0 2) ≤ y2 then (
    some M
    ) else (
    chk (inb y2 (mN M 1239 0)) <|
    bnd (sI M 1239 0 (y2.toNatClampNeg) 0) fun M15 =>
    chk (inb y2 (mN M15 1235 0)) <|
    chk (inb y2 (mN M15 1240 0)) <|
    bnd (sI M15 1240 0 (y2.toNatClampNeg) (mI M15 1235 0 (y2.toNatClampNeg))) fun M18 =>
    bnd (y2 + 1) fun x19 =>
    fX11_markFirst_l45 n x19 M18
    )
def fX11_markFirst (a1 : Int32) (M : tM) : Option (tM) :=
  Option.bind (fX11_markFirst_l2 a1 FU 0 M) fun M12 =>
  Option.bind (fX11_markFirst_l45 FU 0 M12) fun M22 =>
  some M22
set_option maxHeartbeats 4000000 in
set_option maxRecDepth 100000 in
theorem okX11_markFirst_l2 {g : tG} (z1 : Int32) {r : Option tV} {Mz : tM} : ∀ (n : Nat) (y2 : Int32) (M : tM) (w : tM), fX11_markFirst_l2 z1 n y2 M = some w → (∀ (Mw : tM), Mw = w → TW g iX11_markFirst rmX11_markFirst 0 0 r Mz 0 0 43 [(0, tr 11 0)] [] Mw) → TW g iX11_markFirst rmX11_markFirst 0 0 r Mz 0 0 2 [(0, tr 11 0), (1, ti z1), (2, ti y2)] [] M := by
  intro n
  induction n with
  | zero => intro y2 M w h; cases h
  | succ n ih =>
    intro y2 M w h J
    rw [fX11_markFirst_l2] at h
    refine tm_iload_n dX11_markFirst_2 rfl rfl ?_
    refine tm_aload_n dX11_markFirst_3 rfl rfl ?_
    refine tm_get kX11 rfl (j := 12) (by decide) wfX11_209 dX11_markFirst_4 (v := ti (mI M 11 0 12)) rfl ?_
    refine tm_icmp_ge (tgt := 43) dX11_markFirst_7 (by decide) (fun c1 => ?_) (fun c1 => ?_)
    · rw [if_pos c1] at h
      obtain rfl := Option.some.inj h
      refine tm_lcp [0] rfl ?_
      exact J _ rfl
    · rw [if_neg c1] at h
      refine tm_aload_n dX11_markFirst_10 rfl rfl ?_
      refine tm_get kX11 rfl (j := 38) (by decide) wfX11_98 dX11_markFirst_11 (v := tr 1238 0) rfl ?_
      refine tm_iload_n dX11_markFirst_14 rfl rfl ?_
      refine tm_aload_n dX11_markFirst_15 rfl rfl ?_
      refine tm_get kX11 rfl (j := 17) (by decide) wfX11_53 dX11_markFirst_16 (v := tr 1217 0) rfl ?_
      refine tm_iload_n dX11_markFirst_19 rfl rfl ?_
      obtain ⟨b2, h⟩ := chk_some h
      refine tm_iald rfl dX11_markFirst_20 (inb_vp b2) ?_
      refine tm_iload_n dX11_markFirst_21 rfl rfl ?_
      obtain ⟨x4, hE5, h⟩ := obind_some h
      have J6 : TW g iX11_markFirst rmX11_markFirst 0 0 r Mz 0 0 35 [(0, tr 11 0), (1, ti z1), (2, ti y2)] [ti x4, ti (mI M 1217 0 (y2.toNatClampNeg)), ti y2, tr 1238 0] M := by
        refine tm_iadd dX11_markFirst_35 ?_
        obtain ⟨b7, h⟩ := chk_some h
        obtain ⟨M8, eM8, h⟩ := bnd_some h
        refine tm_iast rfl dX11_markFirst_36 (inb_vp b7) ?_
        refine tm_nmM eM8 ?_
        obtain ⟨x9, ex9, h⟩ := bnd_some h
        refine tm_iinc (v := x9) (lc' := [(2, ti x9), (0, tr 11 0), (1, ti z1)]) dX11_markFirst_37 rfl (by rw [ex9]; rfl) (by decide) rfl ?_
        refine tm_goto (tgt := 2) dX11_markFirst_40 (by decide) ?_
        refine tm_lcp [0, 1, 2] rfl ?_
        exact ih x9 M8 _ h J
      refine tm_if_eq (tgt := 34) dX11_markFirst_22 (by decide) (fun c3 => ?_) (fun c3 => ?_)
      · rw [if_pos c3] at hE5
        refine tm_iconst (v := 0) dX11_markFirst_34 (by decide) ?_
        obtain rfl := Option.some.inj hE5
        refine tm_lcp [0, 1, 2] rfl ?_
        exact J6
      · rw [if_neg c3] at hE5
        refine tm_aload_n dX11_markFirst_25 rfl rfl ?_
        refine tm_get kX11 rfl (j := 41) (by decide) wfX11_107 dX11_markFirst_26 (v := tr 1241 0) rfl ?_
        refine tm_iload_n dX11_markFirst_29 rfl rfl ?_
        obtain ⟨b4, hE5⟩ := chk_some hE5
        refine tm_iald rfl dX11_markFirst_30 (inb_vp b4) ?_
        refine tm_goto (tgt := 35) dX11_markFirst_31 (by decide) ?_
        obtain rfl := Option.some.inj hE5
        refine tm_lcp [0, 1, 2] rfl ?_
        exact J6
set_option maxHeartbeats 4000000 in
set_option maxRecDepth 100000 in
theorem okX11_markFirst_l45 {g : tG}  {r : Option tV} {Mz : tM} : ∀ (n : Nat) (y2 : Int32) (M : tM) (w : tM), fX11_markFirst_l45 n y2 M = some w → (∀ (Mw : tM), Mw = w → TW g iX11_markFirst rmX11_markFirst 0 0 r Mz 0 0 78 [] [] Mw) → TW g iX11_markFirst rmX11_markFirst 0 0 r Mz 0 0 45 [(0, tr 11 0), (2, ti y2)] [] M := by
  intro n
  induction n with
  | zero => intro y2 M w h; cases h
  | succ n ih =>
    intro y2 M w h J
    rw [fX11_markFirst_l45] at h
    refine tm_iload_n dX11_markFirst_45 rfl rfl ?_
    refine tm_aload_n dX11_markFirst_46 rfl rfl ?_
    refine tm_get kX11 rfl (j := 2) (by decide) wfX11_202 dX11_markFirst_47 (v := ti (mI M 11 0 2)) rfl ?_
    refine tm_icmp_ge (tgt := 78) dX11_markFirst_50 (by decide) (fun c13 => ?_) (fun c13 => ?_)
    · rw [if_pos c13] at h
      obtain rfl := Option.some.inj h
      refine tm_lcp [] rfl ?_
      exact J _ rfl
    · rw [if_neg c13] at h
      refine tm_aload_n dX11_markFirst_53 rfl rfl ?_
      refine tm_get kX11 rfl (j := 39) (by decide) wfX11_101 dX11_markFirst_54 (v := tr 1239 0) rfl ?_
      refine tm_iload_n dX11_markFirst_57 rfl rfl ?_
      refine tm_iconst (v := 0) dX11_markFirst_58 (by decide) ?_
      obtain ⟨b14, h⟩ := chk_some h
      obtain ⟨M15, eM15, h⟩ := bnd_some h
      refine tm_iast rfl dX11_markFirst_59 (inb_vp b14) ?_
      refine tm_nmM eM15 ?_
      refine tm_aload_n dX11_markFirst_60 rfl rfl ?_
      refine tm_get kX11 rfl (j := 40) (by decide) wfX11_104 dX11_markFirst_61 (v := tr 1240 0) rfl ?_
      refine tm_iload_n dX11_markFirst_64 rfl rfl ?_
      refine tm_aload_n dX11_markFirst_65 rfl rfl ?_
      refine tm_get kX11 rfl (j := 35) (by decide) wfX11_95 dX11_markFirst_66 (v := tr 1235 0) rfl ?_
      refine tm_iload_n dX11_markFirst_69 rfl rfl ?_
      obtain ⟨b16, h⟩ := chk_some h
      refine tm_iald rfl dX11_markFirst_70 (inb_vp b16) ?_
      obtain ⟨b17, h⟩ := chk_some h
      obtain ⟨M18, eM18, h⟩ := bnd_some h
      refine tm_iast rfl dX11_markFirst_71 (inb_vp b17) ?_
      refine tm_nmM eM18 ?_
      obtain ⟨x19, ex19, h⟩ := bnd_some h
      refine tm_iinc (v := x19) (lc' := [(2, ti x19), (0, tr 11 0)]) dX11_markFirst_72 rfl (by rw [ex19]; rfl) (by decide) rfl ?_
      refine tm_goto (tgt := 45) dX11_markFirst_75 (by decide) ?_
      refine tm_lcp [0, 2] rfl ?_
      exact ih x19 M18 _ h J
set_option maxHeartbeats 4000000 in
set_option maxRecDepth 100000 in
theorem okX11_markFirst {g : tG} {a1 : Int32} {M : tM} {Mz : tM} (h : fX11_markFirst a1 M = some Mz) : TMet g yX11_markFirst (Cond.code yX11_markFirst cX11_markFirst 3 (none) :: tgd) rmX11_markFirst [tr 11 0, ti a1] M none Mz 0 0 := by
  have key : TW g iX11_markFirst rmX11_markFirst 0 0 none Mz 0 0 0 [(0, tr 11 0), (1, ti a1)] [] M := by
    rw [fX11_markFirst] at h
    refine tm_iconst (v := 0) dX11_markFirst_0 (by decide) ?_
    refine tm_istore_n (lc' := [(2, ti 0), (0, tr 11 0), (1, ti a1)]) dX11_markFirst_1 rfl (by decide) rfl ?_
    obtain ⟨w10, hE11, h⟩ := obind_some h
    refine tm_lcp [0, 1, 2] rfl ?_
    refine okX11_markFirst_l2 a1 FU 0 M _ hE11 (fun M12 e => ?_)
    subst e
    refine tm_iconst (v := 0) dX11_markFirst_43 (by decide) ?_
    refine tm_istore_n (lc' := [(2, ti 0), (0, tr 11 0)]) dX11_markFirst_44 rfl (by decide) rfl ?_
    obtain ⟨w20, hE21, h⟩ := obind_some h
    refine tm_lcp [0, 2] rfl ?_
    refine okX11_markFirst_l45  FU 0 M12 _ hE21 (fun M22 e => ?_)
    subst e
    obtain rfl := Option.some.inj h
    exact tm_vret rfl dX11_markFirst_78
  exact TMet.of (by decide) (Nat.le_of_ble_eq_true rfl) key
abbrev iX11_mayMark : tY := (RX11, cX11_mayMark, 4, some .boolean, "mayMark")
abbrev rmX11_mayMark : Room := { frames := 0, cells := 0, slots := 0, locals := 0 }
def fX11_mayMark_l4 (z1 : Int32) (M : tM) : Nat → Int32 → Int32 → Option (Int32)
  | 0, _, _ => none
  | n + 1, y2, y3 =>
    if (mI M 11 0 12) ≤ y3 then (
    some y2
    ) else (
    Option.bind (α := Int32) (
    if y2 = 0 then (
    some 0
    ) else (
    chk (inb y3 (mN M 1214 0)) <|
    if (mI M 1214 0 (y3.toNatClampNeg)) = z1 then (
    chk (inb y3 (mN M 1238 0)) <|
    chk (inb z1 (mN M 1239 0)) <|
    chk (inb ((4 * y3) + (mI M 1239 0 (z1.toNatClampNeg))) (mN M 1216 0)) <|
    if (mI M 1238 0 (y3.toNatClampNeg)) < (mI M 1216 0 (((4 * y3) + (mI M 1239 0 (z1.toNatClampNeg))).toNatClampNeg)) then (
    some 0
    ) else (
    some 1
    )
    ) else (
    some 1
    )
    )
    ) fun x3 =>
    bnd (y3 + 1) fun x9 =>
    fX11_mayMark_l4 z1 M n x3 x9
    )
def fX11_mayMark (a1 : Int32) (M : tM) : Option (Int32) :=
  Option.bind (fX11_mayMark_l4 a1 M FU 1 0) fun x12 =>
  chk (tb x12) <|
  some x12
set_option maxHeartbeats 4000000 in
set_option maxRecDepth 100000 in
theorem okX11_mayMark_l4 {g : tG} (z1 : Int32) (M : tM) {r : Option tV} {Mz : tM} : ∀ (n : Nat) (y2 : Int32) (y3 : Int32) (w : Int32), fX11_mayMark_l4 z1 M n y2 y3 = some w → (∀ (w2 : Int32), w2 = w → TW g iX11_mayMark rmX11_mayMark 0 0 r Mz 0 0 62 [(2, ti w2)] [] M) → TW g iX11_mayMark rmX11_mayMark 0 0 r Mz 0 0 4 [(0, tr 11 0), (1, ti z1), (2, ti y2), (3, ti y3)] [] M := by
  intro n
  induction n with
  | zero => intro y2 y3 w h; cases h
  | succ n ih =>
    intro y2 y3 w h J
    rw [fX11_mayMark_l4] at h
    refine tm_iload_n dX11_mayMark_4 rfl rfl ?_
    refine tm_aload_n dX11_mayMark_5 rfl rfl ?_
    refine tm_get kX11 rfl (j := 12) (by decide) wfX11_209 dX11_mayMark_6 (v := ti (mI M 11 0 12)) rfl ?_
    refine tm_icmp_ge (tgt := 62) dX11_mayMark_9 (by decide) (fun c1 => ?_) (fun c1 => ?_)
    · rw [if_pos c1] at h
      obtain rfl := Option.some.inj h
      refine tm_lcp [2] rfl ?_
      exact J _ rfl
    · rw [if_neg c1] at h
      refine tm_iload_n dX11_mayMark_12 rfl rfl ?_
      obtain ⟨x3, hE4, h⟩ := obind_some h
      have J5 : TW g iX11_mayMark rmX11_mayMark 0 0 r Mz 0 0 55 [(0, tr 11 0), (1, ti z1), (3, ti y3)] [ti x3] M := by
        refine tm_istore_n (lc' := [(2, ti x3), (0, tr 11 0), (1, ti z1), (3, ti y3)]) dX11_mayMark_55 rfl (by decide) rfl ?_
        obtain ⟨x9, ex9, h⟩ := bnd_some h
        refine tm_iinc (v := x9) (lc' := [(3, ti x9), (2, ti x3), (0, tr 11 0), (1, ti z1)]) dX11_mayMark_56 rfl (by rw [ex9]; rfl) (by decide) rfl ?_
        refine tm_goto (tgt := 4) dX11_mayMark_59 (by decide) ?_
        refine tm_lcp [0, 1, 2, 3] rfl ?_
        exact ih x3 x9 _ h J
      refine tm_if_eq (tgt := 54) dX11_mayMark_13 (by decide) (fun c2 => ?_) (fun c2 => ?_)
      · rw [if_pos c2] at hE4
        refine tm_iconst (v := 0) dX11_mayMark_54 (by decide) ?_
        obtain rfl := Option.some.inj hE4
        refine tm_lcp [0, 1, 3] rfl ?_
        exact J5
      · rw [if_neg c2] at hE4
        refine tm_aload_n dX11_mayMark_16 rfl rfl ?_
        refine tm_get kX11 rfl (j := 14) (by decide) wfX11_44 dX11_mayMark_17 (v := tr 1214 0) rfl ?_
        refine tm_iload_n dX11_mayMark_20 rfl rfl ?_
        obtain ⟨b3, hE4⟩ := chk_some hE4
        refine tm_iald rfl dX11_mayMark_21 (inb_vp b3) ?_
        refine tm_iload_n dX11_mayMark_22 rfl rfl ?_
        refine tm_icmp_ne (tgt := 50) dX11_mayMark_23 (by decide) (fun c4 => ?_) (fun c4 => ?_)
        · rw [if_neg c4] at hE4
          refine tm_iconst (v := 1) dX11_mayMark_50 (by decide) ?_
          refine tm_goto (tgt := 55) dX11_mayMark_51 (by decide) ?_
          obtain rfl := Option.some.inj hE4
          refine tm_lcp [0, 1, 3] rfl ?_
          exact J5
        · rw [if_pos c4] at hE4
          refine tm_aload_n dX11_mayMark_26 rfl rfl ?_
          refine tm_get kX11 rfl (j := 38) (by decide) wfX11_98 dX11_mayMark_27 (v := tr 1238 0) rfl ?_
          refine tm_iload_n dX11_mayMark_30 rfl rfl ?_
          obtain ⟨b5, hE4⟩ := chk_some hE4
          refine tm_iald rfl dX11_mayMark_31 (inb_vp b5) ?_
          refine tm_aload_n dX11_mayMark_32 rfl rfl ?_
          refine tm_get kX11 rfl (j := 16) (by decide) wfX11_50 dX11_mayMark_33 (v := tr 1216 0) rfl ?_
          refine tm_iconst (v := 4) dX11_mayMark_36 (by decide) ?_
          refine tm_iload_n dX11_mayMark_37 rfl rfl ?_
          refine tm_imul dX11_mayMark_38 ?_
          refine tm_aload_n dX11_mayMark_39 rfl rfl ?_
          refine tm_get kX11 rfl (j := 39) (by decide) wfX11_101 dX11_mayMark_40 (v := tr 1239 0) rfl ?_
          refine tm_iload_n dX11_mayMark_43 rfl rfl ?_
          obtain ⟨b6, hE4⟩ := chk_some hE4
          refine tm_iald rfl dX11_mayMark_44 (inb_vp b6) ?_
          refine tm_iadd dX11_mayMark_45 ?_
          obtain ⟨b7, hE4⟩ := chk_some hE4
          refine tm_iald rfl dX11_mayMark_46 (inb_vp b7) ?_
          refine tm_icmp_lt (tgt := 54) dX11_mayMark_47 (by decide) (fun c8 => ?_) (fun c8 => ?_)
          · rw [if_pos c8] at hE4
            refine tm_iconst (v := 0) dX11_mayMark_54 (by decide) ?_
            obtain rfl := Option.some.inj hE4
            refine tm_lcp [0, 1, 3] rfl ?_
            exact J5
          · rw [if_neg c8] at hE4
            refine tm_iconst (v := 1) dX11_mayMark_50 (by decide) ?_
            refine tm_goto (tgt := 55) dX11_mayMark_51 (by decide) ?_
            obtain rfl := Option.some.inj hE4
            refine tm_lcp [0, 1, 3] rfl ?_
            exact J5
set_option maxHeartbeats 4000000 in
set_option maxRecDepth 100000 in
theorem okX11_mayMark {g : tG} {a1 : Int32} {M : tM} {v : Int32} (h : fX11_mayMark a1 M = some v) : TMet g yX11_mayMark (Cond.code yX11_mayMark cX11_mayMark 4 (some .boolean) :: tgd) rmX11_mayMark [tr 11 0, ti a1] M (some (ti v)) M 0 0 := by
  have key : TW g iX11_mayMark rmX11_mayMark 0 0 (some (ti v)) M 0 0 0 [(0, tr 11 0), (1, ti a1)] [] M := by
    rw [fX11_mayMark] at h
    refine tm_iconst (v := 1) dX11_mayMark_0 (by decide) ?_
    refine tm_istore_n (lc' := [(2, ti 1), (0, tr 11 0), (1, ti a1)]) dX11_mayMark_1 rfl (by decide) rfl ?_
    refine tm_iconst (v := 0) dX11_mayMark_2 (by decide) ?_
    refine tm_istore_n (lc' := [(3, ti 0), (2, ti 1), (0, tr 11 0), (1, ti a1)]) dX11_mayMark_3 rfl (by decide) rfl ?_
    obtain ⟨w10, hE11, h⟩ := obind_some h
    refine tm_lcp [0, 1, 2, 3] rfl ?_
    refine okX11_mayMark_l4 a1 M FU 1 0 _ hE11 (fun x12 e => ?_)
    subst e
    refine tm_iload_n dX11_mayMark_62 rfl rfl ?_
    obtain ⟨b13, h⟩ := chk_some h
    obtain rfl := Option.some.inj h
    exact tm_zret (tb_n b13) rfl dX11_mayMark_63
  exact TMet.of (by decide) (Nat.le_of_ble_eq_true rfl) key
abbrev iX11_fireMark : tY := (RX11, cX11_fireMark, 3, none, "fireMark")
abbrev rmX11_fireMark : Room := { frames := 0, cells := 0, slots := 0, locals := 0 }
def fX11_fireMark_l2 (z1 : Int32) : Nat → Int32 → tM → Option (tM)
  | 0, _, _ => none
  | n + 1, y2, M =>
    if (mI M 11 0 12) ≤ y2 then (
    some M
    ) else (
    chk (inb y2 (mN M 1238 0)) <|
    chk (inb y2 (mN M 1214 0)) <|
    Option.bind (α := Int32) (
    if (mI M 1214 0 (y2.toNatClampNeg)) = z1 then (
    chk (inb z1 (mN M 1239 0)) <|
    chk (inb ((4 * y2) + (mI M 1239 0 (z1.toNatClampNeg))) (mN M 1216 0)) <|
    some (mI M 1216 0 (((4 * y2) + (mI M 1239 0 (z1.toNatClampNeg))).toNatClampNeg))
    ) else (
    some 0
    )
    ) fun x5 =>
    chk (inb y2 (mN M 1238 0)) <|
    bnd (sI M 1238 0 (y2.toNatClampNeg) ((mI M 1238 0 (y2.toNatClampNeg)) - x5)) fun M9 =>
    chk (inb y2 (mN M9 1238 0)) <|
    chk (inb y2 (mN M9 1213 0)) <|
    Option.bind (α := Int32) (
    if (mI M9 1213 0 (y2.toNatClampNeg)) = z1 then (
    chk (inb z1 (mN M9 1239 0)) <|
    chk (inb ((4 * y2) + (mI M9 1239 0 (z1.toNatClampNeg))) (mN M9 1215 0)) <|
    some (mI M9 1215 0 (((4 * y2) + (mI M9 1239 0 (z1.toNatClampNeg))).toNatClampNeg))
    ) else (
    some 0
    )
    ) fun x13 =>
    chk (inb y2 (mN M9 1238 0)) <|
    bnd (sI M9 1238 0 (y2.toNatClampNeg) ((mI M9 1238 0 (y2.toNatClampNeg)) + x13)) fun M17 =>
    bnd (y2 + 1) fun x18 =>
    fX11_fireMark_l2 z1 n x18 M17
    )
def fX11_fireMark (a1 : Int32) (M : tM) : Option (tM) :=
  Option.bind (fX11_fireMark_l2 a1 FU 0 M) fun M21 =>
  chk (inb a1 (mN M21 1239 0)) <|
  chk (inb a1 (mN M21 1205 0)) <|
  chk (nz4 (mI M21 1205 0 (a1.toNatClampNeg))) <|
  chk (inb a1 (mN M21 1239 0)) <|
  bnd (sI M21 1239 0 (a1.toNatClampNeg) (((mI M21 1239 0 (a1.toNatClampNeg)) + 1) - ((mI M21 1239 0 (a1.toNatClampNeg)) + 1) / (mI M21 1205 0 (a1.toNatClampNeg)) * (mI M21 1205 0 (a1.toNatClampNeg)))) fun M26 =>
  chk (inb a1 (mN M26 1240 0)) <|
  chk (inb a1 (mN M26 1240 0)) <|
  bnd (sI M26 1240 0 (a1.toNatClampNeg) ((mI M26 1240 0 (a1.toNatClampNeg)) - 1)) fun M29 =>
  some M29
set_option maxHeartbeats 4000000 in
set_option maxRecDepth 100000 in
theorem okX11_fireMark_l2 {g : tG} (z1 : Int32) {r : Option tV} {Mz : tM} : ∀ (n : Nat) (y2 : Int32) (M : tM) (w : tM), fX11_fireMark_l2 z1 n y2 M = some w → (∀ (Mw : tM), Mw = w → TW g iX11_fireMark rmX11_fireMark 0 0 r Mz 0 0 92 [(0, tr 11 0), (1, ti z1)] [] Mw) → TW g iX11_fireMark rmX11_fireMark 0 0 r Mz 0 0 2 [(0, tr 11 0), (1, ti z1), (2, ti y2)] [] M := by
  intro n
  induction n with
  | zero => intro y2 M w h; cases h
  | succ n ih =>
    intro y2 M w h J
    rw [fX11_fireMark_l2] at h
    refine tm_iload_n dX11_fireMark_2 rfl rfl ?_
    refine tm_aload_n dX11_fireMark_3 rfl rfl ?_
    refine tm_get kX11 rfl (j := 12) (by decide) wfX11_209 dX11_fireMark_4 (v := ti (mI M 11 0 12)) rfl ?_
    refine tm_icmp_ge (tgt := 92) dX11_fireMark_7 (by decide) (fun c1 => ?_) (fun c1 => ?_)
    · rw [if_pos c1] at h
      obtain rfl := Option.some.inj h
      refine tm_lcp [0, 1] rfl ?_
      exact J _ rfl
    · rw [if_neg c1] at h
      refine tm_aload_n dX11_fireMark_10 rfl rfl ?_
      refine tm_get kX11 rfl (j := 38) (by decide) wfX11_98 dX11_fireMark_11 (v := tr 1238 0) rfl ?_
      refine tm_iload_n dX11_fireMark_14 rfl rfl ?_
      refine tm_dup2 dX11_fireMark_15 rfl rfl ?_
      obtain ⟨b2, h⟩ := chk_some h
      refine tm_iald rfl dX11_fireMark_16 (inb_vp b2) ?_
      refine tm_aload_n dX11_fireMark_17 rfl rfl ?_
      refine tm_get kX11 rfl (j := 14) (by decide) wfX11_44 dX11_fireMark_18 (v := tr 1214 0) rfl ?_
      refine tm_iload_n dX11_fireMark_21 rfl rfl ?_
      obtain ⟨b3, h⟩ := chk_some h
      refine tm_iald rfl dX11_fireMark_22 (inb_vp b3) ?_
      refine tm_iload_n dX11_fireMark_23 rfl rfl ?_
      obtain ⟨x5, hE6, h⟩ := obind_some h
      have J7 : TW g iX11_fireMark rmX11_fireMark 0 0 r Mz 0 0 46 [(0, tr 11 0), (1, ti z1), (2, ti y2)] [ti x5, ti (mI M 1238 0 (y2.toNatClampNeg)), ti y2, tr 1238 0] M := by
        refine tm_isub dX11_fireMark_46 ?_
        obtain ⟨b8, h⟩ := chk_some h
        obtain ⟨M9, eM9, h⟩ := bnd_some h
        refine tm_iast rfl dX11_fireMark_47 (inb_vp b8) ?_
        refine tm_nmM eM9 ?_
        refine tm_aload_n dX11_fireMark_48 rfl rfl ?_
        refine tm_get kX11 rfl (j := 38) (by decide) wfX11_98 dX11_fireMark_49 (v := tr 1238 0) rfl ?_
        refine tm_iload_n dX11_fireMark_52 rfl rfl ?_
        refine tm_dup2 dX11_fireMark_53 rfl rfl ?_
        obtain ⟨b10, h⟩ := chk_some h
        refine tm_iald rfl dX11_fireMark_54 (inb_vp b10) ?_
        refine tm_aload_n dX11_fireMark_55 rfl rfl ?_
        refine tm_get kX11 rfl (j := 13) (by decide) wfX11_41 dX11_fireMark_56 (v := tr 1213 0) rfl ?_
        refine tm_iload_n dX11_fireMark_59 rfl rfl ?_
        obtain ⟨b11, h⟩ := chk_some h
        refine tm_iald rfl dX11_fireMark_60 (inb_vp b11) ?_
        refine tm_iload_n dX11_fireMark_61 rfl rfl ?_
        obtain ⟨x13, hE14, h⟩ := obind_some h
        have J15 : TW g iX11_fireMark rmX11_fireMark 0 0 r Mz 0 0 84 [(0, tr 11 0), (1, ti z1), (2, ti y2)] [ti x13, ti (mI M9 1238 0 (y2.toNatClampNeg)), ti y2, tr 1238 0] M9 := by
          refine tm_iadd dX11_fireMark_84 ?_
          obtain ⟨b16, h⟩ := chk_some h
          obtain ⟨M17, eM17, h⟩ := bnd_some h
          refine tm_iast rfl dX11_fireMark_85 (inb_vp b16) ?_
          refine tm_nmM eM17 ?_
          obtain ⟨x18, ex18, h⟩ := bnd_some h
          refine tm_iinc (v := x18) (lc' := [(2, ti x18), (0, tr 11 0), (1, ti z1)]) dX11_fireMark_86 rfl (by rw [ex18]; rfl) (by decide) rfl ?_
          refine tm_goto (tgt := 2) dX11_fireMark_89 (by decide) ?_
          refine tm_lcp [0, 1, 2] rfl ?_
          exact ih x18 M17 _ h J
        refine tm_icmp_ne (tgt := 83) dX11_fireMark_62 (by decide) (fun c12 => ?_) (fun c12 => ?_)
        · rw [if_neg c12] at hE14
          refine tm_iconst (v := 0) dX11_fireMark_83 (by decide) ?_
          obtain rfl := Option.some.inj hE14
          refine tm_lcp [0, 1, 2] rfl ?_
          exact J15
        · rw [if_pos c12] at hE14
          refine tm_aload_n dX11_fireMark_65 rfl rfl ?_
          refine tm_get kX11 rfl (j := 15) (by decide) wfX11_47 dX11_fireMark_66 (v := tr 1215 0) rfl ?_
          refine tm_iconst (v := 4) dX11_fireMark_69 (by decide) ?_
          refine tm_iload_n dX11_fireMark_70 rfl rfl ?_
          refine tm_imul dX11_fireMark_71 ?_
          refine tm_aload_n dX11_fireMark_72 rfl rfl ?_
          refine tm_get kX11 rfl (j := 39) (by decide) wfX11_101 dX11_fireMark_73 (v := tr 1239 0) rfl ?_
          refine tm_iload_n dX11_fireMark_76 rfl rfl ?_
          obtain ⟨b13, hE14⟩ := chk_some hE14
          refine tm_iald rfl dX11_fireMark_77 (inb_vp b13) ?_
          refine tm_iadd dX11_fireMark_78 ?_
          obtain ⟨b14, hE14⟩ := chk_some hE14
          refine tm_iald rfl dX11_fireMark_79 (inb_vp b14) ?_
          refine tm_goto (tgt := 84) dX11_fireMark_80 (by decide) ?_
          obtain rfl := Option.some.inj hE14
          refine tm_lcp [0, 1, 2] rfl ?_
          exact J15
      refine tm_icmp_ne (tgt := 45) dX11_fireMark_24 (by decide) (fun c4 => ?_) (fun c4 => ?_)
      · rw [if_neg c4] at hE6
        refine tm_iconst (v := 0) dX11_fireMark_45 (by decide) ?_
        obtain rfl := Option.some.inj hE6
        refine tm_lcp [0, 1, 2] rfl ?_
        exact J7
      · rw [if_pos c4] at hE6
        refine tm_aload_n dX11_fireMark_27 rfl rfl ?_
        refine tm_get kX11 rfl (j := 16) (by decide) wfX11_50 dX11_fireMark_28 (v := tr 1216 0) rfl ?_
        refine tm_iconst (v := 4) dX11_fireMark_31 (by decide) ?_
        refine tm_iload_n dX11_fireMark_32 rfl rfl ?_
        refine tm_imul dX11_fireMark_33 ?_
        refine tm_aload_n dX11_fireMark_34 rfl rfl ?_
        refine tm_get kX11 rfl (j := 39) (by decide) wfX11_101 dX11_fireMark_35 (v := tr 1239 0) rfl ?_
        refine tm_iload_n dX11_fireMark_38 rfl rfl ?_
        obtain ⟨b5, hE6⟩ := chk_some hE6
        refine tm_iald rfl dX11_fireMark_39 (inb_vp b5) ?_
        refine tm_iadd dX11_fireMark_40 ?_
        obtain ⟨b6, hE6⟩ := chk_some hE6
        refine tm_iald rfl dX11_fireMark_41 (inb_vp b6) ?_
        refine tm_goto (tgt := 46) dX11_fireMark_42 (by decide) ?_
        obtain rfl := Option.some.inj hE6
        refine tm_lcp [0, 1, 2] rfl ?_
        exact J7
set_option maxHeartbeats 4000000 in
set_option maxRecDepth 100000 in
theorem okX11_fireMark {g : tG} {a1 : Int32} {M : tM} {Mz : tM} (h : fX11_fireMark a1 M = some Mz) : TMet g yX11_fireMark (Cond.code yX11_fireMark cX11_fireMark 3 (none) :: tgd) rmX11_fireMark [tr 11 0, ti a1] M none Mz 0 0 := by
  have key : TW g iX11_fireMark rmX11_fireMark 0 0 none Mz 0 0 0 [(0, tr 11 0), (1, ti a1)] [] M := by
    rw [fX11_fireMark] at h
    refine tm_iconst (v := 0) dX11_fireMark_0 (by decide) ?_
    refine tm_istore_n (lc' := [(2, ti 0), (0, tr 11 0), (1, ti a1)]) dX11_fireMark_1 rfl (by decide) rfl ?_
    obtain ⟨w19, hE20, h⟩ := obind_some h
    refine tm_lcp [0, 1, 2] rfl ?_
    refine okX11_fireMark_l2 a1 FU 0 M _ hE20 (fun M21 e => ?_)
    subst e
    refine tm_aload_n dX11_fireMark_92 rfl rfl ?_
    refine tm_get kX11 rfl (j := 39) (by decide) wfX11_101 dX11_fireMark_93 (v := tr 1239 0) rfl ?_
    refine tm_iload_n dX11_fireMark_96 rfl rfl ?_
    refine tm_aload_n dX11_fireMark_97 rfl rfl ?_
    refine tm_get kX11 rfl (j := 39) (by decide) wfX11_101 dX11_fireMark_98 (v := tr 1239 0) rfl ?_
    refine tm_iload_n dX11_fireMark_101 rfl rfl ?_
    obtain ⟨b22, h⟩ := chk_some h
    refine tm_iald rfl dX11_fireMark_102 (inb_vp b22) ?_
    refine tm_iconst (v := 1) dX11_fireMark_103 (by decide) ?_
    refine tm_iadd dX11_fireMark_104 ?_
    refine tm_aload_n dX11_fireMark_105 rfl rfl ?_
    refine tm_get kX11 rfl (j := 5) (by decide) wfX11_20 dX11_fireMark_106 (v := tr 1205 0) rfl ?_
    refine tm_iload_n dX11_fireMark_109 rfl rfl ?_
    obtain ⟨b23, h⟩ := chk_some h
    refine tm_iald rfl dX11_fireMark_110 (inb_vp b23) ?_
    obtain ⟨b24, h⟩ := chk_some h
    refine tm_irem dX11_fireMark_111 (nz4_ne b24) ?_
    obtain ⟨b25, h⟩ := chk_some h
    obtain ⟨M26, eM26, h⟩ := bnd_some h
    refine tm_iast rfl dX11_fireMark_112 (inb_vp b25) ?_
    refine tm_nmM eM26 ?_
    refine tm_aload_n dX11_fireMark_113 rfl rfl ?_
    refine tm_get kX11 rfl (j := 40) (by decide) wfX11_104 dX11_fireMark_114 (v := tr 1240 0) rfl ?_
    refine tm_iload_n dX11_fireMark_117 rfl rfl ?_
    refine tm_dup2 dX11_fireMark_118 rfl rfl ?_
    obtain ⟨b27, h⟩ := chk_some h
    refine tm_iald rfl dX11_fireMark_119 (inb_vp b27) ?_
    refine tm_iconst (v := 1) dX11_fireMark_120 (by decide) ?_
    refine tm_isub dX11_fireMark_121 ?_
    obtain ⟨b28, h⟩ := chk_some h
    obtain ⟨M29, eM29, h⟩ := bnd_some h
    refine tm_iast rfl dX11_fireMark_122 (inb_vp b28) ?_
    refine tm_nmM eM29 ?_
    obtain rfl := Option.some.inj h
    exact tm_vret rfl dX11_fireMark_123
  exact TMet.of (by decide) (Nat.le_of_ble_eq_true rfl) key
abbrev iX11_unfireMark : tY := (RX11, cX11_unfireMark, 3, none, "unfireMark")
abbrev rmX11_unfireMark : Room := { frames := 0, cells := 0, slots := 0, locals := 0 }
def fX11_unfireMark_l40 (z1 : Int32) : Nat → Int32 → tM → Option (tM)
  | 0, _, _ => none
  | n + 1, y2, M =>
    if (mI M 11 0 12) ≤ y2 then (
    some M
    ) else (
    chk (inb y2 (mN M 1238 0)) <|
    chk (inb y2 (mN M 1214 0)) <|
    Option.bind (α := Int32) (
    if (mI M 1214 0 (y2.toNatClampNeg)) = z1 then (
    chk (inb z1 (mN M 1239 0)) <|
    chk (inb ((4 * y2) + (mI M 1239 0 (z1.toNatClampNeg))) (mN M 1216 0)) <|
    some (mI M 1216 0 (((4 * y2) + (mI M 1239 0 (z1.toNatClampNeg))).toNatClampNeg))
    ) else (
    some 0
    )
    ) fun x14 =>
    chk (inb y2 (mN M 1238 0)) <|
    bnd (sI M 1238 0 (y2.toNatClampNeg) ((mI M 1238 0 (y2.toNatClampNeg)) + x14)) fun M18 =>
    chk (inb y2 (mN M18 1238 0)) <|
    chk (inb y2 (mN M18 1213 0)) <|
    Option.bind (α := Int32) (
    if (mI M18 1213 0 (y2.toNatClampNeg)) = z1 then (
    chk (inb z1 (mN M18 1239 0)) <|
    chk (inb ((4 * y2) + (mI M18 1239 0 (z1.toNatClampNeg))) (mN M18 1215 0)) <|
    some (mI M18 1215 0 (((4 * y2) + (mI M18 1239 0 (z1.toNatClampNeg))).toNatClampNeg))
    ) else (
    some 0
    )
    ) fun x22 =>
    chk (inb y2 (mN M18 1238 0)) <|
    bnd (sI M18 1238 0 (y2.toNatClampNeg) ((mI M18 1238 0 (y2.toNatClampNeg)) - x22)) fun M26 =>
    bnd (y2 + 1) fun x27 =>
    fX11_unfireMark_l40 z1 n x27 M26
    )
def fX11_unfireMark (a1 : Int32) (M : tM) : Option (tM) :=
  chk (inb a1 (mN M 1239 0)) <|
  chk (inb a1 (mN M 1205 0)) <|
  chk (inb a1 (mN M 1205 0)) <|
  chk (nz4 (mI M 1205 0 (a1.toNatClampNeg))) <|
  chk (inb a1 (mN M 1239 0)) <|
  bnd (sI M 1239 0 (a1.toNatClampNeg) ((((mI M 1239 0 (a1.toNatClampNeg)) + (mI M 1205 0 (a1.toNatClampNeg))) - 1) - (((mI M 1239 0 (a1.toNatClampNeg)) + (mI M 1205 0 (a1.toNatClampNeg))) - 1) / (mI M 1205 0 (a1.toNatClampNeg)) * (mI M 1205 0 (a1.toNatClampNeg)))) fun M6 =>
  chk (inb a1 (mN M6 1240 0)) <|
  chk (inb a1 (mN M6 1240 0)) <|
  bnd (sI M6 1240 0 (a1.toNatClampNeg) ((mI M6 1240 0 (a1.toNatClampNeg)) + 1)) fun M9 =>
  Option.bind (fX11_unfireMark_l40 a1 FU 0 M9) fun M30 =>
  some M30
set_option maxHeartbeats 4000000 in
set_option maxRecDepth 100000 in
theorem okX11_unfireMark_l40 {g : tG} (z1 : Int32) {r : Option tV} {Mz : tM} : ∀ (n : Nat) (y2 : Int32) (M : tM) (w : tM), fX11_unfireMark_l40 z1 n y2 M = some w → (∀ (Mw : tM), Mw = w → TW g iX11_unfireMark rmX11_unfireMark 0 0 r Mz 0 0 130 [] [] Mw) → TW g iX11_unfireMark rmX11_unfireMark 0 0 r Mz 0 0 40 [(0, tr 11 0), (1, ti z1), (2, ti y2)] [] M := by
  intro n
  induction n with
  | zero => intro y2 M w h; cases h
  | succ n ih =>
    intro y2 M w h J
    rw [fX11_unfireMark_l40] at h
    refine tm_iload_n dX11_unfireMark_40 rfl rfl ?_
    refine tm_aload_n dX11_unfireMark_41 rfl rfl ?_
    refine tm_get kX11 rfl (j := 12) (by decide) wfX11_209 dX11_unfireMark_42 (v := ti (mI M 11 0 12)) rfl ?_
    refine tm_icmp_ge (tgt := 130) dX11_unfireMark_45 (by decide) (fun c10 => ?_) (fun c10 => ?_)
    · rw [if_pos c10] at h
      obtain rfl := Option.some.inj h
      refine tm_lcp [] rfl ?_
      exact J _ rfl
    · rw [if_neg c10] at h
      refine tm_aload_n dX11_unfireMark_48 rfl rfl ?_
      refine tm_get kX11 rfl (j := 38) (by decide) wfX11_98 dX11_unfireMark_49 (v := tr 1238 0) rfl ?_
      refine tm_iload_n dX11_unfireMark_52 rfl rfl ?_
      refine tm_dup2 dX11_unfireMark_53 rfl rfl ?_
      obtain ⟨b11, h⟩ := chk_some h
      refine tm_iald rfl dX11_unfireMark_54 (inb_vp b11) ?_
      refine tm_aload_n dX11_unfireMark_55 rfl rfl ?_
      refine tm_get kX11 rfl (j := 14) (by decide) wfX11_44 dX11_unfireMark_56 (v := tr 1214 0) rfl ?_
      refine tm_iload_n dX11_unfireMark_59 rfl rfl ?_
      obtain ⟨b12, h⟩ := chk_some h
      refine tm_iald rfl dX11_unfireMark_60 (inb_vp b12) ?_
      refine tm_iload_n dX11_unfireMark_61 rfl rfl ?_
      obtain ⟨x14, hE15, h⟩ := obind_some h
      have J16 : TW g iX11_unfireMark rmX11_unfireMark 0 0 r Mz 0 0 84 [(0, tr 11 0), (1, ti z1), (2, ti y2)] [ti x14, ti (mI M 1238 0 (y2.toNatClampNeg)), ti y2, tr 1238 0] M := by
        refine tm_iadd dX11_unfireMark_84 ?_
        obtain ⟨b17, h⟩ := chk_some h
        obtain ⟨M18, eM18, h⟩ := bnd_some h
        refine tm_iast rfl dX11_unfireMark_85 (inb_vp b17) ?_
        refine tm_nmM eM18 ?_
        refine tm_aload_n dX11_unfireMark_86 rfl rfl ?_
        refine tm_get kX11 rfl (j := 38) (by decide) wfX11_98 dX11_unfireMark_87 (v := tr 1238 0) rfl ?_
        refine tm_iload_n dX11_unfireMark_90 rfl rfl ?_
        refine tm_dup2 dX11_unfireMark_91 rfl rfl ?_
        obtain ⟨b19, h⟩ := chk_some h
        refine tm_iald rfl dX11_unfireMark_92 (inb_vp b19) ?_
        refine tm_aload_n dX11_unfireMark_93 rfl rfl ?_
        refine tm_get kX11 rfl (j := 13) (by decide) wfX11_41 dX11_unfireMark_94 (v := tr 1213 0) rfl ?_
        refine tm_iload_n dX11_unfireMark_97 rfl rfl ?_
        obtain ⟨b20, h⟩ := chk_some h
        refine tm_iald rfl dX11_unfireMark_98 (inb_vp b20) ?_
        refine tm_iload_n dX11_unfireMark_99 rfl rfl ?_
        obtain ⟨x22, hE23, h⟩ := obind_some h
        have J24 : TW g iX11_unfireMark rmX11_unfireMark 0 0 r Mz 0 0 122 [(0, tr 11 0), (1, ti z1), (2, ti y2)] [ti x22, ti (mI M18 1238 0 (y2.toNatClampNeg)), ti y2, tr 1238 0] M18 := by
          refine tm_isub dX11_unfireMark_122 ?_
          obtain ⟨b25, h⟩ := chk_some h
          obtain ⟨M26, eM26, h⟩ := bnd_some h
          refine tm_iast rfl dX11_unfireMark_123 (inb_vp b25) ?_
          refine tm_nmM eM26 ?_
          obtain ⟨x27, ex27, h⟩ := bnd_some h
          refine tm_iinc (v := x27) (lc' := [(2, ti x27), (0, tr 11 0), (1, ti z1)]) dX11_unfireMark_124 rfl (by rw [ex27]; rfl) (by decide) rfl ?_
          refine tm_goto (tgt := 40) dX11_unfireMark_127 (by decide) ?_
          refine tm_lcp [0, 1, 2] rfl ?_
          exact ih x27 M26 _ h J
        refine tm_icmp_ne (tgt := 121) dX11_unfireMark_100 (by decide) (fun c21 => ?_) (fun c21 => ?_)
        · rw [if_neg c21] at hE23
          refine tm_iconst (v := 0) dX11_unfireMark_121 (by decide) ?_
          obtain rfl := Option.some.inj hE23
          refine tm_lcp [0, 1, 2] rfl ?_
          exact J24
        · rw [if_pos c21] at hE23
          refine tm_aload_n dX11_unfireMark_103 rfl rfl ?_
          refine tm_get kX11 rfl (j := 15) (by decide) wfX11_47 dX11_unfireMark_104 (v := tr 1215 0) rfl ?_
          refine tm_iconst (v := 4) dX11_unfireMark_107 (by decide) ?_
          refine tm_iload_n dX11_unfireMark_108 rfl rfl ?_
          refine tm_imul dX11_unfireMark_109 ?_
          refine tm_aload_n dX11_unfireMark_110 rfl rfl ?_
          refine tm_get kX11 rfl (j := 39) (by decide) wfX11_101 dX11_unfireMark_111 (v := tr 1239 0) rfl ?_
          refine tm_iload_n dX11_unfireMark_114 rfl rfl ?_
          obtain ⟨b22, hE23⟩ := chk_some hE23
          refine tm_iald rfl dX11_unfireMark_115 (inb_vp b22) ?_
          refine tm_iadd dX11_unfireMark_116 ?_
          obtain ⟨b23, hE23⟩ := chk_some hE23
          refine tm_iald rfl dX11_unfireMark_117 (inb_vp b23) ?_
          refine tm_goto (tgt := 122) dX11_unfireMark_118 (by decide) ?_
          obtain rfl := Option.some.inj hE23
          refine tm_lcp [0, 1, 2] rfl ?_
          exact J24
      refine tm_icmp_ne (tgt := 83) dX11_unfireMark_62 (by decide) (fun c13 => ?_) (fun c13 => ?_)
      · rw [if_neg c13] at hE15
        refine tm_iconst (v := 0) dX11_unfireMark_83 (by decide) ?_
        obtain rfl := Option.some.inj hE15
        refine tm_lcp [0, 1, 2] rfl ?_
        exact J16
      · rw [if_pos c13] at hE15
        refine tm_aload_n dX11_unfireMark_65 rfl rfl ?_
        refine tm_get kX11 rfl (j := 16) (by decide) wfX11_50 dX11_unfireMark_66 (v := tr 1216 0) rfl ?_
        refine tm_iconst (v := 4) dX11_unfireMark_69 (by decide) ?_
        refine tm_iload_n dX11_unfireMark_70 rfl rfl ?_
        refine tm_imul dX11_unfireMark_71 ?_
        refine tm_aload_n dX11_unfireMark_72 rfl rfl ?_
        refine tm_get kX11 rfl (j := 39) (by decide) wfX11_101 dX11_unfireMark_73 (v := tr 1239 0) rfl ?_
        refine tm_iload_n dX11_unfireMark_76 rfl rfl ?_
        obtain ⟨b14, hE15⟩ := chk_some hE15
        refine tm_iald rfl dX11_unfireMark_77 (inb_vp b14) ?_
        refine tm_iadd dX11_unfireMark_78 ?_
        obtain ⟨b15, hE15⟩ := chk_some hE15
        refine tm_iald rfl dX11_unfireMark_79 (inb_vp b15) ?_
        refine tm_goto (tgt := 84) dX11_unfireMark_80 (by decide) ?_
        obtain rfl := Option.some.inj hE15
        refine tm_lcp [0, 1, 2] rfl ?_
        exact J16
set_option maxHeartbeats 4000000 in
set_option maxRecDepth 100000 in
theorem okX11_unfireMark {g : tG} {a1 : Int32} {M : tM} {Mz : tM} (h : fX11_unfireMark a1 M = some Mz) : TMet g yX11_unfireMark (Cond.code yX11_unfireMark cX11_unfireMark 3 (none) :: tgd) rmX11_unfireMark [tr 11 0, ti a1] M none Mz 0 0 := by
  have key : TW g iX11_unfireMark rmX11_unfireMark 0 0 none Mz 0 0 0 [(0, tr 11 0), (1, ti a1)] [] M := by
    rw [fX11_unfireMark] at h
    refine tm_aload_n dX11_unfireMark_0 rfl rfl ?_
    refine tm_get kX11 rfl (j := 39) (by decide) wfX11_101 dX11_unfireMark_1 (v := tr 1239 0) rfl ?_
    refine tm_iload_n dX11_unfireMark_4 rfl rfl ?_
    refine tm_aload_n dX11_unfireMark_5 rfl rfl ?_
    refine tm_get kX11 rfl (j := 39) (by decide) wfX11_101 dX11_unfireMark_6 (v := tr 1239 0) rfl ?_
    refine tm_iload_n dX11_unfireMark_9 rfl rfl ?_
    obtain ⟨b1, h⟩ := chk_some h
    refine tm_iald rfl dX11_unfireMark_10 (inb_vp b1) ?_
    refine tm_aload_n dX11_unfireMark_11 rfl rfl ?_
    refine tm_get kX11 rfl (j := 5) (by decide) wfX11_20 dX11_unfireMark_12 (v := tr 1205 0) rfl ?_
    refine tm_iload_n dX11_unfireMark_15 rfl rfl ?_
    obtain ⟨b2, h⟩ := chk_some h
    refine tm_iald rfl dX11_unfireMark_16 (inb_vp b2) ?_
    refine tm_iadd dX11_unfireMark_17 ?_
    refine tm_iconst (v := 1) dX11_unfireMark_18 (by decide) ?_
    refine tm_isub dX11_unfireMark_19 ?_
    refine tm_aload_n dX11_unfireMark_20 rfl rfl ?_
    refine tm_get kX11 rfl (j := 5) (by decide) wfX11_20 dX11_unfireMark_21 (v := tr 1205 0) rfl ?_
    refine tm_iload_n dX11_unfireMark_24 rfl rfl ?_
    obtain ⟨b3, h⟩ := chk_some h
    refine tm_iald rfl dX11_unfireMark_25 (inb_vp b3) ?_
    obtain ⟨b4, h⟩ := chk_some h
    refine tm_irem dX11_unfireMark_26 (nz4_ne b4) ?_
    obtain ⟨b5, h⟩ := chk_some h
    obtain ⟨M6, eM6, h⟩ := bnd_some h
    refine tm_iast rfl dX11_unfireMark_27 (inb_vp b5) ?_
    refine tm_nmM eM6 ?_
    refine tm_aload_n dX11_unfireMark_28 rfl rfl ?_
    refine tm_get kX11 rfl (j := 40) (by decide) wfX11_104 dX11_unfireMark_29 (v := tr 1240 0) rfl ?_
    refine tm_iload_n dX11_unfireMark_32 rfl rfl ?_
    refine tm_dup2 dX11_unfireMark_33 rfl rfl ?_
    obtain ⟨b7, h⟩ := chk_some h
    refine tm_iald rfl dX11_unfireMark_34 (inb_vp b7) ?_
    refine tm_iconst (v := 1) dX11_unfireMark_35 (by decide) ?_
    refine tm_iadd dX11_unfireMark_36 ?_
    obtain ⟨b8, h⟩ := chk_some h
    obtain ⟨M9, eM9, h⟩ := bnd_some h
    refine tm_iast rfl dX11_unfireMark_37 (inb_vp b8) ?_
    refine tm_nmM eM9 ?_
    refine tm_iconst (v := 0) dX11_unfireMark_38 (by decide) ?_
    refine tm_istore_n (lc' := [(2, ti 0), (0, tr 11 0), (1, ti a1)]) dX11_unfireMark_39 rfl (by decide) rfl ?_
    obtain ⟨w28, hE29, h⟩ := obind_some h
    refine tm_lcp [0, 1, 2] rfl ?_
    refine okX11_unfireMark_l40 a1 FU 0 M9 _ hE29 (fun M30 e => ?_)
    subst e
    obtain rfl := Option.some.inj h
    exact tm_vret rfl dX11_unfireMark_130
  exact TMet.of (by decide) (Nat.le_of_ble_eq_true rfl) key
theorem wcX11_283 : tCB RX11 283 yX11_mayMark cX11_mayMark 4 (some .boolean) 1 ∧ Cond.methodLink RX11 283 yX11_mayMark ∈ tgd ∧ Cond.instanceMethod yX11_mayMark ∈ tgd ∧ Cond.selects RX11 yX11_mayMark yX11_mayMark ∈ tgd := ⟨⟨(tgd_t 1604 (by decide +kernel) (by decide +kernel)), (tgd_t 10 (by decide +kernel) (by decide +kernel)), by decide, by decide +kernel⟩, (tgd_t 1601 (by decide +kernel) (by decide +kernel)), (tgd_t 1603 (by decide +kernel) (by decide +kernel)), (tgd_p 71 (by decide +kernel) (by decide +kernel))⟩
abbrev iX11_leastThatMay : tY := (RX11, cX11_leastThatMay, 2, some .int, "leastThatMay")
abbrev rmX11_leastThatMay : Room := { frames := 1, cells := 0, slots := 0, locals := 23 }
def fX11_leastThatMay_l2  (M : tM) : Nat → Int32 → Option ((Int32) ⊕ (Unit))
  | 0, _ => none
  | n + 1, y1 =>
    if (mI M 11 0 2) ≤ y1 then (
    some (Sum.inr (()))
    ) else (
    chk (inb y1 (mN M 1240 0)) <|
    if (mI M 1240 0 (y1.toNatClampNeg)) ≤ 0 then (
    bnd (y1 + 1) fun x4 =>
    fX11_leastThatMay_l2 M n x4
    ) else (
    (fX11_mayMark y1 M).bind fun x5 =>
    if x5 = 0 then (
    bnd (y1 + 1) fun x8 =>
    fX11_leastThatMay_l2 M n x8
    ) else (
    some (Sum.inl y1)
    )
    )
    )
def fX11_leastThatMay  (M : tM) : Option (Int32) :=
  Option.bind (fX11_leastThatMay_l2 M FU 0) fun w9 => match w9 with
  | Sum.inl q12 => some q12
  | Sum.inr u11 =>
    some (-9)
set_option maxHeartbeats 4000000 in
set_option maxRecDepth 100000 in
theorem okX11_leastThatMay_l2 {g : tG}  (M : tM) {r : Option tV} {Mz : tM} : ∀ (n : Nat) (y1 : Int32) (w : (Int32) ⊕ (Unit)), fX11_leastThatMay_l2 M n y1 = some w → (∀ (uw : Unit), Sum.inr uw = w → TW g iX11_leastThatMay rmX11_leastThatMay 0 0 r Mz 0 0 35 [] [] M) → (∀ (v : Int32), Sum.inl v = w → r = (some (ti v)) ∧ Mz = M) → TW g iX11_leastThatMay rmX11_leastThatMay 0 0 r Mz 0 0 2 [(0, tr 11 0), (1, ti y1)] [] M := by
  intro n
  induction n with
  | zero => intro y1 w h; cases h
  | succ n ih =>
    intro y1 w h J JR
    rw [fX11_leastThatMay_l2] at h
    refine tm_iload_n dX11_leastThatMay_2 rfl rfl ?_
    refine tm_aload_n dX11_leastThatMay_3 rfl rfl ?_
    refine tm_get kX11 rfl (j := 2) (by decide) wfX11_202 dX11_leastThatMay_4 (v := ti (mI M 11 0 2)) rfl ?_
    refine tm_icmp_ge (tgt := 35) dX11_leastThatMay_7 (by decide) (fun c1 => ?_) (fun c1 => ?_)
    · rw [if_pos c1] at h
      obtain rfl := Option.some.inj h
      refine tm_lcp [] rfl ?_
      exact J _ rfl
    · rw [if_neg c1] at h
      refine tm_aload_n dX11_leastThatMay_10 rfl rfl ?_
      refine tm_get kX11 rfl (j := 40) (by decide) wfX11_104 dX11_leastThatMay_11 (v := tr 1240 0) rfl ?_
      refine tm_iload_n dX11_leastThatMay_14 rfl rfl ?_
      obtain ⟨b2, h⟩ := chk_some h
      refine tm_iald rfl dX11_leastThatMay_15 (inb_vp b2) ?_
      refine tm_if_le (tgt := 29) dX11_leastThatMay_16 (by decide) (fun c3 => ?_) (fun c3 => ?_)
      · rw [if_pos c3] at h
        obtain ⟨x4, ex4, h⟩ := bnd_some h
        refine tm_iinc (v := x4) (lc' := [(1, ti x4), (0, tr 11 0)]) dX11_leastThatMay_29 rfl (by rw [ex4]; rfl) (by decide) rfl ?_
        refine tm_goto (tgt := 2) dX11_leastThatMay_32 (by decide) ?_
        refine tm_lcp [0, 1] rfl ?_
        exact ih x4 _ h J JR
      · rw [if_neg c3] at h
        refine tm_aload_n dX11_leastThatMay_19 rfl rfl ?_
        refine tm_iload_n dX11_leastThatMay_20 rfl rfl ?_
        obtain ⟨x5, hc6, h⟩ := obind_some h
        refine tm_callV kX11 rfl (avs := [ti y1]) (st := []) (okX11_mayMark hc6) wcX11_283.1 wcX11_283.2.1 wcX11_283.2.2.1 wcX11_283.2.2.2 ⟨rfl, rfl, Nat.le_of_ble_eq_true rfl, Nat.le_of_ble_eq_true rfl⟩ rfl (Nat.le_of_ble_eq_true rfl) ⟨Nat.zero_le _, Nat.zero_le _⟩ dX11_leastThatMay_21 ?_
        refine tm_if_eq (tgt := 29) dX11_leastThatMay_24 (by decide) (fun c7 => ?_) (fun c7 => ?_)
        · rw [if_pos c7] at h
          obtain ⟨x8, ex8, h⟩ := bnd_some h
          refine tm_iinc (v := x8) (lc' := [(1, ti x8), (0, tr 11 0)]) dX11_leastThatMay_29 rfl (by rw [ex8]; rfl) (by decide) rfl ?_
          refine tm_goto (tgt := 2) dX11_leastThatMay_32 (by decide) ?_
          refine tm_lcp [0, 1] rfl ?_
          exact ih x8 _ h J JR
        · rw [if_neg c7] at h
          refine tm_iload_n dX11_leastThatMay_27 rfl rfl ?_
          obtain rfl := Option.some.inj h
          obtain ⟨rfl, rfl⟩ := JR _ rfl
          exact tm_iret rfl dX11_leastThatMay_28
set_option maxHeartbeats 4000000 in
set_option maxRecDepth 100000 in
theorem okX11_leastThatMay {g : tG}  {M : tM} {v : Int32} (h : fX11_leastThatMay  M = some v) : TMet g yX11_leastThatMay (Cond.code yX11_leastThatMay cX11_leastThatMay 2 (some .int) :: tgd) rmX11_leastThatMay [tr 11 0] M (some (ti v)) M 0 0 := by
  have key : TW g iX11_leastThatMay rmX11_leastThatMay 0 0 (some (ti v)) M 0 0 0 [(0, tr 11 0)] [] M := by
    rw [fX11_leastThatMay] at h
    refine tm_iconst (v := 0) dX11_leastThatMay_0 (by decide) ?_
    refine tm_istore_n (lc' := [(1, ti 0), (0, tr 11 0)]) dX11_leastThatMay_1 rfl (by decide) rfl ?_
    obtain ⟨w9, hE10, h⟩ := obind_some h
    refine tm_lcp [0, 1] rfl ?_
    refine okX11_leastThatMay_l2 M FU 0 _ hE10 (fun u11 e => ?_) (fun v13 e => ?_)
    · subst e
      dsimp only at h
      refine tm_bipush (v := (-9)) dX11_leastThatMay_35 (by decide) ?_
      obtain rfl := Option.some.inj h
      exact tm_iret rfl dX11_leastThatMay_37
    · subst e
      obtain rfl := Option.some.inj h
      exact ⟨rfl, rfl⟩
  exact TMet.of (by decide) (Nat.le_of_ble_eq_true rfl) key
