theorem wfX1_11 : Cond.fieldLink RX1 11 "EvenFlow$Graph" "parts" "[LEvenFlow$Part;" ∈ tgd := (tgd_t 34 (by decide +kernel) (by decide +kernel))
theorem wfX1_35 : Cond.fieldLink RX1 35 "EvenFlow$Graph" "partCount" "I" ∈ tgd := (tgd_t 48 (by decide +kernel) (by decide +kernel))
abbrev iX1_partAt : tY := (RX1, cX1_partAt, 2, some (.object "EvenFlow$Part"), "partAt")
abbrev rmX1_partAt : Room := { frames := 0, cells := 0, slots := 0, locals := 0 }
def fX1_partAt (a1 : Int32) (M : tM) : Option (Option Nat) :=
  if a1 < 0 then (
  some none
  ) else (
  if a1 < (mI M 1 0 2) then (
  chk (inb a1 (mN M 200 0)) <|
  bnd (mR M 200 0 (a1.toNatClampNeg)) fun r4 =>
  some r4
  ) else (
  some none
  )
  )
set_option maxHeartbeats 4000000 in
set_option maxRecDepth 100000 in
theorem okX1_partAt {g : tG} {a1 : Int32} {M : tM} {v : Option Nat} (h : fX1_partAt a1 M = some v) : TMet g yX1_partAt (Cond.code yX1_partAt cX1_partAt 2 (some (.object "EvenFlow$Part")) :: tgd) rmX1_partAt [tr 1 0, ti a1] M (some (tq 7 v)) M 0 0 := by
  have key : TW g iX1_partAt rmX1_partAt 0 0 (some (tq 7 v)) M 0 0 0 [(0, tr 1 0), (1, ti a1)] [] M := by
    rw [fX1_partAt] at h
    refine tm_iload_n dX1_partAt_0 rfl rfl ?_
    refine tm_if_lt (tgt := 12) dX1_partAt_1 (by decide) (fun c1 => ?_) (fun c1 => ?_)
    · rw [if_pos c1] at h
      refine tm_null dX1_partAt_12 ?_
      refine tm_goto (tgt := 22) dX1_partAt_13 (by decide) ?_
      obtain rfl := Option.some.inj h
      exact tm_aret rfl dX1_partAt_22
    · rw [if_neg c1] at h
      refine tm_iload_n dX1_partAt_4 rfl rfl ?_
      refine tm_aload_n dX1_partAt_5 rfl rfl ?_
      refine tm_get kX1 rfl (j := 2) (by decide) wfX1_35 dX1_partAt_6 (v := ti (mI M 1 0 2)) rfl ?_
      refine tm_icmp_lt (tgt := 16) dX1_partAt_9 (by decide) (fun c2 => ?_) (fun c2 => ?_)
      · rw [if_pos c2] at h
        refine tm_aload_n dX1_partAt_16 rfl rfl ?_
        refine tm_get kX1 rfl (j := 0) (by decide) wfX1_11 dX1_partAt_17 (v := tr 200 0) rfl ?_
        refine tm_iload_n dX1_partAt_20 rfl rfl ?_
        replace h := chk_some h
        obtain ⟨b3, h⟩ := h
        refine tm_aald (k2 := 7) ⟨rfl, rfl, rfl, fun _ => rfl⟩ dX1_partAt_21 (inb_vp b3) ?_
        replace h := bnd_some h
        obtain ⟨r4, er4, h⟩ := h
        refine tm_nmQ er4 ?_
        obtain rfl := Option.some.inj h
        exact tm_aret rfl dX1_partAt_22
      · rw [if_neg c2] at h
        refine tm_null dX1_partAt_12 ?_
        refine tm_goto (tgt := 22) dX1_partAt_13 (by decide) ?_
        obtain rfl := Option.some.inj h
        exact tm_aret rfl dX1_partAt_22
  exact TMet.of (by decide) (Nat.le_of_ble_eq_true rfl) key
theorem wfX1_19 : Cond.fieldLink RX1 19 "EvenFlow$Graph" "lines" "[LEvenFlow$Line;" ∈ tgd := (tgd_t 42 (by decide +kernel) (by decide +kernel))
theorem wfX1_38 : Cond.fieldLink RX1 38 "EvenFlow$Graph" "lineCount" "I" ∈ tgd := (tgd_t 58 (by decide +kernel) (by decide +kernel))
abbrev iX1_lineAt : tY := (RX1, cX1_lineAt, 2, some (.object "EvenFlow$Line"), "lineAt")
abbrev rmX1_lineAt : Room := { frames := 0, cells := 0, slots := 0, locals := 0 }
def fX1_lineAt (a1 : Int32) (M : tM) : Option (Option Nat) :=
  if a1 < 0 then (
  some none
  ) else (
  if a1 < (mI M 1 0 3) then (
  chk (inb a1 (mN M 201 0)) <|
  bnd (mR M 201 0 (a1.toNatClampNeg)) fun r4 =>
  some r4
  ) else (
  some none
  )
  )
set_option maxHeartbeats 4000000 in
set_option maxRecDepth 100000 in
theorem okX1_lineAt {g : tG} {a1 : Int32} {M : tM} {v : Option Nat} (h : fX1_lineAt a1 M = some v) : TMet g yX1_lineAt (Cond.code yX1_lineAt cX1_lineAt 2 (some (.object "EvenFlow$Line")) :: tgd) rmX1_lineAt [tr 1 0, ti a1] M (some (tq 4 v)) M 0 0 := by
  have key : TW g iX1_lineAt rmX1_lineAt 0 0 (some (tq 4 v)) M 0 0 0 [(0, tr 1 0), (1, ti a1)] [] M := by
    rw [fX1_lineAt] at h
    refine tm_iload_n dX1_lineAt_0 rfl rfl ?_
    refine tm_if_lt (tgt := 12) dX1_lineAt_1 (by decide) (fun c1 => ?_) (fun c1 => ?_)
    · rw [if_pos c1] at h
      refine tm_null dX1_lineAt_12 ?_
      refine tm_goto (tgt := 22) dX1_lineAt_13 (by decide) ?_
      obtain rfl := Option.some.inj h
      exact tm_aret rfl dX1_lineAt_22
    · rw [if_neg c1] at h
      refine tm_iload_n dX1_lineAt_4 rfl rfl ?_
      refine tm_aload_n dX1_lineAt_5 rfl rfl ?_
      refine tm_get kX1 rfl (j := 3) (by decide) wfX1_38 dX1_lineAt_6 (v := ti (mI M 1 0 3)) rfl ?_
      refine tm_icmp_lt (tgt := 16) dX1_lineAt_9 (by decide) (fun c2 => ?_) (fun c2 => ?_)
      · rw [if_pos c2] at h
        refine tm_aload_n dX1_lineAt_16 rfl rfl ?_
        refine tm_get kX1 rfl (j := 1) (by decide) wfX1_19 dX1_lineAt_17 (v := tr 201 0) rfl ?_
        refine tm_iload_n dX1_lineAt_20 rfl rfl ?_
        replace h := chk_some h
        obtain ⟨b3, h⟩ := h
        refine tm_aald (k2 := 4) ⟨rfl, rfl, rfl, fun _ => rfl⟩ dX1_lineAt_21 (inb_vp b3) ?_
        replace h := bnd_some h
        obtain ⟨r4, er4, h⟩ := h
        refine tm_nmQ er4 ?_
        obtain rfl := Option.some.inj h
        exact tm_aret rfl dX1_lineAt_22
      · rw [if_neg c2] at h
        refine tm_null dX1_lineAt_12 ?_
        refine tm_goto (tgt := 22) dX1_lineAt_13 (by decide) ?_
        obtain rfl := Option.some.inj h
        exact tm_aret rfl dX1_lineAt_22
  exact TMet.of (by decide) (Nat.le_of_ble_eq_true rfl) key
theorem wfX1_66 : Cond.fieldLink RX1 66 "EvenFlow$Part" "kind" "I" ∈ tgd := (tgd_t 412 (by decide +kernel) (by decide +kernel))
abbrev iX1_hasPhased : tY := (RX1, cX1_hasPhased, 2, some .boolean, "hasPhased")
abbrev rmX1_hasPhased : Room := { frames := 0, cells := 0, slots := 0, locals := 0 }
def fX1_hasPhased_l2  (M : tM) : Nat → Int32 → Option ((Int32) ⊕ (Unit))
  | 0, _ => none
  | n + 1, y1 =>
    if (mI M 1 0 2) ≤ y1 then (
    some (Sum.inr (()))
    ) else (
    chk (inb y1 (mN M 200 0)) <|
    bnd (mR M 200 0 (y1.toNatClampNeg)) fun r3 =>
    Option.bind r3 fun i4 =>
    if (mI M 7 i4 1) = 4 then (
    some (Sum.inl 1)
    ) else (
    bnd (y1 + 1) fun x6 =>
    fX1_hasPhased_l2 M n x6
    )
    )
def fX1_hasPhased  (M : tM) : Option (Int32) :=
  Option.bind (fX1_hasPhased_l2 M FU 0) fun w7 => match w7 with
  | Sum.inl q10 => some q10
  | Sum.inr u9 =>
    some 0
set_option maxHeartbeats 4000000 in
set_option maxRecDepth 100000 in
theorem okX1_hasPhased_l2 {g : tG}  (M : tM) {r : Option tV} {Mz : tM} : ∀ (n : Nat) (y1 : Int32) (w : (Int32) ⊕ (Unit)), fX1_hasPhased_l2 M n y1 = some w → (∀ (uw : Unit), Sum.inr uw = w → TW g iX1_hasPhased rmX1_hasPhased 0 0 r Mz 0 0 31 [] [] M) → (∀ (v : Int32), Sum.inl v = w → r = (some (ti v)) ∧ Mz = M) → TW g iX1_hasPhased rmX1_hasPhased 0 0 r Mz 0 0 2 [(0, tr 1 0), (1, ti y1)] [] M := by
  intro n
  induction n with
  | zero => intro y1 w h; cases h
  | succ n ih =>
    intro y1 w h J JR
    rw [fX1_hasPhased_l2] at h
    refine tm_iload_n dX1_hasPhased_2 rfl rfl ?_
    refine tm_aload_n dX1_hasPhased_3 rfl rfl ?_
    refine tm_get kX1 rfl (j := 2) (by decide) wfX1_35 dX1_hasPhased_4 (v := ti (mI M 1 0 2)) rfl ?_
    refine tm_icmp_ge (tgt := 31) dX1_hasPhased_7 (by decide) (fun c1 => ?_) (fun c1 => ?_)
    · rw [if_pos c1] at h
      obtain rfl := Option.some.inj h
      refine tm_lcp [] rfl ?_
      exact J _ rfl
    · rw [if_neg c1] at h
      refine tm_aload_n dX1_hasPhased_10 rfl rfl ?_
      refine tm_get kX1 rfl (j := 0) (by decide) wfX1_11 dX1_hasPhased_11 (v := tr 200 0) rfl ?_
      refine tm_iload_n dX1_hasPhased_14 rfl rfl ?_
      replace h := chk_some h
      obtain ⟨b2, h⟩ := h
      refine tm_aald (k2 := 7) ⟨rfl, rfl, rfl, fun _ => rfl⟩ dX1_hasPhased_15 (inb_vp b2) ?_
      replace h := bnd_some h
      obtain ⟨r3, er3, h⟩ := h
      refine tm_nmQ er3 ?_
      replace h := obind_some h
      obtain ⟨i4, ei4, h⟩ := h
      subst ei4
      refine tm_get kX7 rfl (j := 1) (by decide) wfX1_66 dX1_hasPhased_16 (v := ti (mI M 7 i4 1)) rfl ?_
      refine tm_iconst (v := 4) dX1_hasPhased_19 (by decide) ?_
      refine tm_icmp_ne (tgt := 25) dX1_hasPhased_20 (by decide) (fun c5 => ?_) (fun c5 => ?_)
      · rw [if_neg c5] at h
        replace h := bnd_some h
        obtain ⟨x6, ex6, h⟩ := h
        refine tm_iinc (v := x6) (lc' := [(1, ti x6), (0, tr 1 0)]) dX1_hasPhased_25 rfl (by rw [ex6]; rfl) (by decide) rfl ?_
        refine tm_goto (tgt := 2) dX1_hasPhased_28 (by decide) ?_
        refine tm_lcp [0, 1] rfl ?_
        exact ih x6 _ h J JR
      · rw [if_pos c5] at h
        refine tm_iconst (v := 1) dX1_hasPhased_23 (by decide) ?_
        obtain rfl := Option.some.inj h
        obtain ⟨rfl, rfl⟩ := JR _ rfl
        exact tm_zret (by decide) rfl dX1_hasPhased_24
set_option maxHeartbeats 4000000 in
set_option maxRecDepth 100000 in
theorem okX1_hasPhased {g : tG}  {M : tM} {v : Int32} (h : fX1_hasPhased  M = some v) : TMet g yX1_hasPhased (Cond.code yX1_hasPhased cX1_hasPhased 2 (some .boolean) :: tgd) rmX1_hasPhased [tr 1 0] M (some (ti v)) M 0 0 := by
  have key : TW g iX1_hasPhased rmX1_hasPhased 0 0 (some (ti v)) M 0 0 0 [(0, tr 1 0)] [] M := by
    rw [fX1_hasPhased] at h
    refine tm_iconst (v := 0) dX1_hasPhased_0 (by decide) ?_
    refine tm_istore_n (lc' := [(1, ti 0), (0, tr 1 0)]) dX1_hasPhased_1 rfl (by decide) rfl ?_
    replace h := obind_some h
    obtain ⟨w7, hE8, h⟩ := h
    refine tm_lcp [0, 1] rfl ?_
    refine okX1_hasPhased_l2 M FU 0 _ hE8 (fun u9 e => ?_) (fun v11 e => ?_)
    · subst e
      dsimp only at h
      refine tm_iconst (v := 0) dX1_hasPhased_31 (by decide) ?_
      obtain rfl := Option.some.inj h
      exact tm_zret (by decide) rfl dX1_hasPhased_32
    · subst e
      obtain rfl := Option.some.inj h
      exact ⟨rfl, rfl⟩
  exact TMet.of (by decide) (Nat.le_of_ble_eq_true rfl) key
theorem wfX1_69 : Cond.fieldLink RX1 69 "EvenFlow$Graph" "roundKnown" "Z" ∈ tgd := (tgd_t 69 (by decide +kernel) (by decide +kernel))
abbrev iX1_forgetRound : tY := (RX1, cX1_forgetRound, 1, none, "forgetRound")
abbrev rmX1_forgetRound : Room := { frames := 0, cells := 0, slots := 0, locals := 0 }
def fX1_forgetRound  (M : tM) : Option (tM) :=
  bnd (sI M 1 0 6 0) fun M1 =>
  some M1
set_option maxHeartbeats 4000000 in
set_option maxRecDepth 100000 in
theorem okX1_forgetRound {g : tG}  {M : tM} {Mz : tM} (h : fX1_forgetRound  M = some Mz) : TMet g yX1_forgetRound (Cond.code yX1_forgetRound cX1_forgetRound 1 (none) :: tgd) rmX1_forgetRound [tr 1 0] M none Mz 0 0 := by
  have key : TW g iX1_forgetRound rmX1_forgetRound 0 0 none Mz 0 0 0 [(0, tr 1 0)] [] M := by
    rw [fX1_forgetRound] at h
    refine tm_aload_n dX1_forgetRound_0 rfl rfl ?_
    refine tm_iconst (v := 0) dX1_forgetRound_1 (by decide) ?_
    replace h := bnd_some h
    obtain ⟨M1, eM1, h⟩ := h
    refine tm_put kX1 rfl (j := 6) (by decide) wfX1_69 rfl dX1_forgetRound_2 (tb_f (x := 0) (by decide)) (tPut_I 0 rfl) ?_
    refine tm_nmM eM1 ?_
    obtain rfl := Option.some.inj h
    exact tm_vret rfl dX1_forgetRound_5
  exact TMet.of (by decide) (Nat.le_of_ble_eq_true rfl) key
theorem wfX1_31 : Cond.fieldLink RX1 31 "EvenFlow$Graph" "proportions" "[J" ∈ tgd := (tgd_t 72 (by decide +kernel) (by decide +kernel))
abbrev iX1_setProportion : tY := (RX1, cX1_setProportion, 5, none, "setProportion")
abbrev rmX1_setProportion : Room := { frames := 0, cells := 0, slots := 0, locals := 0 }
def fX1_setProportion (a1 : Int32) (a2 : Int32) (a3 : Int64) (M : tM) : Option (tM) :=
  chk (inb ((a1 * 12) + a2) (mN M 209 0)) <|
  bnd (sL M 209 0 (((a1 * 12) + a2).toNatClampNeg) a3) fun M2 =>
  some M2
set_option maxHeartbeats 4000000 in
set_option maxRecDepth 100000 in
theorem okX1_setProportion {g : tG} {a1 : Int32} {a2 : Int32} {a3 : Int64} {M : tM} {Mz : tM} (h : fX1_setProportion a1 a2 a3 M = some Mz) : TMet g yX1_setProportion (Cond.code yX1_setProportion cX1_setProportion 5 (none) :: tgd) rmX1_setProportion [tr 1 0, ti a1, ti a2, tl a3] M none Mz 0 0 := by
  have key : TW g iX1_setProportion rmX1_setProportion 0 0 none Mz 0 0 0 [(0, tr 1 0), (1, ti a1), (2, ti a2), (3, tl a3)] [] M := by
    rw [fX1_setProportion] at h
    refine tm_aload_n dX1_setProportion_0 rfl rfl ?_
    refine tm_get kX1 rfl (j := 9) (by decide) wfX1_31 dX1_setProportion_1 (v := tr 209 0) rfl ?_
    refine tm_iload_n dX1_setProportion_4 rfl rfl ?_
    refine tm_bipush (v := 12) dX1_setProportion_5 (by decide) ?_
    refine tm_imul dX1_setProportion_7 ?_
    refine tm_iload_n dX1_setProportion_8 rfl rfl ?_
    refine tm_iadd dX1_setProportion_9 ?_
    refine tm_lload_n dX1_setProportion_10 rfl rfl ?_
    replace h := chk_some h
    obtain ⟨b1, h⟩ := h
    replace h := bnd_some h
    obtain ⟨M2, eM2, h⟩ := h
    refine tm_last rfl dX1_setProportion_11 (inb_vp b1) ?_
    refine tm_nmM eM2 ?_
    obtain rfl := Option.some.inj h
    exact tm_vret rfl dX1_setProportion_12
  exact TMet.of (by decide) (Nat.le_of_ble_eq_true rfl) key
abbrev iX1_proportion : tY := (RX1, cX1_proportion, 3, some .long, "proportion")
abbrev rmX1_proportion : Room := { frames := 0, cells := 0, slots := 0, locals := 0 }
def fX1_proportion (a1 : Int32) (a2 : Int32) (M : tM) : Option (Int64) :=
  chk (inb ((a1 * 12) + a2) (mN M 209 0)) <|
  some (mL M 209 0 (((a1 * 12) + a2).toNatClampNeg))
set_option maxHeartbeats 4000000 in
set_option maxRecDepth 100000 in
theorem okX1_proportion {g : tG} {a1 : Int32} {a2 : Int32} {M : tM} {v : Int64} (h : fX1_proportion a1 a2 M = some v) : TMet g yX1_proportion (Cond.code yX1_proportion cX1_proportion 3 (some .long) :: tgd) rmX1_proportion [tr 1 0, ti a1, ti a2] M (some (tl v)) M 0 0 := by
  have key : TW g iX1_proportion rmX1_proportion 0 0 (some (tl v)) M 0 0 0 [(0, tr 1 0), (1, ti a1), (2, ti a2)] [] M := by
    rw [fX1_proportion] at h
    refine tm_aload_n dX1_proportion_0 rfl rfl ?_
    refine tm_get kX1 rfl (j := 9) (by decide) wfX1_31 dX1_proportion_1 (v := tr 209 0) rfl ?_
    refine tm_iload_n dX1_proportion_4 rfl rfl ?_
    refine tm_bipush (v := 12) dX1_proportion_5 (by decide) ?_
    refine tm_imul dX1_proportion_7 ?_
    refine tm_iload_n dX1_proportion_8 rfl rfl ?_
    refine tm_iadd dX1_proportion_9 ?_
    replace h := chk_some h
    obtain ⟨b1, h⟩ := h
    refine tm_lald rfl dX1_proportion_10 (inb_vp b1) ?_
    obtain rfl := Option.some.inj h
    exact tm_lret rfl dX1_proportion_11
  exact TMet.of (by decide) (Nat.le_of_ble_eq_true rfl) key
theorem wcX1_83 : tCB RX1 83 yX1_setProportion cX1_setProportion 5 (none) 3 ∧ Cond.methodLink RX1 83 yX1_setProportion ∈ tgd ∧ Cond.instanceMethod yX1_setProportion ∈ tgd ∧ Cond.selects RX1 yX1_setProportion yX1_setProportion ∈ tgd := ⟨⟨(tgd_t 713 (by decide +kernel) (by decide +kernel)), (tgd_t 2 (by decide +kernel) (by decide +kernel)), by decide, by decide +kernel⟩, (tgd_t 710 (by decide +kernel) (by decide +kernel)), (tgd_t 712 (by decide +kernel) (by decide +kernel)), (tgd_p 4 (by decide +kernel) (by decide +kernel))⟩
theorem wcX1_114 : tCB RX1 114 yX1_proportion cX1_proportion 3 (some .long) 2 ∧ Cond.methodLink RX1 114 yX1_proportion ∈ tgd ∧ Cond.instanceMethod yX1_proportion ∈ tgd ∧ Cond.selects RX1 yX1_proportion yX1_proportion ∈ tgd := ⟨⟨(tgd_t 724 (by decide +kernel) (by decide +kernel)), (tgd_t 2 (by decide +kernel) (by decide +kernel)), by decide, by decide +kernel⟩, (tgd_t 721 (by decide +kernel) (by decide +kernel)), (tgd_t 723 (by decide +kernel) (by decide +kernel)), (tgd_p 6 (by decide +kernel) (by decide +kernel))⟩
theorem wcX1_122 : tCB RX1 122 yX10_commonDivisor cX10_commonDivisor 7 (some .long) 2 ∧ (RX1, 122, yX10_commonDivisor, "EvenFlow") ∈ tNest ∧ Cond.static yX10_commonDivisor ∈ tgd := ⟨⟨(tgd_t 731 (by decide +kernel) (by decide +kernel)), (tgd_t 1 (by decide +kernel) (by decide +kernel)), by decide, by decide +kernel⟩, (by decide +kernel), (tgd_t 730 (by decide +kernel) (by decide +kernel))⟩
theorem wconstlX1_126 : Cond.constantLong RX1 126 1000000 ∈ tgd := (tgd_t 732 (by decide +kernel) (by decide +kernel))
theorem wfX1_27 : Cond.fieldLink RX1 27 "EvenFlow$Graph" "group" "[I" ∈ tgd := (tgd_t 71 (by decide +kernel) (by decide +kernel))
abbrev iX1_join : tY := (RX1, cX1_join, 14, some .int, "join")
abbrev rmX1_join : Room := { frames := 1, cells := 0, slots := 0, locals := 26 }
def fX1_join_l23 (z1 : Int32) (z2 : Int32) (z3 : Int32) (z4 : Int32) (z5 : Int32) (z6 : Int32) : Nat → Int32 → tM → Option ((Int32 × tM) ⊕ (tM))
  | 0, _, _ => none
  | n + 1, y7, M =>
    if (mI M 1 0 2) ≤ y7 then (
    some (Sum.inr M)
    ) else (
    chk (inb z6 (mN M 208 0)) <|
    chk (inb z1 (mN M 208 0)) <|
    if (mI M 208 0 (z6.toNatClampNeg)) = (mI M 208 0 (z1.toNatClampNeg)) then (
    chk (inb y7 (mN M 208 0)) <|
    if (mI M 208 0 (y7.toNatClampNeg)) = z5 then (
    (fX1_proportion z6 z1 M).bind fun x12 =>
    (fX1_proportion z2 y7 M).bind fun x14 =>
    bnd ((x12 * (z4.toInt64)) * x14) fun x16 =>
    (fX1_proportion z1 z6 M).bind fun x17 =>
    (fX1_proportion y7 z2 M).bind fun x19 =>
    bnd ((x17 * (z3.toInt64)) * x19) fun x21 =>
    (fX10_commonDivisor x16 x21 M).bind fun x22 =>
    chk (nz8 x22) <|
    if 0 < (lg_cmp (x16 / x22) 1000000) then (
    some (Sum.inl (((-6), M)))
    ) else (
    chk (nz8 x22) <|
    if (lg_cmp (x21 / x22) 1000000) ≤ 0 then (
    chk (nz8 x22) <|
    (fX1_setProportion z6 y7 (x16 / x22) M).bind fun M30 =>
    chk (nz8 x22) <|
    (fX1_setProportion y7 z6 (x21 / x22) M30).bind fun M33 =>
    bnd (y7 + 1) fun x34 =>
    fX1_join_l23 z1 z2 z3 z4 z5 z6 n x34 M33
    ) else (
    some (Sum.inl (((-6), M)))
    )
    )
    ) else (
    bnd (y7 + 1) fun x11 =>
    fX1_join_l23 z1 z2 z3 z4 z5 z6 n x11 M
    )
    ) else (
    bnd (y7 + 1) fun x8 =>
    fX1_join_l23 z1 z2 z3 z4 z5 z6 n x8 M
    )
    )
def fX1_join_l11 (z1 : Int32) (z2 : Int32) (z3 : Int32) (z4 : Int32) (z5 : Int32) : Nat → Int32 → tM → Option ((Int32 × tM) ⊕ (tM))
  | 0, _, _ => none
  | n + 1, y6, M =>
    if (mI M 1 0 2) ≤ y6 then (
    some (Sum.inr M)
    ) else (
    Option.bind (fX1_join_l23 z1 z2 z3 z4 z5 y6 FU 0 M) fun w35 => match w35 with
    | Sum.inl q39 => some (Sum.inl q39)
    | Sum.inr M37 =>
      bnd (y6 + 1) fun x38 =>
      fX1_join_l11 z1 z2 z3 z4 z5 n x38 M37
    )
def fX1_join_l178 (z1 : Int32) (z5 : Int32) : Nat → Int32 → tM → Option (tM)
  | 0, _, _ => none
  | n + 1, y6, M =>
    if (mI M 1 0 2) ≤ y6 then (
    some M
    ) else (
    chk (inb y6 (mN M 208 0)) <|
    Option.bind (α := tM) (
    if (mI M 208 0 (y6.toNatClampNeg)) = z5 then (
    chk (inb z1 (mN M 208 0)) <|
    chk (inb y6 (mN M 208 0)) <|
    bnd (sI M 208 0 (y6.toNatClampNeg) (mI M 208 0 (z1.toNatClampNeg))) fun M50 =>
    some M50
    ) else (
    some M
    )
    ) fun M48 =>
    bnd (y6 + 1) fun x51 =>
    fX1_join_l178 z1 z5 n x51 M48
    )
def fX1_join (a1 : Int32) (a2 : Int32) (a3 : Int32) (a4 : Int32) (M : tM) : Option (Int32 × tM) :=
  chk (inb a2 (mN M 208 0)) <|
  bnd (mI M 208 0 (a2.toNatClampNeg)) fun x2 =>
  Option.bind (fX1_join_l11 a1 a2 a3 a4 x2 FU 0 M) fun w42 => match w42 with
  | Sum.inl q55 => some q55
  | Sum.inr M44 =>
    Option.bind (fX1_join_l178 a1 x2 FU 0 M44) fun M54 =>
    some ((0, M54))
set_option maxHeartbeats 4000000 in
set_option maxRecDepth 100000 in
theorem okX1_join_l23 {g : tG} (z1 : Int32) (z2 : Int32) (z3 : Int32) (z4 : Int32) (z5 : Int32) (z6 : Int32) {r : Option tV} {Mz : tM} : ∀ (n : Nat) (y7 : Int32) (M : tM) (w : (Int32 × tM) ⊕ (tM)), fX1_join_l23 z1 z2 z3 z4 z5 z6 n y7 M = some w → (∀ (Mw : tM), Sum.inr Mw = w → TW g iX1_join rmX1_join 0 0 r Mz 0 0 169 [(0, tr 1 0), (1, ti z1), (2, ti z2), (3, ti z3), (4, ti z4), (5, ti z5), (6, ti z6)] [] Mw) → (∀ (v : Int32) (Mv : tM), Sum.inl ((v, Mv)) = w → r = (some (ti v)) ∧ Mz = Mv) → TW g iX1_join rmX1_join 0 0 r Mz 0 0 23 [(0, tr 1 0), (1, ti z1), (2, ti z2), (3, ti z3), (4, ti z4), (5, ti z5), (6, ti z6), (7, ti y7)] [] M := by
  intro n
  induction n with
  | zero => intro y7 M w h; cases h
  | succ n ih =>
    intro y7 M w h J JR
    rw [fX1_join_l23] at h
    refine tm_iload dX1_join_23 rfl ?_
    refine tm_aload_n dX1_join_25 rfl rfl ?_
    refine tm_get kX1 rfl (j := 2) (by decide) wfX1_35 dX1_join_26 (v := ti (mI M 1 0 2)) rfl ?_
    refine tm_icmp_ge (tgt := 169) dX1_join_29 (by decide) (fun c4 => ?_) (fun c4 => ?_)
    · rw [if_pos c4] at h
      obtain rfl := Option.some.inj h
      refine tm_lcp [0, 1, 2, 3, 4, 5, 6] rfl ?_
      exact J _ rfl
    · rw [if_neg c4] at h
      refine tm_aload_n dX1_join_32 rfl rfl ?_
      refine tm_get kX1 rfl (j := 8) (by decide) wfX1_27 dX1_join_33 (v := tr 208 0) rfl ?_
      refine tm_iload dX1_join_36 rfl ?_
      replace h := chk_some h
      obtain ⟨b5, h⟩ := h
      refine tm_iald rfl dX1_join_38 (inb_vp b5) ?_
      refine tm_aload_n dX1_join_39 rfl rfl ?_
      refine tm_get kX1 rfl (j := 8) (by decide) wfX1_27 dX1_join_40 (v := tr 208 0) rfl ?_
      refine tm_iload_n dX1_join_43 rfl rfl ?_
      replace h := chk_some h
      obtain ⟨b6, h⟩ := h
      refine tm_iald rfl dX1_join_44 (inb_vp b6) ?_
      refine tm_icmp_ne (tgt := 163) dX1_join_45 (by decide) (fun c7 => ?_) (fun c7 => ?_)
      · rw [if_neg c7] at h
        replace h := bnd_some h
        obtain ⟨x8, ex8, h⟩ := h
        refine tm_iinc (v := x8) (lc' := [(7, ti x8), (0, tr 1 0), (1, ti z1), (2, ti z2), (3, ti z3), (4, ti z4), (5, ti z5), (6, ti z6)]) dX1_join_163 rfl (by rw [ex8]; rfl) (by decide) rfl ?_
        refine tm_goto (tgt := 23) dX1_join_166 (by decide) ?_
        refine tm_lcp [0, 1, 2, 3, 4, 5, 6, 7] rfl ?_
        exact ih x8 M _ h J JR
      · rw [if_pos c7] at h
        refine tm_aload_n dX1_join_48 rfl rfl ?_
        refine tm_get kX1 rfl (j := 8) (by decide) wfX1_27 dX1_join_49 (v := tr 208 0) rfl ?_
        refine tm_iload dX1_join_52 rfl ?_
        replace h := chk_some h
        obtain ⟨b9, h⟩ := h
        refine tm_iald rfl dX1_join_54 (inb_vp b9) ?_
        refine tm_iload dX1_join_55 rfl ?_
        refine tm_icmp_ne (tgt := 163) dX1_join_57 (by decide) (fun c10 => ?_) (fun c10 => ?_)
        · rw [if_neg c10] at h
          replace h := bnd_some h
          obtain ⟨x11, ex11, h⟩ := h
          refine tm_iinc (v := x11) (lc' := [(7, ti x11), (0, tr 1 0), (1, ti z1), (2, ti z2), (3, ti z3), (4, ti z4), (5, ti z5), (6, ti z6)]) dX1_join_163 rfl (by rw [ex11]; rfl) (by decide) rfl ?_
          refine tm_goto (tgt := 23) dX1_join_166 (by decide) ?_
          refine tm_lcp [0, 1, 2, 3, 4, 5, 6, 7] rfl ?_
          exact ih x11 M _ h J JR
        · rw [if_pos c10] at h
          refine tm_aload_n dX1_join_60 rfl rfl ?_
          refine tm_iload dX1_join_61 rfl ?_
          refine tm_iload_n dX1_join_63 rfl rfl ?_
          replace h := obind_some h
          obtain ⟨x12, hc13, h⟩ := h
          refine tm_callV kX1 rfl (avs := [ti z6, ti z1]) (st := []) (okX1_proportion hc13) wcX1_114.1 wcX1_114.2.1 wcX1_114.2.2.1 wcX1_114.2.2.2 ⟨rfl, rfl, Nat.le_of_ble_eq_true rfl, Nat.le_of_ble_eq_true rfl⟩ rfl (Nat.le_of_ble_eq_true rfl) ⟨Nat.zero_le _, Nat.zero_le _⟩ dX1_join_64 ?_
          refine tm_iload dX1_join_67 rfl ?_
          refine tm_i2l dX1_join_69 ?_
          refine tm_lmul dX1_join_70 ?_
          refine tm_aload_n dX1_join_71 rfl rfl ?_
          refine tm_iload_n dX1_join_72 rfl rfl ?_
          refine tm_iload dX1_join_73 rfl ?_
          replace h := obind_some h
          obtain ⟨x14, hc15, h⟩ := h
          refine tm_callV kX1 rfl (avs := [ti z2, ti y7]) (st := [tl (x12 * (z4.toInt64))]) (okX1_proportion hc15) wcX1_114.1 wcX1_114.2.1 wcX1_114.2.2.1 wcX1_114.2.2.2 ⟨rfl, rfl, Nat.le_of_ble_eq_true rfl, Nat.le_of_ble_eq_true rfl⟩ rfl (Nat.le_of_ble_eq_true rfl) ⟨Nat.zero_le _, Nat.zero_le _⟩ dX1_join_75 ?_
          refine tm_lmul dX1_join_78 ?_
          replace h := bnd_some h
          obtain ⟨x16, ex16, h⟩ := h
          refine tm_nmL ex16 ?_
          refine tm_lstore (lc' := [(8, tl x16), (0, tr 1 0), (1, ti z1), (2, ti z2), (3, ti z3), (4, ti z4), (5, ti z5), (6, ti z6), (7, ti y7)]) dX1_join_79 (by decide) rfl ?_
          refine tm_aload_n dX1_join_81 rfl rfl ?_
          refine tm_iload_n dX1_join_82 rfl rfl ?_
          refine tm_iload dX1_join_83 rfl ?_
          replace h := obind_some h
          obtain ⟨x17, hc18, h⟩ := h
          refine tm_callV kX1 rfl (avs := [ti z1, ti z6]) (st := []) (okX1_proportion hc18) wcX1_114.1 wcX1_114.2.1 wcX1_114.2.2.1 wcX1_114.2.2.2 ⟨rfl, rfl, Nat.le_of_ble_eq_true rfl, Nat.le_of_ble_eq_true rfl⟩ rfl (Nat.le_of_ble_eq_true rfl) ⟨Nat.zero_le _, Nat.zero_le _⟩ dX1_join_85 ?_
          refine tm_iload_n dX1_join_88 rfl rfl ?_
          refine tm_i2l dX1_join_89 ?_
          refine tm_lmul dX1_join_90 ?_
          refine tm_aload_n dX1_join_91 rfl rfl ?_
          refine tm_iload dX1_join_92 rfl ?_
          refine tm_iload_n dX1_join_94 rfl rfl ?_
          replace h := obind_some h
          obtain ⟨x19, hc20, h⟩ := h
          refine tm_callV kX1 rfl (avs := [ti y7, ti z2]) (st := [tl (x17 * (z3.toInt64))]) (okX1_proportion hc20) wcX1_114.1 wcX1_114.2.1 wcX1_114.2.2.1 wcX1_114.2.2.2 ⟨rfl, rfl, Nat.le_of_ble_eq_true rfl, Nat.le_of_ble_eq_true rfl⟩ rfl (Nat.le_of_ble_eq_true rfl) ⟨Nat.zero_le _, Nat.zero_le _⟩ dX1_join_95 ?_
          refine tm_lmul dX1_join_98 ?_
          replace h := bnd_some h
          obtain ⟨x21, ex21, h⟩ := h
          refine tm_nmL ex21 ?_
          refine tm_lstore (lc' := [(10, tl x21), (8, tl x16), (0, tr 1 0), (1, ti z1), (2, ti z2), (3, ti z3), (4, ti z4), (5, ti z5), (6, ti z6), (7, ti y7)]) dX1_join_99 (by decide) rfl ?_
          refine tm_lload dX1_join_101 rfl ?_
          refine tm_lload dX1_join_103 rfl ?_
          replace h := obind_some h
          obtain ⟨x22, hc23, h⟩ := h
          refine tm_callSN (avs := [tl x16, tl x21]) (st := []) (okX10_commonDivisor hc23) wcX1_122.1 wcX1_122.2.1 wcX1_122.2.2 ⟨rfl, rfl, Nat.le_of_ble_eq_true rfl, Nat.le_of_ble_eq_true rfl⟩ rfl (Nat.le_of_ble_eq_true rfl) ⟨Nat.zero_le _, Nat.zero_le _⟩ dX1_join_105 ?_
          refine tm_lstore (lc' := [(12, tl x22), (10, tl x21), (8, tl x16), (0, tr 1 0), (1, ti z1), (2, ti z2), (3, ti z3), (4, ti z4), (5, ti z5), (6, ti z6), (7, ti y7)]) dX1_join_108 (by decide) rfl ?_
          refine tm_lload dX1_join_110 rfl ?_
          refine tm_lload dX1_join_112 rfl ?_
          replace h := chk_some h
          obtain ⟨b24, h⟩ := h
          refine tm_ldiv dX1_join_114 (nz8_ne b24) ?_
          refine tm_ldc2 (v := 1000000) dX1_join_115 wconstlX1_126 ?_
          refine tm_lcmp dX1_join_118 ?_
          refine tm_if_gt (tgt := 134) dX1_join_119 (by decide) (fun c25 => ?_) (fun c25 => ?_)
          · rw [if_pos c25] at h
            refine tm_bipush (v := (-6)) dX1_join_134 (by decide) ?_
            obtain rfl := Option.some.inj h
            obtain ⟨rfl, rfl⟩ := JR _ _ rfl
            exact tm_iret rfl dX1_join_136
          · rw [if_neg c25] at h
            refine tm_lload dX1_join_122 rfl ?_
            refine tm_lload dX1_join_124 rfl ?_
            replace h := chk_some h
            obtain ⟨b26, h⟩ := h
            refine tm_ldiv dX1_join_126 (nz8_ne b26) ?_
            refine tm_ldc2 (v := 1000000) dX1_join_127 wconstlX1_126 ?_
            refine tm_lcmp dX1_join_130 ?_
            refine tm_if_le (tgt := 137) dX1_join_131 (by decide) (fun c27 => ?_) (fun c27 => ?_)
            · rw [if_pos c27] at h
              refine tm_aload_n dX1_join_137 rfl rfl ?_
              refine tm_iload dX1_join_138 rfl ?_
              refine tm_iload dX1_join_140 rfl ?_
              refine tm_lload dX1_join_142 rfl ?_
              refine tm_lload dX1_join_144 rfl ?_
              replace h := chk_some h
              obtain ⟨b28, h⟩ := h
              refine tm_ldiv dX1_join_146 (nz8_ne b28) ?_
              replace h := obind_some h
              obtain ⟨M30, hc29, h⟩ := h
              refine tm_callV kX1 rfl (avs := [ti z6, ti y7, tl (x16 / x22)]) (st := []) (okX1_setProportion hc29) wcX1_83.1 wcX1_83.2.1 wcX1_83.2.2.1 wcX1_83.2.2.2 ⟨rfl, rfl, Nat.le_of_ble_eq_true rfl, Nat.le_of_ble_eq_true rfl⟩ rfl (Nat.le_of_ble_eq_true rfl) ⟨Nat.zero_le _, Nat.zero_le _⟩ dX1_join_147 ?_
              refine tm_aload_n dX1_join_150 rfl rfl ?_
              refine tm_iload dX1_join_151 rfl ?_
              refine tm_iload dX1_join_153 rfl ?_
              refine tm_lload dX1_join_155 rfl ?_
              refine tm_lload dX1_join_157 rfl ?_
              replace h := chk_some h
              obtain ⟨b31, h⟩ := h
              refine tm_ldiv dX1_join_159 (nz8_ne b31) ?_
              replace h := obind_some h
              obtain ⟨M33, hc32, h⟩ := h
              refine tm_callV kX1 rfl (avs := [ti y7, ti z6, tl (x21 / x22)]) (st := []) (okX1_setProportion hc32) wcX1_83.1 wcX1_83.2.1 wcX1_83.2.2.1 wcX1_83.2.2.2 ⟨rfl, rfl, Nat.le_of_ble_eq_true rfl, Nat.le_of_ble_eq_true rfl⟩ rfl (Nat.le_of_ble_eq_true rfl) ⟨Nat.zero_le _, Nat.zero_le _⟩ dX1_join_160 ?_
              replace h := bnd_some h
              obtain ⟨x34, ex34, h⟩ := h
              refine tm_iinc (v := x34) (lc' := [(7, ti x34), (12, tl x22), (10, tl x21), (8, tl x16), (0, tr 1 0), (1, ti z1), (2, ti z2), (3, ti z3), (4, ti z4), (5, ti z5), (6, ti z6)]) dX1_join_163 rfl (by rw [ex34]; rfl) (by decide) rfl ?_
              refine tm_goto (tgt := 23) dX1_join_166 (by decide) ?_
              refine tm_lcp [0, 1, 2, 3, 4, 5, 6, 7] rfl ?_
              exact ih x34 M33 _ h J JR
            · rw [if_neg c27] at h
              refine tm_bipush (v := (-6)) dX1_join_134 (by decide) ?_
              obtain rfl := Option.some.inj h
              obtain ⟨rfl, rfl⟩ := JR _ _ rfl
              exact tm_iret rfl dX1_join_136
set_option maxHeartbeats 4000000 in
set_option maxRecDepth 100000 in
theorem okX1_join_l11 {g : tG} (z1 : Int32) (z2 : Int32) (z3 : Int32) (z4 : Int32) (z5 : Int32) {r : Option tV} {Mz : tM} : ∀ (n : Nat) (y6 : Int32) (M : tM) (w : (Int32 × tM) ⊕ (tM)), fX1_join_l11 z1 z2 z3 z4 z5 n y6 M = some w → (∀ (Mw : tM), Sum.inr Mw = w → TW g iX1_join rmX1_join 0 0 r Mz 0 0 175 [(0, tr 1 0), (1, ti z1), (5, ti z5)] [] Mw) → (∀ (v : Int32) (Mv : tM), Sum.inl ((v, Mv)) = w → r = (some (ti v)) ∧ Mz = Mv) → TW g iX1_join rmX1_join 0 0 r Mz 0 0 11 [(0, tr 1 0), (1, ti z1), (2, ti z2), (3, ti z3), (4, ti z4), (5, ti z5), (6, ti y6)] [] M := by
  intro n
  induction n with
  | zero => intro y6 M w h; cases h
  | succ n ih =>
    intro y6 M w h J JR
    rw [fX1_join_l11] at h
    refine tm_iload dX1_join_11 rfl ?_
    refine tm_aload_n dX1_join_13 rfl rfl ?_
    refine tm_get kX1 rfl (j := 2) (by decide) wfX1_35 dX1_join_14 (v := ti (mI M 1 0 2)) rfl ?_
    refine tm_icmp_ge (tgt := 175) dX1_join_17 (by decide) (fun c3 => ?_) (fun c3 => ?_)
    · rw [if_pos c3] at h
      obtain rfl := Option.some.inj h
      refine tm_lcp [0, 1, 5] rfl ?_
      exact J _ rfl
    · rw [if_neg c3] at h
      refine tm_iconst (v := 0) dX1_join_20 (by decide) ?_
      refine tm_istore (lc' := [(7, ti 0), (0, tr 1 0), (1, ti z1), (2, ti z2), (3, ti z3), (4, ti z4), (5, ti z5), (6, ti y6)]) dX1_join_21 (by decide) rfl ?_
      replace h := obind_some h
      obtain ⟨w35, hE36, h⟩ := h
      refine tm_lcp [0, 1, 2, 3, 4, 5, 6, 7] rfl ?_
      refine okX1_join_l23 z1 z2 z3 z4 z5 y6 FU 0 M _ hE36 (fun M37 e => ?_) (fun v40 Mv41 e => ?_)
      · subst e
        dsimp only at h
        replace h := bnd_some h
        obtain ⟨x38, ex38, h⟩ := h
        refine tm_iinc (v := x38) (lc' := [(6, ti x38), (0, tr 1 0), (1, ti z1), (2, ti z2), (3, ti z3), (4, ti z4), (5, ti z5)]) dX1_join_169 rfl (by rw [ex38]; rfl) (by decide) rfl ?_
        refine tm_goto (tgt := 11) dX1_join_172 (by decide) ?_
        refine tm_lcp [0, 1, 2, 3, 4, 5, 6] rfl ?_
        exact ih x38 M37 _ h J JR
      · subst e
        obtain rfl := Option.some.inj h
        exact JR _ _ rfl
set_option maxHeartbeats 4000000 in
set_option maxRecDepth 100000 in
theorem okX1_join_l178 {g : tG} (z1 : Int32) (z5 : Int32) {r : Option tV} {Mz : tM} : ∀ (n : Nat) (y6 : Int32) (M : tM) (w : tM), fX1_join_l178 z1 z5 n y6 M = some w → (∀ (Mw : tM), Mw = w → TW g iX1_join rmX1_join 0 0 r Mz 0 0 218 [] [] Mw) → TW g iX1_join rmX1_join 0 0 r Mz 0 0 178 [(0, tr 1 0), (1, ti z1), (5, ti z5), (6, ti y6)] [] M := by
  intro n
  induction n with
  | zero => intro y6 M w h; cases h
  | succ n ih =>
    intro y6 M w h J
    rw [fX1_join_l178] at h
    refine tm_iload dX1_join_178 rfl ?_
    refine tm_aload_n dX1_join_180 rfl rfl ?_
    refine tm_get kX1 rfl (j := 2) (by decide) wfX1_35 dX1_join_181 (v := ti (mI M 1 0 2)) rfl ?_
    refine tm_icmp_ge (tgt := 218) dX1_join_184 (by decide) (fun c45 => ?_) (fun c45 => ?_)
    · rw [if_pos c45] at h
      obtain rfl := Option.some.inj h
      refine tm_lcp [] rfl ?_
      exact J _ rfl
    · rw [if_neg c45] at h
      refine tm_aload_n dX1_join_187 rfl rfl ?_
      refine tm_get kX1 rfl (j := 8) (by decide) wfX1_27 dX1_join_188 (v := tr 208 0) rfl ?_
      refine tm_iload dX1_join_191 rfl ?_
      replace h := chk_some h
      obtain ⟨b46, h⟩ := h
      refine tm_iald rfl dX1_join_193 (inb_vp b46) ?_
      refine tm_iload dX1_join_194 rfl ?_
      replace h := obind_some h
      obtain ⟨M48, hE49, h⟩ := h
      have J50 : TW g iX1_join rmX1_join 0 0 r Mz 0 0 212 [(0, tr 1 0), (1, ti z1), (5, ti z5), (6, ti y6)] [] M48 := by
        replace h := bnd_some h
        obtain ⟨x51, ex51, h⟩ := h
        refine tm_iinc (v := x51) (lc' := [(6, ti x51), (0, tr 1 0), (1, ti z1), (5, ti z5)]) dX1_join_212 rfl (by rw [ex51]; rfl) (by decide) rfl ?_
        refine tm_goto (tgt := 178) dX1_join_215 (by decide) ?_
        refine tm_lcp [0, 1, 5, 6] rfl ?_
        exact ih x51 M48 _ h J
      refine tm_icmp_ne (tgt := 212) dX1_join_196 (by decide) (fun c47 => ?_) (fun c47 => ?_)
      · rw [if_neg c47] at hE49
        obtain rfl := Option.some.inj hE49
        refine tm_lcp [0, 1, 5, 6] rfl ?_
        exact J50
      · rw [if_pos c47] at hE49
        refine tm_aload_n dX1_join_199 rfl rfl ?_
        refine tm_get kX1 rfl (j := 8) (by decide) wfX1_27 dX1_join_200 (v := tr 208 0) rfl ?_
        refine tm_iload dX1_join_203 rfl ?_
        refine tm_aload_n dX1_join_205 rfl rfl ?_
        refine tm_get kX1 rfl (j := 8) (by decide) wfX1_27 dX1_join_206 (v := tr 208 0) rfl ?_
        refine tm_iload_n dX1_join_209 rfl rfl ?_
        replace hE49 := chk_some hE49
        obtain ⟨b48, hE49⟩ := hE49
        refine tm_iald rfl dX1_join_210 (inb_vp b48) ?_
        replace hE49 := chk_some hE49
        obtain ⟨b49, hE49⟩ := hE49
        replace hE49 := bnd_some hE49
        obtain ⟨M50, eM50, hE49⟩ := hE49
        refine tm_iast rfl dX1_join_211 (inb_vp b49) ?_
        refine tm_nmM eM50 ?_
        obtain rfl := Option.some.inj hE49
        refine tm_lcp [0, 1, 5, 6] rfl ?_
        exact J50
set_option maxHeartbeats 4000000 in
set_option maxRecDepth 100000 in
theorem okX1_join {g : tG} {a1 : Int32} {a2 : Int32} {a3 : Int32} {a4 : Int32} {M : tM} {v : Int32} {Mz : tM} (h : fX1_join a1 a2 a3 a4 M = some ((v, Mz))) : TMet g yX1_join (Cond.code yX1_join cX1_join 14 (some .int) :: tgd) rmX1_join [tr 1 0, ti a1, ti a2, ti a3, ti a4] M (some (ti v)) Mz 0 0 := by
  have key : TW g iX1_join rmX1_join 0 0 (some (ti v)) Mz 0 0 0 [(0, tr 1 0), (1, ti a1), (2, ti a2), (3, ti a3), (4, ti a4)] [] M := by
    rw [fX1_join] at h
    refine tm_aload_n dX1_join_0 rfl rfl ?_
    refine tm_get kX1 rfl (j := 8) (by decide) wfX1_27 dX1_join_1 (v := tr 208 0) rfl ?_
    refine tm_iload_n dX1_join_4 rfl rfl ?_
    replace h := chk_some h
    obtain ⟨b1, h⟩ := h
    refine tm_iald rfl dX1_join_5 (inb_vp b1) ?_
    replace h := bnd_some h
    obtain ⟨x2, ex2, h⟩ := h
    refine tm_nmI ex2 ?_
    refine tm_istore (lc' := [(5, ti x2), (0, tr 1 0), (1, ti a1), (2, ti a2), (3, ti a3), (4, ti a4)]) dX1_join_6 (by decide) rfl ?_
    refine tm_iconst (v := 0) dX1_join_8 (by decide) ?_
    refine tm_istore (lc' := [(6, ti 0), (5, ti x2), (0, tr 1 0), (1, ti a1), (2, ti a2), (3, ti a3), (4, ti a4)]) dX1_join_9 (by decide) rfl ?_
    replace h := obind_some h
    obtain ⟨w42, hE43, h⟩ := h
    refine tm_lcp [0, 1, 2, 3, 4, 5, 6] rfl ?_
    refine okX1_join_l11 a1 a2 a3 a4 x2 FU 0 M _ hE43 (fun M44 e => ?_) (fun v56 Mv57 e => ?_)
    · subst e
      dsimp only at h
      refine tm_iconst (v := 0) dX1_join_175 (by decide) ?_
      refine tm_istore (lc' := [(6, ti 0), (0, tr 1 0), (1, ti a1), (5, ti x2)]) dX1_join_176 (by decide) rfl ?_
      replace h := obind_some h
      obtain ⟨w52, hE53, h⟩ := h
      refine tm_lcp [0, 1, 5, 6] rfl ?_
      refine okX1_join_l178 a1 x2 FU 0 M44 _ hE53 (fun M54 e => ?_)
      subst e
      refine tm_iconst (v := 0) dX1_join_218 (by decide) ?_
      obtain ⟨rfl, rfl⟩ := pj2 h
      exact tm_iret rfl dX1_join_219
    · subst e
      obtain ⟨rfl, rfl⟩ := pj2 h
      exact ⟨rfl, rfl⟩
  exact TMet.of (by decide) (Nat.le_of_ble_eq_true rfl) key
theorem wcX1_97 : tCB RX1 97 yX4_sumOf cX4_sumOf 6 (some .int) 1 ∧ Cond.methodLink RX1 97 yX4_sumOf ∈ tgd ∧ Cond.static yX4_sumOf ∈ tgd := ⟨⟨(tgd_t 720 (by decide +kernel) (by decide +kernel)), (tgd_t 15 (by decide +kernel) (by decide +kernel)), by decide, by decide +kernel⟩, (tgd_t 718 (by decide +kernel) (by decide +kernel)), (tgd_t 719 (by decide +kernel) (by decide +kernel))⟩
theorem wcX1_118 : tCB RX1 118 yX1_join cX1_join 14 (some .int) 4 ∧ Cond.methodLink RX1 118 yX1_join ∈ tgd ∧ Cond.instanceMethod yX1_join ∈ tgd ∧ Cond.selects RX1 yX1_join yX1_join ∈ tgd := ⟨⟨(tgd_t 728 (by decide +kernel) (by decide +kernel)), (tgd_t 2 (by decide +kernel) (by decide +kernel)), by decide, by decide +kernel⟩, (tgd_t 725 (by decide +kernel) (by decide +kernel)), (tgd_t 727 (by decide +kernel) (by decide +kernel)), (tgd_p 7 (by decide +kernel) (by decide +kernel))⟩
theorem wfX1_94 : Cond.fieldLink RX1 94 "EvenFlow$Line" "gives" "[I" ∈ tgd := (tgd_t 574 (by decide +kernel) (by decide +kernel))
theorem wfX1_101 : Cond.fieldLink RX1 101 "EvenFlow$Line" "takes" "[I" ∈ tgd := (tgd_t 577 (by decide +kernel) (by decide +kernel))
theorem wfX1_104 : Cond.fieldLink RX1 104 "EvenFlow$Line" "from" "LEvenFlow$Part;" ∈ tgd := (tgd_t 563 (by decide +kernel) (by decide +kernel))
theorem wfX1_108 : Cond.fieldLink RX1 108 "EvenFlow$Part" "number" "I" ∈ tgd := (tgd_t 408 (by decide +kernel) (by decide +kernel))
theorem wfX1_111 : Cond.fieldLink RX1 111 "EvenFlow$Line" "to" "LEvenFlow$Part;" ∈ tgd := (tgd_t 569 (by decide +kernel) (by decide +kernel))
abbrev iX1_tie : tY := (RX1, cX1_tie, 6, some .int, "tie")
abbrev rmX1_tie : Room := { frames := 2, cells := 0, slots := 0, locals := 59 }
def fX1_tie (a1 : Option Nat) (M : tM) : Option (Int32 × tM) :=
  Option.bind a1 fun i1 =>
  (fX4_sumOf 503 i1 M).bind fun x2 =>
  (fX4_sumOf 504 i1 M).bind fun x4 =>
  if x2 = 0 then (
  if x4 = 0 then (
  some ((0, M))
  ) else (
  if x2 = 0 then (
  some (((-9), M))
  ) else (
  if x4 = 0 then (
  some (((-9), M))
  ) else (
  bnd (mR M 4 i1 1) fun r29 =>
  Option.bind r29 fun i30 =>
  bnd (mI M 7 i30 0) fun x31 =>
  bnd (mR M 4 i1 2) fun r32 =>
  Option.bind r32 fun i33 =>
  bnd (mI M 7 i33 0) fun x34 =>
  chk (inb x31 (mN M 208 0)) <|
  chk (inb x34 (mN M 208 0)) <|
  if (mI M 208 0 (x31.toNatClampNeg)) = (mI M 208 0 (x34.toNatClampNeg)) then (
  (fX1_proportion x31 x34 M).bind fun x41 =>
  (fX1_proportion x34 x31 M).bind fun x43 =>
  if (lg_cmp (x41 * (x2.toInt64)) (x43 * (x4.toInt64))) = 0 then (
  some ((0, M))
  ) else (
  some (((-9), M))
  )
  ) else (
  (fX1_join x31 x34 x2 x4 M).bind fun (x38, M40) =>
  some ((x38, M40))
  )
  )
  )
  )
  ) else (
  if x2 = 0 then (
  some (((-9), M))
  ) else (
  if x4 = 0 then (
  some (((-9), M))
  ) else (
  bnd (mR M 4 i1 1) fun r9 =>
  Option.bind r9 fun i10 =>
  bnd (mI M 7 i10 0) fun x11 =>
  bnd (mR M 4 i1 2) fun r12 =>
  Option.bind r12 fun i13 =>
  bnd (mI M 7 i13 0) fun x14 =>
  chk (inb x11 (mN M 208 0)) <|
  chk (inb x14 (mN M 208 0)) <|
  if (mI M 208 0 (x11.toNatClampNeg)) = (mI M 208 0 (x14.toNatClampNeg)) then (
  (fX1_proportion x11 x14 M).bind fun x21 =>
  (fX1_proportion x14 x11 M).bind fun x23 =>
  if (lg_cmp (x21 * (x2.toInt64)) (x23 * (x4.toInt64))) = 0 then (
  some ((0, M))
  ) else (
  some (((-9), M))
  )
  ) else (
  (fX1_join x11 x14 x2 x4 M).bind fun (x18, M20) =>
  some ((x18, M20))
  )
  )
  )
  )
set_option maxHeartbeats 4000000 in
set_option maxRecDepth 100000 in
theorem okX1_tie {g : tG} {a1 : Option Nat} {M : tM} {v : Int32} {Mz : tM} (h : fX1_tie a1 M = some ((v, Mz))) : TMet g yX1_tie (Cond.code yX1_tie cX1_tie 6 (some .int) :: tgd) rmX1_tie [tr 1 0, tq 4 a1] M (some (ti v)) Mz 0 0 := by
  have key : TW g iX1_tie rmX1_tie 0 0 (some (ti v)) Mz 0 0 0 [(0, tr 1 0), (1, tq 4 a1)] [] M := by
    rw [fX1_tie] at h
    refine tm_aload_n dX1_tie_0 rfl rfl ?_
    replace h := obind_some h
    obtain ⟨i1, ei1, h⟩ := h
    subst ei1
    refine tm_get kX4 rfl (j := 3) (by decide) wfX1_94 dX1_tie_1 (v := tr 503 i1) rfl ?_
    replace h := obind_some h
    obtain ⟨x2, hc3, h⟩ := h
    refine tm_callS (avs := [tr 503 i1]) (st := []) (okX4_sumOf hc3) wcX1_97.1 wcX1_97.2.1 wcX1_97.2.2 ⟨rfl, rfl, Nat.le_of_ble_eq_true rfl, Nat.le_of_ble_eq_true rfl⟩ rfl (Nat.le_of_ble_eq_true rfl) ⟨Nat.zero_le _, Nat.zero_le _⟩ dX1_tie_4 ?_
    refine tm_istore_n (lc' := [(2, ti x2), (0, tr 1 0), (1, tr 4 i1)]) dX1_tie_7 rfl (by decide) rfl ?_
    refine tm_aload_n dX1_tie_8 rfl rfl ?_
    refine tm_get kX4 rfl (j := 4) (by decide) wfX1_101 dX1_tie_9 (v := tr 504 i1) rfl ?_
    replace h := obind_some h
    obtain ⟨x4, hc5, h⟩ := h
    refine tm_callS (avs := [tr 504 i1]) (st := []) (okX4_sumOf hc5) wcX1_97.1 wcX1_97.2.1 wcX1_97.2.2 ⟨rfl, rfl, Nat.le_of_ble_eq_true rfl, Nat.le_of_ble_eq_true rfl⟩ rfl (Nat.le_of_ble_eq_true rfl) ⟨Nat.zero_le _, Nat.zero_le _⟩ dX1_tie_12 ?_
    refine tm_istore_n (lc' := [(3, ti x4), (2, ti x2), (0, tr 1 0), (1, tr 4 i1)]) dX1_tie_15 rfl (by decide) rfl ?_
    refine tm_iload_n dX1_tie_16 rfl rfl ?_
    refine tm_if_ne (tgt := 26) dX1_tie_17 (by decide) (fun c6 => ?_) (fun c6 => ?_)
    · rw [if_neg c6] at h
      refine tm_iload_n dX1_tie_26 rfl rfl ?_
      refine tm_if_eq (tgt := 34) dX1_tie_27 (by decide) (fun c7 => ?_) (fun c7 => ?_)
      · rw [if_pos c7] at h
        refine tm_bipush (v := (-9)) dX1_tie_34 (by decide) ?_
        obtain ⟨rfl, rfl⟩ := pj2 h
        exact tm_iret rfl dX1_tie_36
      · rw [if_neg c7] at h
        refine tm_iload_n dX1_tie_30 rfl rfl ?_
        refine tm_if_ne (tgt := 37) dX1_tie_31 (by decide) (fun c8 => ?_) (fun c8 => ?_)
        · rw [if_neg c8] at h
          refine tm_aload_n dX1_tie_37 rfl rfl ?_
          refine tm_get kX4 rfl (j := 1) (by decide) wfX1_104 dX1_tie_38 (v := tq 7 (mR M 4 i1 1)) rfl ?_
          replace h := bnd_some h
          obtain ⟨r9, er9, h⟩ := h
          refine tm_nmQ er9 ?_
          replace h := obind_some h
          obtain ⟨i10, ei10, h⟩ := h
          subst ei10
          refine tm_get kX7 rfl (j := 0) (by decide) wfX1_108 dX1_tie_41 (v := ti (mI M 7 i10 0)) rfl ?_
          replace h := bnd_some h
          obtain ⟨x11, ex11, h⟩ := h
          refine tm_nmI ex11 ?_
          refine tm_istore (lc' := [(4, ti x11), (3, ti x4), (2, ti x2), (0, tr 1 0), (1, tr 4 i1)]) dX1_tie_44 (by decide) rfl ?_
          refine tm_aload_n dX1_tie_46 rfl rfl ?_
          refine tm_get kX4 rfl (j := 2) (by decide) wfX1_111 dX1_tie_47 (v := tq 7 (mR M 4 i1 2)) rfl ?_
          replace h := bnd_some h
          obtain ⟨r12, er12, h⟩ := h
          refine tm_nmQ er12 ?_
          replace h := obind_some h
          obtain ⟨i13, ei13, h⟩ := h
          subst ei13
          refine tm_get kX7 rfl (j := 0) (by decide) wfX1_108 dX1_tie_50 (v := ti (mI M 7 i13 0)) rfl ?_
          replace h := bnd_some h
          obtain ⟨x14, ex14, h⟩ := h
          refine tm_nmI ex14 ?_
          refine tm_istore (lc' := [(5, ti x14), (4, ti x11), (3, ti x4), (2, ti x2), (0, tr 1 0), (1, tr 4 i1)]) dX1_tie_53 (by decide) rfl ?_
          refine tm_aload_n dX1_tie_55 rfl rfl ?_
          refine tm_get kX1 rfl (j := 8) (by decide) wfX1_27 dX1_tie_56 (v := tr 208 0) rfl ?_
          refine tm_iload dX1_tie_59 rfl ?_
          replace h := chk_some h
          obtain ⟨b15, h⟩ := h
          refine tm_iald rfl dX1_tie_61 (inb_vp b15) ?_
          refine tm_aload_n dX1_tie_62 rfl rfl ?_
          refine tm_get kX1 rfl (j := 8) (by decide) wfX1_27 dX1_tie_63 (v := tr 208 0) rfl ?_
          refine tm_iload dX1_tie_66 rfl ?_
          replace h := chk_some h
          obtain ⟨b16, h⟩ := h
          refine tm_iald rfl dX1_tie_68 (inb_vp b16) ?_
          refine tm_icmp_ne (tgt := 105) dX1_tie_69 (by decide) (fun c17 => ?_) (fun c17 => ?_)
          · rw [if_neg c17] at h
            refine tm_aload_n dX1_tie_105 rfl rfl ?_
            refine tm_iload dX1_tie_106 rfl ?_
            refine tm_iload dX1_tie_108 rfl ?_
            refine tm_iload_n dX1_tie_110 rfl rfl ?_
            refine tm_iload_n dX1_tie_111 rfl rfl ?_
            replace h := obind_some h
            obtain ⟨⟨x18, M20⟩, hc19, h⟩ := h
            dsimp only at h
            refine tm_callV kX1 rfl (avs := [ti x11, ti x14, ti x2, ti x4]) (st := []) (okX1_join hc19) wcX1_118.1 wcX1_118.2.1 wcX1_118.2.2.1 wcX1_118.2.2.2 ⟨rfl, rfl, Nat.le_of_ble_eq_true rfl, Nat.le_of_ble_eq_true rfl⟩ rfl (Nat.le_of_ble_eq_true rfl) ⟨Nat.zero_le _, Nat.zero_le _⟩ dX1_tie_112 ?_
            obtain ⟨rfl, rfl⟩ := pj2 h
            exact tm_iret rfl dX1_tie_115
          · rw [if_pos c17] at h
            refine tm_aload_n dX1_tie_72 rfl rfl ?_
            refine tm_iload dX1_tie_73 rfl ?_
            refine tm_iload dX1_tie_75 rfl ?_
            replace h := obind_some h
            obtain ⟨x21, hc22, h⟩ := h
            refine tm_callV kX1 rfl (avs := [ti x11, ti x14]) (st := []) (okX1_proportion hc22) wcX1_114.1 wcX1_114.2.1 wcX1_114.2.2.1 wcX1_114.2.2.2 ⟨rfl, rfl, Nat.le_of_ble_eq_true rfl, Nat.le_of_ble_eq_true rfl⟩ rfl (Nat.le_of_ble_eq_true rfl) ⟨Nat.zero_le _, Nat.zero_le _⟩ dX1_tie_77 ?_
            refine tm_iload_n dX1_tie_80 rfl rfl ?_
            refine tm_i2l dX1_tie_81 ?_
            refine tm_lmul dX1_tie_82 ?_
            refine tm_aload_n dX1_tie_83 rfl rfl ?_
            refine tm_iload dX1_tie_84 rfl ?_
            refine tm_iload dX1_tie_86 rfl ?_
            replace h := obind_some h
            obtain ⟨x23, hc24, h⟩ := h
            refine tm_callV kX1 rfl (avs := [ti x14, ti x11]) (st := [tl (x21 * (x2.toInt64))]) (okX1_proportion hc24) wcX1_114.1 wcX1_114.2.1 wcX1_114.2.2.1 wcX1_114.2.2.2 ⟨rfl, rfl, Nat.le_of_ble_eq_true rfl, Nat.le_of_ble_eq_true rfl⟩ rfl (Nat.le_of_ble_eq_true rfl) ⟨Nat.zero_le _, Nat.zero_le _⟩ dX1_tie_88 ?_
            refine tm_iload_n dX1_tie_91 rfl rfl ?_
            refine tm_i2l dX1_tie_92 ?_
            refine tm_lmul dX1_tie_93 ?_
            refine tm_lcmp dX1_tie_94 ?_
            refine tm_if_ne (tgt := 102) dX1_tie_95 (by decide) (fun c25 => ?_) (fun c25 => ?_)
            · rw [if_neg c25] at h
              refine tm_bipush (v := (-9)) dX1_tie_102 (by decide) ?_
              obtain ⟨rfl, rfl⟩ := pj2 h
              exact tm_iret rfl dX1_tie_104
            · rw [if_pos c25] at h
              refine tm_iconst (v := 0) dX1_tie_98 (by decide) ?_
              refine tm_goto (tgt := 104) dX1_tie_99 (by decide) ?_
              obtain ⟨rfl, rfl⟩ := pj2 h
              exact tm_iret rfl dX1_tie_104
        · rw [if_pos c8] at h
          refine tm_bipush (v := (-9)) dX1_tie_34 (by decide) ?_
          obtain ⟨rfl, rfl⟩ := pj2 h
          exact tm_iret rfl dX1_tie_36
    · rw [if_pos c6] at h
      refine tm_iload_n dX1_tie_20 rfl rfl ?_
      refine tm_if_ne (tgt := 26) dX1_tie_21 (by decide) (fun c26 => ?_) (fun c26 => ?_)
      · rw [if_neg c26] at h
        refine tm_iload_n dX1_tie_26 rfl rfl ?_
        refine tm_if_eq (tgt := 34) dX1_tie_27 (by decide) (fun c27 => ?_) (fun c27 => ?_)
        · rw [if_pos c27] at h
          refine tm_bipush (v := (-9)) dX1_tie_34 (by decide) ?_
          obtain ⟨rfl, rfl⟩ := pj2 h
          exact tm_iret rfl dX1_tie_36
        · rw [if_neg c27] at h
          refine tm_iload_n dX1_tie_30 rfl rfl ?_
          refine tm_if_ne (tgt := 37) dX1_tie_31 (by decide) (fun c28 => ?_) (fun c28 => ?_)
          · rw [if_neg c28] at h
            refine tm_aload_n dX1_tie_37 rfl rfl ?_
            refine tm_get kX4 rfl (j := 1) (by decide) wfX1_104 dX1_tie_38 (v := tq 7 (mR M 4 i1 1)) rfl ?_
            replace h := bnd_some h
            obtain ⟨r29, er29, h⟩ := h
            refine tm_nmQ er29 ?_
            replace h := obind_some h
            obtain ⟨i30, ei30, h⟩ := h
            subst ei30
            refine tm_get kX7 rfl (j := 0) (by decide) wfX1_108 dX1_tie_41 (v := ti (mI M 7 i30 0)) rfl ?_
            replace h := bnd_some h
            obtain ⟨x31, ex31, h⟩ := h
            refine tm_nmI ex31 ?_
            refine tm_istore (lc' := [(4, ti x31), (3, ti x4), (2, ti x2), (0, tr 1 0), (1, tr 4 i1)]) dX1_tie_44 (by decide) rfl ?_
            refine tm_aload_n dX1_tie_46 rfl rfl ?_
            refine tm_get kX4 rfl (j := 2) (by decide) wfX1_111 dX1_tie_47 (v := tq 7 (mR M 4 i1 2)) rfl ?_
            replace h := bnd_some h
            obtain ⟨r32, er32, h⟩ := h
            refine tm_nmQ er32 ?_
            replace h := obind_some h
            obtain ⟨i33, ei33, h⟩ := h
            subst ei33
            refine tm_get kX7 rfl (j := 0) (by decide) wfX1_108 dX1_tie_50 (v := ti (mI M 7 i33 0)) rfl ?_
            replace h := bnd_some h
            obtain ⟨x34, ex34, h⟩ := h
            refine tm_nmI ex34 ?_
            refine tm_istore (lc' := [(5, ti x34), (4, ti x31), (3, ti x4), (2, ti x2), (0, tr 1 0), (1, tr 4 i1)]) dX1_tie_53 (by decide) rfl ?_
            refine tm_aload_n dX1_tie_55 rfl rfl ?_
            refine tm_get kX1 rfl (j := 8) (by decide) wfX1_27 dX1_tie_56 (v := tr 208 0) rfl ?_
            refine tm_iload dX1_tie_59 rfl ?_
            replace h := chk_some h
            obtain ⟨b35, h⟩ := h
            refine tm_iald rfl dX1_tie_61 (inb_vp b35) ?_
            refine tm_aload_n dX1_tie_62 rfl rfl ?_
            refine tm_get kX1 rfl (j := 8) (by decide) wfX1_27 dX1_tie_63 (v := tr 208 0) rfl ?_
            refine tm_iload dX1_tie_66 rfl ?_
            replace h := chk_some h
            obtain ⟨b36, h⟩ := h
            refine tm_iald rfl dX1_tie_68 (inb_vp b36) ?_
            refine tm_icmp_ne (tgt := 105) dX1_tie_69 (by decide) (fun c37 => ?_) (fun c37 => ?_)
            · rw [if_neg c37] at h
              refine tm_aload_n dX1_tie_105 rfl rfl ?_
              refine tm_iload dX1_tie_106 rfl ?_
              refine tm_iload dX1_tie_108 rfl ?_
              refine tm_iload_n dX1_tie_110 rfl rfl ?_
              refine tm_iload_n dX1_tie_111 rfl rfl ?_
              replace h := obind_some h
              obtain ⟨⟨x38, M40⟩, hc39, h⟩ := h
              dsimp only at h
              refine tm_callV kX1 rfl (avs := [ti x31, ti x34, ti x2, ti x4]) (st := []) (okX1_join hc39) wcX1_118.1 wcX1_118.2.1 wcX1_118.2.2.1 wcX1_118.2.2.2 ⟨rfl, rfl, Nat.le_of_ble_eq_true rfl, Nat.le_of_ble_eq_true rfl⟩ rfl (Nat.le_of_ble_eq_true rfl) ⟨Nat.zero_le _, Nat.zero_le _⟩ dX1_tie_112 ?_
              obtain ⟨rfl, rfl⟩ := pj2 h
              exact tm_iret rfl dX1_tie_115
            · rw [if_pos c37] at h
              refine tm_aload_n dX1_tie_72 rfl rfl ?_
              refine tm_iload dX1_tie_73 rfl ?_
              refine tm_iload dX1_tie_75 rfl ?_
              replace h := obind_some h
              obtain ⟨x41, hc42, h⟩ := h
              refine tm_callV kX1 rfl (avs := [ti x31, ti x34]) (st := []) (okX1_proportion hc42) wcX1_114.1 wcX1_114.2.1 wcX1_114.2.2.1 wcX1_114.2.2.2 ⟨rfl, rfl, Nat.le_of_ble_eq_true rfl, Nat.le_of_ble_eq_true rfl⟩ rfl (Nat.le_of_ble_eq_true rfl) ⟨Nat.zero_le _, Nat.zero_le _⟩ dX1_tie_77 ?_
              refine tm_iload_n dX1_tie_80 rfl rfl ?_
              refine tm_i2l dX1_tie_81 ?_
              refine tm_lmul dX1_tie_82 ?_
              refine tm_aload_n dX1_tie_83 rfl rfl ?_
              refine tm_iload dX1_tie_84 rfl ?_
              refine tm_iload dX1_tie_86 rfl ?_
              replace h := obind_some h
              obtain ⟨x43, hc44, h⟩ := h
              refine tm_callV kX1 rfl (avs := [ti x34, ti x31]) (st := [tl (x41 * (x2.toInt64))]) (okX1_proportion hc44) wcX1_114.1 wcX1_114.2.1 wcX1_114.2.2.1 wcX1_114.2.2.2 ⟨rfl, rfl, Nat.le_of_ble_eq_true rfl, Nat.le_of_ble_eq_true rfl⟩ rfl (Nat.le_of_ble_eq_true rfl) ⟨Nat.zero_le _, Nat.zero_le _⟩ dX1_tie_88 ?_
              refine tm_iload_n dX1_tie_91 rfl rfl ?_
              refine tm_i2l dX1_tie_92 ?_
              refine tm_lmul dX1_tie_93 ?_
              refine tm_lcmp dX1_tie_94 ?_
              refine tm_if_ne (tgt := 102) dX1_tie_95 (by decide) (fun c45 => ?_) (fun c45 => ?_)
              · rw [if_neg c45] at h
                refine tm_bipush (v := (-9)) dX1_tie_102 (by decide) ?_
                obtain ⟨rfl, rfl⟩ := pj2 h
                exact tm_iret rfl dX1_tie_104
              · rw [if_pos c45] at h
                refine tm_iconst (v := 0) dX1_tie_98 (by decide) ?_
                refine tm_goto (tgt := 104) dX1_tie_99 (by decide) ?_
                obtain ⟨rfl, rfl⟩ := pj2 h
                exact tm_iret rfl dX1_tie_104
          · rw [if_pos c28] at h
            refine tm_bipush (v := (-9)) dX1_tie_34 (by decide) ?_
            obtain ⟨rfl, rfl⟩ := pj2 h
            exact tm_iret rfl dX1_tie_36
      · rw [if_pos c26] at h
        refine tm_iconst (v := 0) dX1_tie_24 (by decide) ?_
        obtain ⟨rfl, rfl⟩ := pj2 h
        exact tm_iret rfl dX1_tie_25
  exact TMet.of (by decide) (Nat.le_of_ble_eq_true rfl) key
