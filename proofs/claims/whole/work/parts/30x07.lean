theorem wfX6_34 : Cond.fieldLink RX6 34 "EvenFlow$Once" "itemCount" "I" ∈ tgd := (tgd_t 243 (by decide +kernel) (by decide +kernel))
abbrev iX6_drop : tY := (RX6, cX6_drop, 1, none, "drop")
abbrev rmX6_drop : Room := { frames := 0, cells := 0, slots := 0, locals := 0 }
def fX6_drop  (M : tM) : Option (tM) :=
  bnd (sI M 6 0 7 0) fun M1 =>
  some M1
set_option maxHeartbeats 4000000 in
set_option maxRecDepth 100000 in
theorem okX6_drop {g : tG}  {M : tM} {Mz : tM} (h : fX6_drop  M = some Mz) : TMet g yX6_drop (Cond.code yX6_drop cX6_drop 1 (none) :: tgd) rmX6_drop [tr 6 0] M none Mz 0 0 := by
  have key : TW g iX6_drop rmX6_drop 0 0 none Mz 0 0 0 [(0, tr 6 0)] [] M := by
    rw [fX6_drop] at h
    refine tm_aload_n dX6_drop_0 rfl rfl ?_
    refine tm_iconst (v := 0) dX6_drop_1 (by decide) ?_
    replace h := bnd_some h
    obtain ⟨M1, eM1, h⟩ := h
    refine tm_put kX6 rfl (j := 7) (by decide) wfX6_34 rfl dX6_drop_2 (fun _ => ⟨rfl, rfl⟩) (tPut_I 0 rfl) ?_
    refine tm_nmM eM1 ?_
    obtain rfl := Option.some.inj h
    exact tm_vret rfl dX6_drop_5
  exact TMet.of (by decide) (Nat.le_of_ble_eq_true rfl) key
theorem wfX6_27 : Cond.fieldLink RX6 27 "EvenFlow$Once" "items" "[I" ∈ tgd := (tgd_t 242 (by decide +kernel) (by decide +kernel))
abbrev iX6_itemAt : tY := (RX6, cX6_itemAt, 2, some .int, "itemAt")
abbrev rmX6_itemAt : Room := { frames := 0, cells := 0, slots := 0, locals := 0 }
def fX6_itemAt (a1 : Int32) (M : tM) : Option (Int32) :=
  if a1 < 0 then (
  some (-9)
  ) else (
  if a1 < (mI M 6 0 7) then (
  chk (inb a1 (mN M 706 0)) <|
  some (mI M 706 0 (a1.toNatClampNeg))
  ) else (
  some (-9)
  )
  )
set_option maxHeartbeats 4000000 in
set_option maxRecDepth 100000 in
theorem okX6_itemAt {g : tG} {a1 : Int32} {M : tM} {v : Int32} (h : fX6_itemAt a1 M = some v) : TMet g yX6_itemAt (Cond.code yX6_itemAt cX6_itemAt 2 (some .int) :: tgd) rmX6_itemAt [tr 6 0, ti a1] M (some (ti v)) M 0 0 := by
  have key : TW g iX6_itemAt rmX6_itemAt 0 0 (some (ti v)) M 0 0 0 [(0, tr 6 0), (1, ti a1)] [] M := by
    rw [fX6_itemAt] at h
    refine tm_iload_n dX6_itemAt_0 rfl rfl ?_
    refine tm_if_lt (tgt := 12) dX6_itemAt_1 (by decide) (fun c1 => ?_) (fun c1 => ?_)
    · rw [if_pos c1] at h
      refine tm_bipush (v := (-9)) dX6_itemAt_12 (by decide) ?_
      refine tm_goto (tgt := 23) dX6_itemAt_14 (by decide) ?_
      obtain rfl := Option.some.inj h
      exact tm_iret rfl dX6_itemAt_23
    · rw [if_neg c1] at h
      refine tm_iload_n dX6_itemAt_4 rfl rfl ?_
      refine tm_aload_n dX6_itemAt_5 rfl rfl ?_
      refine tm_get kX6 rfl (j := 7) (by decide) wfX6_34 dX6_itemAt_6 (v := ti (mI M 6 0 7)) rfl ?_
      refine tm_icmp_lt (tgt := 17) dX6_itemAt_9 (by decide) (fun c2 => ?_) (fun c2 => ?_)
      · rw [if_pos c2] at h
        refine tm_aload_n dX6_itemAt_17 rfl rfl ?_
        refine tm_get kX6 rfl (j := 6) (by decide) wfX6_27 dX6_itemAt_18 (v := tr 706 0) rfl ?_
        refine tm_iload_n dX6_itemAt_21 rfl rfl ?_
        replace h := chk_some h
        obtain ⟨b3, h⟩ := h
        refine tm_iald rfl dX6_itemAt_22 (inb_vp b3) ?_
        obtain rfl := Option.some.inj h
        exact tm_iret rfl dX6_itemAt_23
      · rw [if_neg c2] at h
        refine tm_bipush (v := (-9)) dX6_itemAt_12 (by decide) ?_
        refine tm_goto (tgt := 23) dX6_itemAt_14 (by decide) ?_
        obtain rfl := Option.some.inj h
        exact tm_iret rfl dX6_itemAt_23
  exact TMet.of (by decide) (Nat.le_of_ble_eq_true rfl) key
theorem wfX6_15 : Cond.fieldLink RX6 15 "EvenFlow$Once" "placeOf" "[I" ∈ tgd := (tgd_t 238 (by decide +kernel) (by decide +kernel))
theorem wfX6_83 : Cond.fieldLink RX6 83 "EvenFlow$Part" "firstIn" "LEvenFlow$Line;" ∈ tgd := (tgd_t 444 (by decide +kernel) (by decide +kernel))
theorem wfX6_89 : Cond.fieldLink RX6 89 "EvenFlow$Line" "from" "LEvenFlow$Part;" ∈ tgd := (tgd_t 561 (by decide +kernel) (by decide +kernel))
theorem wfX6_95 : Cond.fieldLink RX6 95 "EvenFlow$Part" "number" "I" ∈ tgd := (tgd_t 407 (by decide +kernel) (by decide +kernel))
theorem wfX6_98 : Cond.fieldLink RX6 98 "EvenFlow$Line" "nextIn" "LEvenFlow$Line;" ∈ tgd := (tgd_t 599 (by decide +kernel) (by decide +kernel))
abbrev iX6_isFed : tY := (RX6, cX6_isFed, 3, some .boolean, "isFed")
abbrev rmX6_isFed : Room := { frames := 0, cells := 0, slots := 0, locals := 0 }
def fX6_isFed_l5  (M : tM) : Nat → (Option Nat) → Option ((Int32) ⊕ (Unit))
  | 0, _ => none
  | n + 1, y2 =>
    if y2 = none then (
    some (Sum.inr (()))
    ) else (
    Option.bind y2 fun i4 =>
    bnd (mR M 4 i4 1) fun r5 =>
    Option.bind r5 fun i6 =>
    chk (inb (mI M 7 i6 0) (mN M 702 0)) <|
    if (mI M 702 0 ((mI M 7 i6 0).toNatClampNeg)) = (-9) then (
    some (Sum.inl 1)
    ) else (
    bnd (mR M 4 i4 12) fun r9 =>
    fX6_isFed_l5 M n r9
    )
    )
def fX6_isFed (a1 : Option Nat) (M : tM) : Option (Int32) :=
  Option.bind a1 fun i1 =>
  bnd (mR M 7 i1 11) fun r2 =>
  Option.bind (fX6_isFed_l5 M FU r2) fun w10 => match w10 with
  | Sum.inl q13 => some q13
  | Sum.inr u12 =>
    some 0
set_option maxHeartbeats 4000000 in
set_option maxRecDepth 100000 in
theorem okX6_isFed_l5 {g : tG}  (M : tM) {r : Option tV} {Mz : tM} : ∀ (n : Nat) (y2 : Option Nat) (w : (Int32) ⊕ (Unit)), fX6_isFed_l5 M n y2 = some w → (∀ (uw : Unit), Sum.inr uw = w → TW g iX6_isFed rmX6_isFed 0 0 r Mz 0 0 36 [] [] M) → (∀ (v : Int32), Sum.inl v = w → r = (some (ti v)) ∧ Mz = M) → TW g iX6_isFed rmX6_isFed 0 0 r Mz 0 0 5 [(0, tr 6 0), (2, tq 4 y2)] [] M := by
  intro n
  induction n with
  | zero => intro y2 w h; cases h
  | succ n ih =>
    intro y2 w h J JR
    rw [fX6_isFed_l5] at h
    refine tm_aload_n dX6_isFed_5 rfl rfl ?_
    refine tm_ifnull (k2 := 4) (q := y2) (tgt := 36) dX6_isFed_6 (by decide) (fun c3 => ?_) (fun c3 => ?_)
    · rw [if_pos c3] at h
      obtain rfl := Option.some.inj h
      refine tm_lcp [] rfl ?_
      exact J _ rfl
    · rw [if_neg c3] at h
      refine tm_aload_n dX6_isFed_9 rfl rfl ?_
      refine tm_get kX6 rfl (j := 2) (by decide) wfX6_15 dX6_isFed_10 (v := tr 702 0) rfl ?_
      refine tm_aload_n dX6_isFed_13 rfl rfl ?_
      replace h := obind_some h
      obtain ⟨i4, ei4, h⟩ := h
      subst ei4
      refine tm_get kX4 rfl (j := 1) (by decide) wfX6_89 dX6_isFed_14 (v := tq 7 (mR M 4 i4 1)) rfl ?_
      replace h := bnd_some h
      obtain ⟨r5, er5, h⟩ := h
      refine tm_nmQ er5 ?_
      replace h := obind_some h
      obtain ⟨i6, ei6, h⟩ := h
      subst ei6
      refine tm_get kX7 rfl (j := 0) (by decide) wfX6_95 dX6_isFed_17 (v := ti (mI M 7 i6 0)) rfl ?_
      replace h := chk_some h
      obtain ⟨b7, h⟩ := h
      refine tm_iald rfl dX6_isFed_20 (inb_vp b7) ?_
      refine tm_bipush (v := (-9)) dX6_isFed_21 (by decide) ?_
      refine tm_icmp_ne (tgt := 28) dX6_isFed_23 (by decide) (fun c8 => ?_) (fun c8 => ?_)
      · rw [if_neg c8] at h
        refine tm_aload_n dX6_isFed_28 rfl rfl ?_
        refine tm_get kX4 rfl (j := 12) (by decide) wfX6_98 dX6_isFed_29 (v := tq 4 (mR M 4 i4 12)) rfl ?_
        replace h := bnd_some h
        obtain ⟨r9, er9, h⟩ := h
        refine tm_nmQ er9 ?_
        refine tm_astore_n (lc' := [(2, tq 4 r9), (0, tr 6 0)]) dX6_isFed_32 rfl (by decide) rfl ?_
        refine tm_goto (tgt := 5) dX6_isFed_33 (by decide) ?_
        refine tm_lcp [0, 2] rfl ?_
        exact ih r9 _ h J JR
      · rw [if_pos c8] at h
        refine tm_iconst (v := 1) dX6_isFed_26 (by decide) ?_
        obtain rfl := Option.some.inj h
        obtain ⟨rfl, rfl⟩ := JR _ rfl
        exact tm_zret (by decide) rfl dX6_isFed_27
set_option maxHeartbeats 4000000 in
set_option maxRecDepth 100000 in
theorem okX6_isFed {g : tG} {a1 : Option Nat} {M : tM} {v : Int32} (h : fX6_isFed a1 M = some v) : TMet g yX6_isFed (Cond.code yX6_isFed cX6_isFed 3 (some .boolean) :: tgd) rmX6_isFed [tr 6 0, tq 7 a1] M (some (ti v)) M 0 0 := by
  have key : TW g iX6_isFed rmX6_isFed 0 0 (some (ti v)) M 0 0 0 [(0, tr 6 0), (1, tq 7 a1)] [] M := by
    rw [fX6_isFed] at h
    refine tm_aload_n dX6_isFed_0 rfl rfl ?_
    replace h := obind_some h
    obtain ⟨i1, ei1, h⟩ := h
    subst ei1
    refine tm_get kX7 rfl (j := 11) (by decide) wfX6_83 dX6_isFed_1 (v := tq 4 (mR M 7 i1 11)) rfl ?_
    replace h := bnd_some h
    obtain ⟨r2, er2, h⟩ := h
    refine tm_nmQ er2 ?_
    refine tm_astore_n (lc' := [(2, tq 4 r2), (0, tr 6 0), (1, tr 7 i1)]) dX6_isFed_4 rfl (by decide) rfl ?_
    replace h := obind_some h
    obtain ⟨w10, hE11, h⟩ := h
    refine tm_lcp [0, 2] rfl ?_
    refine okX6_isFed_l5 M FU r2 _ hE11 (fun u12 e => ?_) (fun v14 e => ?_)
    · subst e
      dsimp only at h
      refine tm_iconst (v := 0) dX6_isFed_36 (by decide) ?_
      obtain rfl := Option.some.inj h
      exact tm_zret (by decide) rfl dX6_isFed_37
    · subst e
      obtain rfl := Option.some.inj h
      exact ⟨rfl, rfl⟩
  exact TMet.of (by decide) (Nat.le_of_ble_eq_true rfl) key
theorem wcX6_79 : tCB RX6 79 yX6_isFed cX6_isFed 3 (some .boolean) 1 ∧ Cond.methodLink RX6 79 yX6_isFed ∈ tgd ∧ Cond.instanceMethod yX6_isFed ∈ tgd ∧ Cond.selects RX6 yX6_isFed yX6_isFed ∈ tgd := ⟨⟨(tgd_t 922 (by decide +kernel) (by decide +kernel)), (tgd_t 7 (by decide +kernel) (by decide +kernel)), by decide, by decide +kernel⟩, (tgd_t 919 (by decide +kernel) (by decide +kernel)), (tgd_t 921 (by decide +kernel) (by decide +kernel)), (tgd_p 26 (by decide +kernel) (by decide +kernel))⟩
theorem wfX6_30 : Cond.fieldLink RX6 30 "EvenFlow$Once" "graph" "LEvenFlow$Graph;" ∈ tgd := (tgd_t 236 (by decide +kernel) (by decide +kernel))
theorem wfX6_42 : Cond.fieldLink RX6 42 "EvenFlow$Graph" "partCount" "I" ∈ tgd := (tgd_t 53 (by decide +kernel) (by decide +kernel))
theorem wfX6_75 : Cond.fieldLink RX6 75 "EvenFlow$Graph" "parts" "[LEvenFlow$Part;" ∈ tgd := (tgd_t 40 (by decide +kernel) (by decide +kernel))
abbrev iX6_leastFree : tY := (RX6, cX6_leastFree, 2, some .int, "leastFree")
abbrev rmX6_leastFree : Room := { frames := 1, cells := 0, slots := 0, locals := 22 }
def fX6_leastFree_l2  (M : tM) : Nat → Int32 → Option ((Int32) ⊕ (Unit))
  | 0, _ => none
  | n + 1, y1 =>
    if (mI M 1 0 2) ≤ y1 then (
    some (Sum.inr (()))
    ) else (
    chk (inb y1 (mN M 702 0)) <|
    if (mI M 702 0 (y1.toNatClampNeg)) = (-9) then (
    chk (inb y1 (mN M 200 0)) <|
    bnd (mR M 200 0 (y1.toNatClampNeg)) fun r6 =>
    (fX6_isFed r6 M).bind fun x7 =>
    if x7 = 0 then (
    some (Sum.inl y1)
    ) else (
    bnd (y1 + 1) fun x10 =>
    fX6_leastFree_l2 M n x10
    )
    ) else (
    bnd (y1 + 1) fun x4 =>
    fX6_leastFree_l2 M n x4
    )
    )
def fX6_leastFree  (M : tM) : Option (Int32) :=
  Option.bind (fX6_leastFree_l2 M FU 0) fun w11 => match w11 with
  | Sum.inl q14 => some q14
  | Sum.inr u13 =>
    some (-9)
set_option maxHeartbeats 4000000 in
set_option maxRecDepth 100000 in
theorem okX6_leastFree_l2 {g : tG}  (M : tM) {r : Option tV} {Mz : tM} : ∀ (n : Nat) (y1 : Int32) (w : (Int32) ⊕ (Unit)), fX6_leastFree_l2 M n y1 = some w → (∀ (uw : Unit), Sum.inr uw = w → TW g iX6_leastFree rmX6_leastFree 0 0 r Mz 0 0 48 [] [] M) → (∀ (v : Int32), Sum.inl v = w → r = (some (ti v)) ∧ Mz = M) → TW g iX6_leastFree rmX6_leastFree 0 0 r Mz 0 0 2 [(0, tr 6 0), (1, ti y1)] [] M := by
  intro n
  induction n with
  | zero => intro y1 w h; cases h
  | succ n ih =>
    intro y1 w h J JR
    rw [fX6_leastFree_l2] at h
    refine tm_iload_n dX6_leastFree_2 rfl rfl ?_
    refine tm_aload_n dX6_leastFree_3 rfl rfl ?_
    refine tm_get kX6 rfl (j := 0) (by decide) wfX6_30 dX6_leastFree_4 (v := tr 1 0) rfl ?_
    refine tm_get kX1 rfl (j := 2) (by decide) wfX6_42 dX6_leastFree_7 (v := ti (mI M 1 0 2)) rfl ?_
    refine tm_icmp_ge (tgt := 48) dX6_leastFree_10 (by decide) (fun c1 => ?_) (fun c1 => ?_)
    · rw [if_pos c1] at h
      obtain rfl := Option.some.inj h
      refine tm_lcp [] rfl ?_
      exact J _ rfl
    · rw [if_neg c1] at h
      refine tm_aload_n dX6_leastFree_13 rfl rfl ?_
      refine tm_get kX6 rfl (j := 2) (by decide) wfX6_15 dX6_leastFree_14 (v := tr 702 0) rfl ?_
      refine tm_iload_n dX6_leastFree_17 rfl rfl ?_
      replace h := chk_some h
      obtain ⟨b2, h⟩ := h
      refine tm_iald rfl dX6_leastFree_18 (inb_vp b2) ?_
      refine tm_bipush (v := (-9)) dX6_leastFree_19 (by decide) ?_
      refine tm_icmp_ne (tgt := 42) dX6_leastFree_21 (by decide) (fun c3 => ?_) (fun c3 => ?_)
      · rw [if_neg c3] at h
        replace h := bnd_some h
        obtain ⟨x4, ex4, h⟩ := h
        refine tm_iinc (v := x4) (lc' := [(1, ti x4), (0, tr 6 0)]) dX6_leastFree_42 rfl (by rw [ex4]; rfl) (by decide) rfl ?_
        refine tm_goto (tgt := 2) dX6_leastFree_45 (by decide) ?_
        refine tm_lcp [0, 1] rfl ?_
        exact ih x4 _ h J JR
      · rw [if_pos c3] at h
        refine tm_aload_n dX6_leastFree_24 rfl rfl ?_
        refine tm_aload_n dX6_leastFree_25 rfl rfl ?_
        refine tm_get kX6 rfl (j := 0) (by decide) wfX6_30 dX6_leastFree_26 (v := tr 1 0) rfl ?_
        refine tm_get kX1 rfl (j := 0) (by decide) wfX6_75 dX6_leastFree_29 (v := tr 200 0) rfl ?_
        refine tm_iload_n dX6_leastFree_32 rfl rfl ?_
        replace h := chk_some h
        obtain ⟨b5, h⟩ := h
        refine tm_aald (k2 := 7) ⟨rfl, rfl, rfl, fun _ => rfl⟩ dX6_leastFree_33 (inb_vp b5) ?_
        replace h := bnd_some h
        obtain ⟨r6, er6, h⟩ := h
        refine tm_nmQ er6 ?_
        replace h := obind_some h
        obtain ⟨x7, hc8, h⟩ := h
        refine tm_callV kX6 rfl (avs := [tq 7 r6]) (st := []) (okX6_isFed hc8) wcX6_79.1 wcX6_79.2.1 wcX6_79.2.2.1 wcX6_79.2.2.2 ⟨rfl, rfl, Nat.le_of_ble_eq_true rfl, Nat.le_of_ble_eq_true rfl⟩ rfl (Nat.le_of_ble_eq_true rfl) ⟨Nat.zero_le _, Nat.zero_le _⟩ dX6_leastFree_34 ?_
        refine tm_if_ne (tgt := 42) dX6_leastFree_37 (by decide) (fun c9 => ?_) (fun c9 => ?_)
        · rw [if_neg c9] at h
          replace h := bnd_some h
          obtain ⟨x10, ex10, h⟩ := h
          refine tm_iinc (v := x10) (lc' := [(1, ti x10), (0, tr 6 0)]) dX6_leastFree_42 rfl (by rw [ex10]; rfl) (by decide) rfl ?_
          refine tm_goto (tgt := 2) dX6_leastFree_45 (by decide) ?_
          refine tm_lcp [0, 1] rfl ?_
          exact ih x10 _ h J JR
        · rw [if_pos c9] at h
          refine tm_iload_n dX6_leastFree_40 rfl rfl ?_
          obtain rfl := Option.some.inj h
          obtain ⟨rfl, rfl⟩ := JR _ rfl
          exact tm_iret rfl dX6_leastFree_41
set_option maxHeartbeats 4000000 in
set_option maxRecDepth 100000 in
theorem okX6_leastFree {g : tG}  {M : tM} {v : Int32} (h : fX6_leastFree  M = some v) : TMet g yX6_leastFree (Cond.code yX6_leastFree cX6_leastFree 2 (some .int) :: tgd) rmX6_leastFree [tr 6 0] M (some (ti v)) M 0 0 := by
  have key : TW g iX6_leastFree rmX6_leastFree 0 0 (some (ti v)) M 0 0 0 [(0, tr 6 0)] [] M := by
    rw [fX6_leastFree] at h
    refine tm_iconst (v := 0) dX6_leastFree_0 (by decide) ?_
    refine tm_istore_n (lc' := [(1, ti 0), (0, tr 6 0)]) dX6_leastFree_1 rfl (by decide) rfl ?_
    replace h := obind_some h
    obtain ⟨w11, hE12, h⟩ := h
    refine tm_lcp [0, 1] rfl ?_
    refine okX6_leastFree_l2 M FU 0 _ hE12 (fun u13 e => ?_) (fun v15 e => ?_)
    · subst e
      dsimp only at h
      refine tm_bipush (v := (-9)) dX6_leastFree_48 (by decide) ?_
      obtain rfl := Option.some.inj h
      exact tm_iret rfl dX6_leastFree_50
    · subst e
      obtain rfl := Option.some.inj h
      exact ⟨rfl, rfl⟩
  exact TMet.of (by decide) (Nat.le_of_ble_eq_true rfl) key
theorem wcX6_65 : tCB RX6 65 yJ7_fill_53178 cJ7_fill_53178 4 (none) 2 ∧ Cond.methodLink RX6 65 yJ7_fill_53178 ∈ tgd ∧ Cond.static yJ7_fill_53178 ∈ tgd := ⟨⟨(tgd_t 535 (by decide +kernel) (by decide +kernel)), (tgd_t 14 (by decide +kernel) (by decide +kernel)), by decide, by decide +kernel⟩, (tgd_t 914 (by decide +kernel) (by decide +kernel)), (tgd_t 534 (by decide +kernel) (by decide +kernel))⟩
theorem wcX6_71 : tCB RX6 71 yX6_leastFree cX6_leastFree 2 (some .int) 0 ∧ Cond.methodLink RX6 71 yX6_leastFree ∈ tgd ∧ Cond.instanceMethod yX6_leastFree ∈ tgd ∧ Cond.selects RX6 yX6_leastFree yX6_leastFree ∈ tgd := ⟨⟨(tgd_t 918 (by decide +kernel) (by decide +kernel)), (tgd_t 7 (by decide +kernel) (by decide +kernel)), by decide, by decide +kernel⟩, (tgd_t 915 (by decide +kernel) (by decide +kernel)), (tgd_t 917 (by decide +kernel) (by decide +kernel)), (tgd_p 25 (by decide +kernel) (by decide +kernel))⟩
theorem wfX6_9 : Cond.fieldLink RX6 9 "EvenFlow$Once" "order" "[I" ∈ tgd := (tgd_t 237 (by decide +kernel) (by decide +kernel))
abbrev iX6_putInOrder : tY := (RX6, cX6_putInOrder, 3, some .boolean, "putInOrder")
abbrev rmX6_putInOrder : Room := { frames := 2, cells := 0, slots := 0, locals := 43 }
def fX6_putInOrder_l11  : Nat → Int32 → tM → Option ((Int32 × tM) ⊕ (tM))
  | 0, _, _ => none
  | n + 1, y1, M =>
    if (mI M 1 0 2) ≤ y1 then (
    some (Sum.inr M)
    ) else (
    (fX6_leastFree M).bind fun x4 =>
    if 0 ≤ x4 then (
    chk (inb y1 (mN M 701 0)) <|
    bnd (sI M 701 0 (y1.toNatClampNeg) x4) fun M8 =>
    chk (inb x4 (mN M8 702 0)) <|
    bnd (sI M8 702 0 (x4.toNatClampNeg) y1) fun M10 =>
    bnd (y1 + 1) fun x11 =>
    fX6_putInOrder_l11 n x11 M10
    ) else (
    some (Sum.inl ((0, M)))
    )
    )
def fX6_putInOrder  (M : tM) : Option (Int32 × tM) :=
  (fJ7_fill_53178 702 0 (-9) M).bind fun M2 =>
  Option.bind (fX6_putInOrder_l11 FU 0 M2) fun w12 => match w12 with
  | Sum.inl q15 => some q15
  | Sum.inr M14 =>
    some ((1, M14))
set_option maxHeartbeats 4000000 in
set_option maxRecDepth 100000 in
theorem okX6_putInOrder_l11 {g : tG}  {r : Option tV} {Mz : tM} : ∀ (n : Nat) (y1 : Int32) (M : tM) (w : (Int32 × tM) ⊕ (tM)), fX6_putInOrder_l11 n y1 M = some w → (∀ (Mw : tM), Sum.inr Mw = w → TW g iX6_putInOrder rmX6_putInOrder 0 0 r Mz 0 0 53 [] [] Mw) → (∀ (v : Int32) (Mv : tM), Sum.inl ((v, Mv)) = w → r = (some (ti v)) ∧ Mz = Mv) → TW g iX6_putInOrder rmX6_putInOrder 0 0 r Mz 0 0 11 [(0, tr 6 0), (1, ti y1)] [] M := by
  intro n
  induction n with
  | zero => intro y1 M w h; cases h
  | succ n ih =>
    intro y1 M w h J JR
    rw [fX6_putInOrder_l11] at h
    refine tm_iload_n dX6_putInOrder_11 rfl rfl ?_
    refine tm_aload_n dX6_putInOrder_12 rfl rfl ?_
    refine tm_get kX6 rfl (j := 0) (by decide) wfX6_30 dX6_putInOrder_13 (v := tr 1 0) rfl ?_
    refine tm_get kX1 rfl (j := 2) (by decide) wfX6_42 dX6_putInOrder_16 (v := ti (mI M 1 0 2)) rfl ?_
    refine tm_icmp_ge (tgt := 53) dX6_putInOrder_19 (by decide) (fun c3 => ?_) (fun c3 => ?_)
    · rw [if_pos c3] at h
      obtain rfl := Option.some.inj h
      refine tm_lcp [] rfl ?_
      exact J _ rfl
    · rw [if_neg c3] at h
      refine tm_aload_n dX6_putInOrder_22 rfl rfl ?_
      replace h := obind_some h
      obtain ⟨x4, hc5, h⟩ := h
      refine tm_callV kX6 rfl (avs := []) (st := []) (okX6_leastFree hc5) wcX6_71.1 wcX6_71.2.1 wcX6_71.2.2.1 wcX6_71.2.2.2 ⟨rfl, rfl, Nat.le_of_ble_eq_true rfl, Nat.le_of_ble_eq_true rfl⟩ rfl (Nat.le_of_ble_eq_true rfl) ⟨Nat.zero_le _, Nat.zero_le _⟩ dX6_putInOrder_23 ?_
      refine tm_istore_n (lc' := [(2, ti x4), (0, tr 6 0), (1, ti y1)]) dX6_putInOrder_26 rfl (by decide) rfl ?_
      refine tm_iload_n dX6_putInOrder_27 rfl rfl ?_
      refine tm_if_ge (tgt := 33) dX6_putInOrder_28 (by decide) (fun c6 => ?_) (fun c6 => ?_)
      · rw [if_pos c6] at h
        refine tm_aload_n dX6_putInOrder_33 rfl rfl ?_
        refine tm_get kX6 rfl (j := 1) (by decide) wfX6_9 dX6_putInOrder_34 (v := tr 701 0) rfl ?_
        refine tm_iload_n dX6_putInOrder_37 rfl rfl ?_
        refine tm_iload_n dX6_putInOrder_38 rfl rfl ?_
        replace h := chk_some h
        obtain ⟨b7, h⟩ := h
        replace h := bnd_some h
        obtain ⟨M8, eM8, h⟩ := h
        refine tm_iast rfl dX6_putInOrder_39 (inb_vp b7) ?_
        refine tm_nmM eM8 ?_
        refine tm_aload_n dX6_putInOrder_40 rfl rfl ?_
        refine tm_get kX6 rfl (j := 2) (by decide) wfX6_15 dX6_putInOrder_41 (v := tr 702 0) rfl ?_
        refine tm_iload_n dX6_putInOrder_44 rfl rfl ?_
        refine tm_iload_n dX6_putInOrder_45 rfl rfl ?_
        replace h := chk_some h
        obtain ⟨b9, h⟩ := h
        replace h := bnd_some h
        obtain ⟨M10, eM10, h⟩ := h
        refine tm_iast rfl dX6_putInOrder_46 (inb_vp b9) ?_
        refine tm_nmM eM10 ?_
        replace h := bnd_some h
        obtain ⟨x11, ex11, h⟩ := h
        refine tm_iinc (v := x11) (lc' := [(1, ti x11), (2, ti x4), (0, tr 6 0)]) dX6_putInOrder_47 rfl (by rw [ex11]; rfl) (by decide) rfl ?_
        refine tm_goto (tgt := 11) dX6_putInOrder_50 (by decide) ?_
        refine tm_lcp [0, 1] rfl ?_
        exact ih x11 M10 _ h J JR
      · rw [if_neg c6] at h
        refine tm_iconst (v := 0) dX6_putInOrder_31 (by decide) ?_
        obtain rfl := Option.some.inj h
        obtain ⟨rfl, rfl⟩ := JR _ _ rfl
        exact tm_zret (by decide) rfl dX6_putInOrder_32
set_option maxHeartbeats 4000000 in
set_option maxRecDepth 100000 in
theorem okX6_putInOrder {g : tG}  {M : tM} {v : Int32} {Mz : tM} (h : fX6_putInOrder  M = some ((v, Mz))) : TMet g yX6_putInOrder (Cond.code yX6_putInOrder cX6_putInOrder 3 (some .boolean) :: tgd) rmX6_putInOrder [tr 6 0] M (some (ti v)) Mz 0 0 := by
  have key : TW g iX6_putInOrder rmX6_putInOrder 0 0 (some (ti v)) Mz 0 0 0 [(0, tr 6 0)] [] M := by
    rw [fX6_putInOrder] at h
    refine tm_aload_n dX6_putInOrder_0 rfl rfl ?_
    refine tm_get kX6 rfl (j := 2) (by decide) wfX6_15 dX6_putInOrder_1 (v := tr 702 0) rfl ?_
    refine tm_bipush (v := (-9)) dX6_putInOrder_4 (by decide) ?_
    replace h := obind_some h
    obtain ⟨M2, hc1, h⟩ := h
    refine tm_callS (avs := [tr 702 0, ti (-9)]) (st := []) (okJ7_fill_53178 hc1) wcX6_65.1 wcX6_65.2.1 wcX6_65.2.2 ⟨rfl, rfl, Nat.le_of_ble_eq_true rfl, Nat.le_of_ble_eq_true rfl⟩ rfl (Nat.le_of_ble_eq_true rfl) ⟨Nat.zero_le _, Nat.zero_le _⟩ dX6_putInOrder_6 ?_
    refine tm_iconst (v := 0) dX6_putInOrder_9 (by decide) ?_
    refine tm_istore_n (lc' := [(1, ti 0), (0, tr 6 0)]) dX6_putInOrder_10 rfl (by decide) rfl ?_
    replace h := obind_some h
    obtain ⟨w12, hE13, h⟩ := h
    refine tm_lcp [0, 1] rfl ?_
    refine okX6_putInOrder_l11  FU 0 M2 _ hE13 (fun M14 e => ?_) (fun v16 Mv17 e => ?_)
    · subst e
      dsimp only at h
      refine tm_iconst (v := 1) dX6_putInOrder_53 (by decide) ?_
      obtain ⟨rfl, rfl⟩ := pj2 h
      exact tm_zret (by decide) rfl dX6_putInOrder_54
    · subst e
      obtain ⟨rfl, rfl⟩ := pj2 h
      exact ⟨rfl, rfl⟩
  exact TMet.of (by decide) (Nat.le_of_ble_eq_true rfl) key
theorem wcX6_104 : tCB RX6 104 yX10_commonDivisor cX10_commonDivisor 7 (some .long) 2 ∧ (RX6, 104, yX10_commonDivisor, "EvenFlow") ∈ tNest ∧ Cond.static yX10_commonDivisor ∈ tgd := ⟨⟨(tgd_t 731 (by decide +kernel) (by decide +kernel)), (tgd_t 1 (by decide +kernel) (by decide +kernel)), by decide, by decide +kernel⟩, (by decide +kernel), (tgd_t 730 (by decide +kernel) (by decide +kernel))⟩
theorem wfX6_18 : Cond.fieldLink RX6 18 "EvenFlow$Once" "divisor" "[I" ∈ tgd := (tgd_t 239 (by decide +kernel) (by decide +kernel))
theorem wfX6_21 : Cond.fieldLink RX6 21 "EvenFlow$Once" "leastSum" "[I" ∈ tgd := (tgd_t 240 (by decide +kernel) (by decide +kernel))
theorem wfX6_101 : Cond.fieldLink RX6 101 "EvenFlow$Part" "inRound" "I" ∈ tgd := (tgd_t 428 (by decide +kernel) (by decide +kernel))
abbrev iX6_findDivisors : tY := (RX6, cX6_findDivisors, 4, none, "findDivisors")
abbrev rmX6_findDivisors : Room := { frames := 1, cells := 0, slots := 0, locals := 26 }
def fX6_findDivisors_l33 (z1 : Int32) : Nat → Int32 → Int32 → tM → Option (tM)
  | 0, _, _, _ => none
  | n + 1, y2, y3, M =>
    if (mI M 1 0 2) ≤ y3 then (
    some M
    ) else (
    chk (inb y3 (mN M 701 0)) <|
    chk (inb (mI M 701 0 (y3.toNatClampNeg)) (mN M 200 0)) <|
    bnd (mR M 200 0 ((mI M 701 0 (y3.toNatClampNeg)).toNatClampNeg)) fun r10 =>
    Option.bind r10 fun i11 =>
    (fX10_commonDivisor (y2.toInt64) ((mI M 7 i11 6).toInt64) M).bind fun x12 =>
    bnd (x12.toInt32) fun x14 =>
    chk (inb ((z1 * 12) + y3) (mN M 703 0)) <|
    bnd (sI M 703 0 (((z1 * 12) + y3).toNatClampNeg) x14) fun M16 =>
    bnd (y3 + 1) fun x17 =>
    fX6_findDivisors_l33 z1 n x14 x17 M16
    )
def fX6_findDivisors_l2  : Nat → Int32 → tM → Option (tM)
  | 0, _, _ => none
  | n + 1, y1, M =>
    if (mI M 1 0 2) ≤ y1 then (
    some M
    ) else (
    chk (inb y1 (mN M 701 0)) <|
    chk (inb (mI M 701 0 (y1.toNatClampNeg)) (mN M 200 0)) <|
    bnd (mR M 200 0 ((mI M 701 0 (y1.toNatClampNeg)).toNatClampNeg)) fun r4 =>
    Option.bind r4 fun i5 =>
    bnd (mI M 7 i5 6) fun x6 =>
    Option.bind (fX6_findDivisors_l33 y1 FU x6 y1 M) fun M20 =>
    chk (inb ((y1 * 12) + y1) (mN M20 704 0)) <|
    bnd (sI M20 704 0 (((y1 * 12) + y1).toNatClampNeg) 0) fun M22 =>
    bnd (y1 + 1) fun x23 =>
    fX6_findDivisors_l2 n x23 M22
    )
def fX6_findDivisors  (M : tM) : Option (tM) :=
  Option.bind (fX6_findDivisors_l2 FU 0 M) fun M26 =>
  some M26
set_option maxHeartbeats 4000000 in
set_option maxRecDepth 100000 in
theorem okX6_findDivisors_l33 {g : tG} (z1 : Int32) {r : Option tV} {Mz : tM} : ∀ (n : Nat) (y2 : Int32) (y3 : Int32) (M : tM) (w : tM), fX6_findDivisors_l33 z1 n y2 y3 M = some w → (∀ (Mw : tM), Mw = w → TW g iX6_findDivisors rmX6_findDivisors 0 0 r Mz 0 0 87 [(0, tr 6 0), (1, ti z1)] [] Mw) → TW g iX6_findDivisors rmX6_findDivisors 0 0 r Mz 0 0 33 [(0, tr 6 0), (1, ti z1), (2, ti y2), (3, ti y3)] [] M := by
  intro n
  induction n with
  | zero => intro y2 y3 M w h; cases h
  | succ n ih =>
    intro y2 y3 M w h J
    rw [fX6_findDivisors_l33] at h
    refine tm_iload_n dX6_findDivisors_33 rfl rfl ?_
    refine tm_aload_n dX6_findDivisors_34 rfl rfl ?_
    refine tm_get kX6 rfl (j := 0) (by decide) wfX6_30 dX6_findDivisors_35 (v := tr 1 0) rfl ?_
    refine tm_get kX1 rfl (j := 2) (by decide) wfX6_42 dX6_findDivisors_38 (v := ti (mI M 1 0 2)) rfl ?_
    refine tm_icmp_ge (tgt := 87) dX6_findDivisors_41 (by decide) (fun c7 => ?_) (fun c7 => ?_)
    · rw [if_pos c7] at h
      obtain rfl := Option.some.inj h
      refine tm_lcp [0, 1] rfl ?_
      exact J _ rfl
    · rw [if_neg c7] at h
      refine tm_iload_n dX6_findDivisors_44 rfl rfl ?_
      refine tm_i2l dX6_findDivisors_45 ?_
      refine tm_aload_n dX6_findDivisors_46 rfl rfl ?_
      refine tm_get kX6 rfl (j := 0) (by decide) wfX6_30 dX6_findDivisors_47 (v := tr 1 0) rfl ?_
      refine tm_get kX1 rfl (j := 0) (by decide) wfX6_75 dX6_findDivisors_50 (v := tr 200 0) rfl ?_
      refine tm_aload_n dX6_findDivisors_53 rfl rfl ?_
      refine tm_get kX6 rfl (j := 1) (by decide) wfX6_9 dX6_findDivisors_54 (v := tr 701 0) rfl ?_
      refine tm_iload_n dX6_findDivisors_57 rfl rfl ?_
      replace h := chk_some h
      obtain ⟨b8, h⟩ := h
      refine tm_iald rfl dX6_findDivisors_58 (inb_vp b8) ?_
      replace h := chk_some h
      obtain ⟨b9, h⟩ := h
      refine tm_aald (k2 := 7) ⟨rfl, rfl, rfl, fun _ => rfl⟩ dX6_findDivisors_59 (inb_vp b9) ?_
      replace h := bnd_some h
      obtain ⟨r10, er10, h⟩ := h
      refine tm_nmQ er10 ?_
      replace h := obind_some h
      obtain ⟨i11, ei11, h⟩ := h
      subst ei11
      refine tm_get kX7 rfl (j := 6) (by decide) wfX6_101 dX6_findDivisors_60 (v := ti (mI M 7 i11 6)) rfl ?_
      refine tm_i2l dX6_findDivisors_63 ?_
      replace h := obind_some h
      obtain ⟨x12, hc13, h⟩ := h
      refine tm_callSN (avs := [tl (y2.toInt64), tl ((mI M 7 i11 6).toInt64)]) (st := []) (okX10_commonDivisor hc13) wcX6_104.1 wcX6_104.2.1 wcX6_104.2.2 ⟨rfl, rfl, Nat.le_of_ble_eq_true rfl, Nat.le_of_ble_eq_true rfl⟩ rfl (Nat.le_of_ble_eq_true rfl) ⟨Nat.zero_le _, Nat.zero_le _⟩ dX6_findDivisors_64 ?_
      refine tm_l2i dX6_findDivisors_67 ?_
      replace h := bnd_some h
      obtain ⟨x14, ex14, h⟩ := h
      refine tm_nmI ex14 ?_
      refine tm_istore_n (lc' := [(2, ti x14), (0, tr 6 0), (1, ti z1), (3, ti y3)]) dX6_findDivisors_68 rfl (by decide) rfl ?_
      refine tm_aload_n dX6_findDivisors_69 rfl rfl ?_
      refine tm_get kX6 rfl (j := 3) (by decide) wfX6_18 dX6_findDivisors_70 (v := tr 703 0) rfl ?_
      refine tm_iload_n dX6_findDivisors_73 rfl rfl ?_
      refine tm_bipush (v := 12) dX6_findDivisors_74 (by decide) ?_
      refine tm_imul dX6_findDivisors_76 ?_
      refine tm_iload_n dX6_findDivisors_77 rfl rfl ?_
      refine tm_iadd dX6_findDivisors_78 ?_
      refine tm_iload_n dX6_findDivisors_79 rfl rfl ?_
      replace h := chk_some h
      obtain ⟨b15, h⟩ := h
      replace h := bnd_some h
      obtain ⟨M16, eM16, h⟩ := h
      refine tm_iast rfl dX6_findDivisors_80 (inb_vp b15) ?_
      refine tm_nmM eM16 ?_
      replace h := bnd_some h
      obtain ⟨x17, ex17, h⟩ := h
      refine tm_iinc (v := x17) (lc' := [(3, ti x17), (2, ti x14), (0, tr 6 0), (1, ti z1)]) dX6_findDivisors_81 rfl (by rw [ex17]; rfl) (by decide) rfl ?_
      refine tm_goto (tgt := 33) dX6_findDivisors_84 (by decide) ?_
      refine tm_lcp [0, 1, 2, 3] rfl ?_
      exact ih x14 x17 M16 _ h J
set_option maxHeartbeats 4000000 in
set_option maxRecDepth 100000 in
theorem okX6_findDivisors_l2 {g : tG}  {r : Option tV} {Mz : tM} : ∀ (n : Nat) (y1 : Int32) (M : tM) (w : tM), fX6_findDivisors_l2 n y1 M = some w → (∀ (Mw : tM), Mw = w → TW g iX6_findDivisors rmX6_findDivisors 0 0 r Mz 0 0 105 [] [] Mw) → TW g iX6_findDivisors rmX6_findDivisors 0 0 r Mz 0 0 2 [(0, tr 6 0), (1, ti y1)] [] M := by
  intro n
  induction n with
  | zero => intro y1 M w h; cases h
  | succ n ih =>
    intro y1 M w h J
    rw [fX6_findDivisors_l2] at h
    refine tm_iload_n dX6_findDivisors_2 rfl rfl ?_
    refine tm_aload_n dX6_findDivisors_3 rfl rfl ?_
    refine tm_get kX6 rfl (j := 0) (by decide) wfX6_30 dX6_findDivisors_4 (v := tr 1 0) rfl ?_
    refine tm_get kX1 rfl (j := 2) (by decide) wfX6_42 dX6_findDivisors_7 (v := ti (mI M 1 0 2)) rfl ?_
    refine tm_icmp_ge (tgt := 105) dX6_findDivisors_10 (by decide) (fun c1 => ?_) (fun c1 => ?_)
    · rw [if_pos c1] at h
      obtain rfl := Option.some.inj h
      refine tm_lcp [] rfl ?_
      exact J _ rfl
    · rw [if_neg c1] at h
      refine tm_aload_n dX6_findDivisors_13 rfl rfl ?_
      refine tm_get kX6 rfl (j := 0) (by decide) wfX6_30 dX6_findDivisors_14 (v := tr 1 0) rfl ?_
      refine tm_get kX1 rfl (j := 0) (by decide) wfX6_75 dX6_findDivisors_17 (v := tr 200 0) rfl ?_
      refine tm_aload_n dX6_findDivisors_20 rfl rfl ?_
      refine tm_get kX6 rfl (j := 1) (by decide) wfX6_9 dX6_findDivisors_21 (v := tr 701 0) rfl ?_
      refine tm_iload_n dX6_findDivisors_24 rfl rfl ?_
      replace h := chk_some h
      obtain ⟨b2, h⟩ := h
      refine tm_iald rfl dX6_findDivisors_25 (inb_vp b2) ?_
      replace h := chk_some h
      obtain ⟨b3, h⟩ := h
      refine tm_aald (k2 := 7) ⟨rfl, rfl, rfl, fun _ => rfl⟩ dX6_findDivisors_26 (inb_vp b3) ?_
      replace h := bnd_some h
      obtain ⟨r4, er4, h⟩ := h
      refine tm_nmQ er4 ?_
      replace h := obind_some h
      obtain ⟨i5, ei5, h⟩ := h
      subst ei5
      refine tm_get kX7 rfl (j := 6) (by decide) wfX6_101 dX6_findDivisors_27 (v := ti (mI M 7 i5 6)) rfl ?_
      replace h := bnd_some h
      obtain ⟨x6, ex6, h⟩ := h
      refine tm_nmI ex6 ?_
      refine tm_istore_n (lc' := [(2, ti x6), (0, tr 6 0), (1, ti y1)]) dX6_findDivisors_30 rfl (by decide) rfl ?_
      refine tm_iload_n dX6_findDivisors_31 rfl rfl ?_
      refine tm_istore_n (lc' := [(3, ti y1), (2, ti x6), (0, tr 6 0), (1, ti y1)]) dX6_findDivisors_32 rfl (by decide) rfl ?_
      replace h := obind_some h
      obtain ⟨w18, hE19, h⟩ := h
      refine tm_lcp [0, 1, 2, 3] rfl ?_
      refine okX6_findDivisors_l33 y1 FU x6 y1 M _ hE19 (fun M20 e => ?_)
      subst e
      refine tm_aload_n dX6_findDivisors_87 rfl rfl ?_
      refine tm_get kX6 rfl (j := 4) (by decide) wfX6_21 dX6_findDivisors_88 (v := tr 704 0) rfl ?_
      refine tm_iload_n dX6_findDivisors_91 rfl rfl ?_
      refine tm_bipush (v := 12) dX6_findDivisors_92 (by decide) ?_
      refine tm_imul dX6_findDivisors_94 ?_
      refine tm_iload_n dX6_findDivisors_95 rfl rfl ?_
      refine tm_iadd dX6_findDivisors_96 ?_
      refine tm_iconst (v := 0) dX6_findDivisors_97 (by decide) ?_
      replace h := chk_some h
      obtain ⟨b21, h⟩ := h
      replace h := bnd_some h
      obtain ⟨M22, eM22, h⟩ := h
      refine tm_iast rfl dX6_findDivisors_98 (inb_vp b21) ?_
      refine tm_nmM eM22 ?_
      replace h := bnd_some h
      obtain ⟨x23, ex23, h⟩ := h
      refine tm_iinc (v := x23) (lc' := [(1, ti x23), (0, tr 6 0)]) dX6_findDivisors_99 rfl (by rw [ex23]; rfl) (by decide) rfl ?_
      refine tm_goto (tgt := 2) dX6_findDivisors_102 (by decide) ?_
      refine tm_lcp [0, 1] rfl ?_
      exact ih x23 M22 _ h J
set_option maxHeartbeats 4000000 in
set_option maxRecDepth 100000 in
theorem okX6_findDivisors {g : tG}  {M : tM} {Mz : tM} (h : fX6_findDivisors  M = some Mz) : TMet g yX6_findDivisors (Cond.code yX6_findDivisors cX6_findDivisors 4 (none) :: tgd) rmX6_findDivisors [tr 6 0] M none Mz 0 0 := by
  have key : TW g iX6_findDivisors rmX6_findDivisors 0 0 none Mz 0 0 0 [(0, tr 6 0)] [] M := by
    rw [fX6_findDivisors] at h
    refine tm_iconst (v := 0) dX6_findDivisors_0 (by decide) ?_
    refine tm_istore_n (lc' := [(1, ti 0), (0, tr 6 0)]) dX6_findDivisors_1 rfl (by decide) rfl ?_
    replace h := obind_some h
    obtain ⟨w24, hE25, h⟩ := h
    refine tm_lcp [0, 1] rfl ?_
    refine okX6_findDivisors_l2  FU 0 M _ hE25 (fun M26 e => ?_)
    subst e
    obtain rfl := Option.some.inj h
    exact tm_vret rfl dX6_findDivisors_105
  exact TMet.of (by decide) (Nat.le_of_ble_eq_true rfl) key
theorem wcX6_113 : tCB RX6 113 yJ9_max_7cf53 cJ9_max_7cf53 2 (some .int) 2 ∧ Cond.methodLink RX6 113 yJ9_max_7cf53 ∈ tgd ∧ Cond.static yJ9_max_7cf53 ∈ tgd := ⟨⟨(tgd_t 399 (by decide +kernel) (by decide +kernel)), (tgd_t 12 (by decide +kernel) (by decide +kernel)), by decide, by decide +kernel⟩, (tgd_t 937 (by decide +kernel) (by decide +kernel)), (tgd_t 398 (by decide +kernel) (by decide +kernel))⟩
theorem wcX6_129 : tCB RX6 129 yX4_givesIn cX4_givesIn 2 (some .int) 1 ∧ Cond.methodLink RX6 129 yX4_givesIn ∈ tgd ∧ Cond.instanceMethod yX4_givesIn ∈ tgd ∧ Cond.selects RX4 yX4_givesIn yX4_givesIn ∈ tgd := ⟨⟨(tgd_t 693 (by decide +kernel) (by decide +kernel)), (tgd_t 15 (by decide +kernel) (by decide +kernel)), by decide, by decide +kernel⟩, (tgd_t 938 (by decide +kernel) (by decide +kernel)), (tgd_t 691 (by decide +kernel) (by decide +kernel)), (tgd_t 692 (by decide +kernel) (by decide +kernel))⟩
theorem wfX6_119 : Cond.fieldLink RX6 119 "EvenFlow$Graph" "lineCount" "I" ∈ tgd := (tgd_t 62 (by decide +kernel) (by decide +kernel))
theorem wfX6_122 : Cond.fieldLink RX6 122 "EvenFlow$Graph" "lines" "[LEvenFlow$Line;" ∈ tgd := (tgd_t 46 (by decide +kernel) (by decide +kernel))
theorem wfX6_126 : Cond.fieldLink RX6 126 "EvenFlow$Line" "to" "LEvenFlow$Part;" ∈ tgd := (tgd_t 570 (by decide +kernel) (by decide +kernel))
theorem wfX6_133 : Cond.fieldLink RX6 133 "EvenFlow$Line" "firstCount" "I" ∈ tgd := (tgd_t 585 (by decide +kernel) (by decide +kernel))
abbrev iX6_storesAcross : tY := (RX6, cX6_storesAcross, 10, some .int, "storesAcross")
abbrev rmX6_storesAcross : Room := { frames := 1, cells := 0, slots := 0, locals := 21 }
def fX6_storesAcross_l23 (z1 : Int32) (z2 : Int32) (z3 : Int32) (z4 : Int32) (M : tM) : Nat → Int32 → Int32 → Option (Int32)
  | 0, _, _ => none
  | n + 1, y5, y6 =>
    if (mI M 1 0 3) ≤ y6 then (
    some y5
    ) else (
    chk (inb y6 (mN M 201 0)) <|
    bnd (mR M 201 0 (y6.toNatClampNeg)) fun r6 =>
    Option.bind r6 fun i7 =>
    bnd (mR M 4 i7 1) fun r8 =>
    Option.bind r8 fun i9 =>
    chk (inb (mI M 7 i9 0) (mN M 702 0)) <|
    bnd (mI M 702 0 ((mI M 7 i9 0).toNatClampNeg)) fun x11 =>
    bnd (mR M 4 i7 2) fun r12 =>
    Option.bind r12 fun i13 =>
    chk (inb (mI M 7 i13 0) (mN M 702 0)) <|
    bnd (mI M 702 0 ((mI M 7 i13 0).toNatClampNeg)) fun x15 =>
    Option.bind (α := Int32) (
    if x11 < z1 then (
    some y5
    ) else (
    if z2 < x11 then (
    some y5
    ) else (
    if x15 ≤ z2 then (
    some y5
    ) else (
    if z3 < x15 then (
    some y5
    ) else (
    bnd (mR M 4 i7 1) fun r20 =>
    Option.bind r20 fun i21 =>
    (fX4_givesIn i7 0 M).bind fun x22 =>
    chk (nz4 z4) <|
    bnd (y5 + ((((mI M 7 i21 6) * x22) / z4) + (mI M 4 i7 6))) fun x25 =>
    some x25
    )
    )
    )
    )
    ) fun x17 =>
    bnd (y6 + 1) fun x26 =>
    fX6_storesAcross_l23 z1 z2 z3 z4 M n x17 x26
    )
def fX6_storesAcross (a1 : Int32) (a2 : Int32) (a3 : Int32) (M : tM) : Option (Int32) :=
  chk (inb ((a1 * 12) + a3) (mN M 703 0)) <|
  (fJ9_max_7cf53 (mI M 703 0 (((a1 * 12) + a3).toNatClampNeg)) 1 M).bind fun x2 =>
  Option.bind (fX6_storesAcross_l23 a1 a2 a3 x2 M FU 0 0) fun x29 =>
  some x29
set_option maxHeartbeats 4000000 in
set_option maxRecDepth 100000 in
theorem okX6_storesAcross_l23 {g : tG} (z1 : Int32) (z2 : Int32) (z3 : Int32) (z4 : Int32) (M : tM) {r : Option tV} {Mz : tM} : ∀ (n : Nat) (y5 : Int32) (y6 : Int32) (w : Int32), fX6_storesAcross_l23 z1 z2 z3 z4 M n y5 y6 = some w → (∀ (w5 : Int32), w5 = w → TW g iX6_storesAcross rmX6_storesAcross 0 0 r Mz 0 0 136 [(5, ti w5)] [] M) → TW g iX6_storesAcross rmX6_storesAcross 0 0 r Mz 0 0 23 [(0, tr 6 0), (1, ti z1), (2, ti z2), (3, ti z3), (4, ti z4), (5, ti y5), (6, ti y6)] [] M := by
  intro n
  induction n with
  | zero => intro y5 y6 w h; cases h
  | succ n ih =>
    intro y5 y6 w h J
    rw [fX6_storesAcross_l23] at h
    refine tm_iload dX6_storesAcross_23 rfl ?_
    refine tm_aload_n dX6_storesAcross_25 rfl rfl ?_
    refine tm_get kX6 rfl (j := 0) (by decide) wfX6_30 dX6_storesAcross_26 (v := tr 1 0) rfl ?_
    refine tm_get kX1 rfl (j := 3) (by decide) wfX6_119 dX6_storesAcross_29 (v := ti (mI M 1 0 3)) rfl ?_
    refine tm_icmp_ge (tgt := 136) dX6_storesAcross_32 (by decide) (fun c4 => ?_) (fun c4 => ?_)
    · rw [if_pos c4] at h
      obtain rfl := Option.some.inj h
      refine tm_lcp [5] rfl ?_
      exact J _ rfl
    · rw [if_neg c4] at h
      refine tm_aload_n dX6_storesAcross_35 rfl rfl ?_
      refine tm_get kX6 rfl (j := 0) (by decide) wfX6_30 dX6_storesAcross_36 (v := tr 1 0) rfl ?_
      refine tm_get kX1 rfl (j := 1) (by decide) wfX6_122 dX6_storesAcross_39 (v := tr 201 0) rfl ?_
      refine tm_iload dX6_storesAcross_42 rfl ?_
      replace h := chk_some h
      obtain ⟨b5, h⟩ := h
      refine tm_aald (k2 := 4) ⟨rfl, rfl, rfl, fun _ => rfl⟩ dX6_storesAcross_44 (inb_vp b5) ?_
      replace h := bnd_some h
      obtain ⟨r6, er6, h⟩ := h
      refine tm_nmQ er6 ?_
      refine tm_astore (lc' := [(7, tq 4 r6), (0, tr 6 0), (1, ti z1), (2, ti z2), (3, ti z3), (4, ti z4), (5, ti y5), (6, ti y6)]) dX6_storesAcross_45 (by decide) rfl ?_
      refine tm_aload_n dX6_storesAcross_47 rfl rfl ?_
      refine tm_get kX6 rfl (j := 2) (by decide) wfX6_15 dX6_storesAcross_48 (v := tr 702 0) rfl ?_
      refine tm_aload dX6_storesAcross_51 rfl ?_
      replace h := obind_some h
      obtain ⟨i7, ei7, h⟩ := h
      subst ei7
      refine tm_get kX4 rfl (j := 1) (by decide) wfX6_89 dX6_storesAcross_53 (v := tq 7 (mR M 4 i7 1)) rfl ?_
      replace h := bnd_some h
      obtain ⟨r8, er8, h⟩ := h
      refine tm_nmQ er8 ?_
      replace h := obind_some h
      obtain ⟨i9, ei9, h⟩ := h
      subst ei9
      refine tm_get kX7 rfl (j := 0) (by decide) wfX6_95 dX6_storesAcross_56 (v := ti (mI M 7 i9 0)) rfl ?_
      replace h := chk_some h
      obtain ⟨b10, h⟩ := h
      refine tm_iald rfl dX6_storesAcross_59 (inb_vp b10) ?_
      replace h := bnd_some h
      obtain ⟨x11, ex11, h⟩ := h
      refine tm_nmI ex11 ?_
      refine tm_istore (lc' := [(8, ti x11), (7, tr 4 i7), (0, tr 6 0), (1, ti z1), (2, ti z2), (3, ti z3), (4, ti z4), (5, ti y5), (6, ti y6)]) dX6_storesAcross_60 (by decide) rfl ?_
      refine tm_aload_n dX6_storesAcross_62 rfl rfl ?_
      refine tm_get kX6 rfl (j := 2) (by decide) wfX6_15 dX6_storesAcross_63 (v := tr 702 0) rfl ?_
      refine tm_aload dX6_storesAcross_66 rfl ?_
      refine tm_get kX4 rfl (j := 2) (by decide) wfX6_126 dX6_storesAcross_68 (v := tq 7 (mR M 4 i7 2)) rfl ?_
      replace h := bnd_some h
      obtain ⟨r12, er12, h⟩ := h
      refine tm_nmQ er12 ?_
      replace h := obind_some h
      obtain ⟨i13, ei13, h⟩ := h
      subst ei13
      refine tm_get kX7 rfl (j := 0) (by decide) wfX6_95 dX6_storesAcross_71 (v := ti (mI M 7 i13 0)) rfl ?_
      replace h := chk_some h
      obtain ⟨b14, h⟩ := h
      refine tm_iald rfl dX6_storesAcross_74 (inb_vp b14) ?_
      replace h := bnd_some h
      obtain ⟨x15, ex15, h⟩ := h
      refine tm_nmI ex15 ?_
      refine tm_istore (lc' := [(9, ti x15), (8, ti x11), (7, tr 4 i7), (0, tr 6 0), (1, ti z1), (2, ti z2), (3, ti z3), (4, ti z4), (5, ti y5), (6, ti y6)]) dX6_storesAcross_75 (by decide) rfl ?_
      refine tm_iload dX6_storesAcross_77 rfl ?_
      refine tm_iload_n dX6_storesAcross_79 rfl rfl ?_
      replace h := obind_some h
      obtain ⟨x17, hE18, h⟩ := h
      have J19 : TW g iX6_storesAcross rmX6_storesAcross 0 0 r Mz 0 0 130 [(0, tr 6 0), (1, ti z1), (2, ti z2), (3, ti z3), (4, ti z4), (5, ti x17), (6, ti y6)] [] M := by
        replace h := bnd_some h
        obtain ⟨x26, ex26, h⟩ := h
        refine tm_iinc (v := x26) (lc' := [(6, ti x26), (0, tr 6 0), (1, ti z1), (2, ti z2), (3, ti z3), (4, ti z4), (5, ti x17)]) dX6_storesAcross_130 rfl (by rw [ex26]; rfl) (by decide) rfl ?_
        refine tm_goto (tgt := 23) dX6_storesAcross_133 (by decide) ?_
        refine tm_lcp [0, 1, 2, 3, 4, 5, 6] rfl ?_
        exact ih x17 x26 _ h J
      refine tm_icmp_lt (tgt := 130) dX6_storesAcross_80 (by decide) (fun c16 => ?_) (fun c16 => ?_)
      · rw [if_pos c16] at hE18
        obtain rfl := Option.some.inj hE18
        refine tm_lcp [0, 1, 2, 3, 4, 5, 6] rfl ?_
        exact J19
      · rw [if_neg c16] at hE18
        refine tm_iload dX6_storesAcross_83 rfl ?_
        refine tm_iload_n dX6_storesAcross_85 rfl rfl ?_
        refine tm_icmp_gt (tgt := 130) dX6_storesAcross_86 (by decide) (fun c17 => ?_) (fun c17 => ?_)
        · rw [if_pos c17] at hE18
          obtain rfl := Option.some.inj hE18
          refine tm_lcp [0, 1, 2, 3, 4, 5, 6] rfl ?_
          exact J19
        · rw [if_neg c17] at hE18
          refine tm_iload dX6_storesAcross_89 rfl ?_
          refine tm_iload_n dX6_storesAcross_91 rfl rfl ?_
          refine tm_icmp_le (tgt := 130) dX6_storesAcross_92 (by decide) (fun c18 => ?_) (fun c18 => ?_)
          · rw [if_pos c18] at hE18
            obtain rfl := Option.some.inj hE18
            refine tm_lcp [0, 1, 2, 3, 4, 5, 6] rfl ?_
            exact J19
          · rw [if_neg c18] at hE18
            refine tm_iload dX6_storesAcross_95 rfl ?_
            refine tm_iload_n dX6_storesAcross_97 rfl rfl ?_
            refine tm_icmp_gt (tgt := 130) dX6_storesAcross_98 (by decide) (fun c19 => ?_) (fun c19 => ?_)
            · rw [if_pos c19] at hE18
              obtain rfl := Option.some.inj hE18
              refine tm_lcp [0, 1, 2, 3, 4, 5, 6] rfl ?_
              exact J19
            · rw [if_neg c19] at hE18
              refine tm_iload dX6_storesAcross_101 rfl ?_
              refine tm_aload dX6_storesAcross_103 rfl ?_
              refine tm_get kX4 rfl (j := 1) (by decide) wfX6_89 dX6_storesAcross_105 (v := tq 7 (mR M 4 i7 1)) rfl ?_
              replace hE18 := bnd_some hE18
              obtain ⟨r20, er20, hE18⟩ := hE18
              refine tm_nmQ er20 ?_
              replace hE18 := obind_some hE18
              obtain ⟨i21, ei21, hE18⟩ := hE18
              subst ei21
              refine tm_get kX7 rfl (j := 6) (by decide) wfX6_101 dX6_storesAcross_108 (v := ti (mI M 7 i21 6)) rfl ?_
              refine tm_aload dX6_storesAcross_111 rfl ?_
              refine tm_iconst (v := 0) dX6_storesAcross_113 (by decide) ?_
              replace hE18 := obind_some hE18
              obtain ⟨x22, hc23, hE18⟩ := hE18
              refine tm_callV kX4 rfl (avs := [ti 0]) (st := [ti (mI M 7 i21 6), ti y5]) (okX4_givesIn hc23) wcX6_129.1 wcX6_129.2.1 wcX6_129.2.2.1 wcX6_129.2.2.2 ⟨rfl, rfl, Nat.le_of_ble_eq_true rfl, Nat.le_of_ble_eq_true rfl⟩ rfl (Nat.le_of_ble_eq_true rfl) ⟨Nat.zero_le _, Nat.zero_le _⟩ dX6_storesAcross_114 ?_
              refine tm_imul dX6_storesAcross_117 ?_
              refine tm_iload dX6_storesAcross_118 rfl ?_
              replace hE18 := chk_some hE18
              obtain ⟨b24, hE18⟩ := hE18
              refine tm_idiv dX6_storesAcross_120 (nz4_ne b24) ?_
              refine tm_aload dX6_storesAcross_121 rfl ?_
              refine tm_get kX4 rfl (j := 6) (by decide) wfX6_133 dX6_storesAcross_123 (v := ti (mI M 4 i7 6)) rfl ?_
              refine tm_iadd dX6_storesAcross_126 ?_
              refine tm_iadd dX6_storesAcross_127 ?_
              replace hE18 := bnd_some hE18
              obtain ⟨x25, ex25, hE18⟩ := hE18
              refine tm_nmI ex25 ?_
              refine tm_istore (lc' := [(5, ti x25), (9, ti x15), (8, ti x11), (7, tr 4 i7), (0, tr 6 0), (1, ti z1), (2, ti z2), (3, ti z3), (4, ti z4), (6, ti y6)]) dX6_storesAcross_128 (by decide) rfl ?_
              obtain rfl := Option.some.inj hE18
              refine tm_lcp [0, 1, 2, 3, 4, 5, 6] rfl ?_
              exact J19
set_option maxHeartbeats 4000000 in
set_option maxRecDepth 100000 in
theorem okX6_storesAcross {g : tG} {a1 : Int32} {a2 : Int32} {a3 : Int32} {M : tM} {v : Int32} (h : fX6_storesAcross a1 a2 a3 M = some v) : TMet g yX6_storesAcross (Cond.code yX6_storesAcross cX6_storesAcross 10 (some .int) :: tgd) rmX6_storesAcross [tr 6 0, ti a1, ti a2, ti a3] M (some (ti v)) M 0 0 := by
  have key : TW g iX6_storesAcross rmX6_storesAcross 0 0 (some (ti v)) M 0 0 0 [(0, tr 6 0), (1, ti a1), (2, ti a2), (3, ti a3)] [] M := by
    rw [fX6_storesAcross] at h
    refine tm_aload_n dX6_storesAcross_0 rfl rfl ?_
    refine tm_get kX6 rfl (j := 3) (by decide) wfX6_18 dX6_storesAcross_1 (v := tr 703 0) rfl ?_
    refine tm_iload_n dX6_storesAcross_4 rfl rfl ?_
    refine tm_bipush (v := 12) dX6_storesAcross_5 (by decide) ?_
    refine tm_imul dX6_storesAcross_7 ?_
    refine tm_iload_n dX6_storesAcross_8 rfl rfl ?_
    refine tm_iadd dX6_storesAcross_9 ?_
    replace h := chk_some h
    obtain ⟨b1, h⟩ := h
    refine tm_iald rfl dX6_storesAcross_10 (inb_vp b1) ?_
    refine tm_iconst (v := 1) dX6_storesAcross_11 (by decide) ?_
    replace h := obind_some h
    obtain ⟨x2, hc3, h⟩ := h
    refine tm_callS (avs := [ti (mI M 703 0 (((a1 * 12) + a3).toNatClampNeg)), ti 1]) (st := []) (okJ9_max_7cf53 hc3) wcX6_113.1 wcX6_113.2.1 wcX6_113.2.2 ⟨rfl, rfl, Nat.le_of_ble_eq_true rfl, Nat.le_of_ble_eq_true rfl⟩ rfl (Nat.le_of_ble_eq_true rfl) ⟨Nat.zero_le _, Nat.zero_le _⟩ dX6_storesAcross_12 ?_
    refine tm_istore (lc' := [(4, ti x2), (0, tr 6 0), (1, ti a1), (2, ti a2), (3, ti a3)]) dX6_storesAcross_15 (by decide) rfl ?_
    refine tm_iconst (v := 0) dX6_storesAcross_17 (by decide) ?_
    refine tm_istore (lc' := [(5, ti 0), (4, ti x2), (0, tr 6 0), (1, ti a1), (2, ti a2), (3, ti a3)]) dX6_storesAcross_18 (by decide) rfl ?_
    refine tm_iconst (v := 0) dX6_storesAcross_20 (by decide) ?_
    refine tm_istore (lc' := [(6, ti 0), (5, ti 0), (4, ti x2), (0, tr 6 0), (1, ti a1), (2, ti a2), (3, ti a3)]) dX6_storesAcross_21 (by decide) rfl ?_
    replace h := obind_some h
    obtain ⟨w27, hE28, h⟩ := h
    refine tm_lcp [0, 1, 2, 3, 4, 5, 6] rfl ?_
    refine okX6_storesAcross_l23 a1 a2 a3 x2 M FU 0 0 _ hE28 (fun x29 e => ?_)
    subst e
    refine tm_iload dX6_storesAcross_136 rfl ?_
    obtain rfl := Option.some.inj h
    exact tm_iret rfl dX6_storesAcross_138
  exact TMet.of (by decide) (Nat.le_of_ble_eq_true rfl) key
theorem wcX6_109 : tCB RX6 109 yX6_storesAcross cX6_storesAcross 10 (some .int) 3 ∧ Cond.methodLink RX6 109 yX6_storesAcross ∈ tgd ∧ Cond.instanceMethod yX6_storesAcross ∈ tgd ∧ Cond.selects RX6 yX6_storesAcross yX6_storesAcross ∈ tgd := ⟨⟨(tgd_t 936 (by decide +kernel) (by decide +kernel)), (tgd_t 7 (by decide +kernel) (by decide +kernel)), by decide, by decide +kernel⟩, (tgd_t 933 (by decide +kernel) (by decide +kernel)), (tgd_t 935 (by decide +kernel) (by decide +kernel)), (tgd_p 29 (by decide +kernel) (by decide +kernel))⟩
theorem wconstX6_108 : Cond.constant RX6 108 1000000000 ∈ tgd := (tgd_t 932 (by decide +kernel) (by decide +kernel))
theorem wfX6_24 : Cond.fieldLink RX6 24 "EvenFlow$Once" "firstHalfEnd" "[I" ∈ tgd := (tgd_t 241 (by decide +kernel) (by decide +kernel))
abbrev iX6_partInTwo : tY := (RX6, cX6_partInTwo, 6, none, "partInTwo")
abbrev rmX6_partInTwo : Room := { frames := 2, cells := 0, slots := 0, locals := 50 }
def fX6_partInTwo_l18 (z1 : Int32) (z2 : Int32) (z3 : Int32) : Nat → Int32 → tM → Option (tM)
  | 0, _, _ => none
  | n + 1, y4, M =>
    if z2 ≤ y4 then (
    some M
    ) else (
    chk (inb ((z1 * 12) + y4) (mN M 704 0)) <|
    chk (inb (((y4 + 1) * 12) + z2) (mN M 704 0)) <|
    (fX6_storesAcross z1 y4 z2 M).bind fun x7 =>
    bnd (((mI M 704 0 (((z1 * 12) + y4).toNatClampNeg)) + (mI M 704 0 ((((y4 + 1) * 12) + z2).toNatClampNeg))) + x7) fun x9 =>
    chk (inb z3 (mN M 704 0)) <|
    Option.bind (α := tM) (
    if (mI M 704 0 (z3.toNatClampNeg)) ≤ x9 then (
    some M
    ) else (
    chk (inb z3 (mN M 704 0)) <|
    bnd (sI M 704 0 (z3.toNatClampNeg) x9) fun M13 =>
    chk (inb z3 (mN M13 705 0)) <|
    bnd (sI M13 705 0 (z3.toNatClampNeg) y4) fun M15 =>
    some M15
    )
    ) fun M12 =>
    bnd (y4 + 1) fun x16 =>
    fX6_partInTwo_l18 z1 z2 z3 n x16 M12
    )
def fX6_partInTwo (a1 : Int32) (a2 : Int32) (M : tM) : Option (tM) :=
  bnd ((a1 * 12) + a2) fun x1 =>
  chk (inb x1 (mN M 704 0)) <|
  bnd (sI M 704 0 (x1.toNatClampNeg) 1000000000) fun M3 =>
  Option.bind (fX6_partInTwo_l18 a1 a2 x1 FU a1 M3) fun M19 =>
  some M19
set_option maxHeartbeats 4000000 in
set_option maxRecDepth 100000 in
theorem okX6_partInTwo_l18 {g : tG} (z1 : Int32) (z2 : Int32) (z3 : Int32) {r : Option tV} {Mz : tM} : ∀ (n : Nat) (y4 : Int32) (M : tM) (w : tM), fX6_partInTwo_l18 z1 z2 z3 n y4 M = some w → (∀ (Mw : tM), Mw = w → TW g iX6_partInTwo rmX6_partInTwo 0 0 r Mz 0 0 95 [] [] Mw) → TW g iX6_partInTwo rmX6_partInTwo 0 0 r Mz 0 0 18 [(0, tr 6 0), (1, ti z1), (2, ti z2), (3, ti z3), (4, ti y4)] [] M := by
  intro n
  induction n with
  | zero => intro y4 M w h; cases h
  | succ n ih =>
    intro y4 M w h J
    rw [fX6_partInTwo_l18] at h
    refine tm_iload dX6_partInTwo_18 rfl ?_
    refine tm_iload_n dX6_partInTwo_20 rfl rfl ?_
    refine tm_icmp_ge (tgt := 95) dX6_partInTwo_21 (by decide) (fun c4 => ?_) (fun c4 => ?_)
    · rw [if_pos c4] at h
      obtain rfl := Option.some.inj h
      refine tm_lcp [] rfl ?_
      exact J _ rfl
    · rw [if_neg c4] at h
      refine tm_aload_n dX6_partInTwo_24 rfl rfl ?_
      refine tm_get kX6 rfl (j := 4) (by decide) wfX6_21 dX6_partInTwo_25 (v := tr 704 0) rfl ?_
      refine tm_iload_n dX6_partInTwo_28 rfl rfl ?_
      refine tm_bipush (v := 12) dX6_partInTwo_29 (by decide) ?_
      refine tm_imul dX6_partInTwo_31 ?_
      refine tm_iload dX6_partInTwo_32 rfl ?_
      refine tm_iadd dX6_partInTwo_34 ?_
      replace h := chk_some h
      obtain ⟨b5, h⟩ := h
      refine tm_iald rfl dX6_partInTwo_35 (inb_vp b5) ?_
      refine tm_aload_n dX6_partInTwo_36 rfl rfl ?_
      refine tm_get kX6 rfl (j := 4) (by decide) wfX6_21 dX6_partInTwo_37 (v := tr 704 0) rfl ?_
      refine tm_iload dX6_partInTwo_40 rfl ?_
      refine tm_iconst (v := 1) dX6_partInTwo_42 (by decide) ?_
      refine tm_iadd dX6_partInTwo_43 ?_
      refine tm_bipush (v := 12) dX6_partInTwo_44 (by decide) ?_
      refine tm_imul dX6_partInTwo_46 ?_
      refine tm_iload_n dX6_partInTwo_47 rfl rfl ?_
      refine tm_iadd dX6_partInTwo_48 ?_
      replace h := chk_some h
      obtain ⟨b6, h⟩ := h
      refine tm_iald rfl dX6_partInTwo_49 (inb_vp b6) ?_
      refine tm_iadd dX6_partInTwo_50 ?_
      refine tm_aload_n dX6_partInTwo_51 rfl rfl ?_
      refine tm_iload_n dX6_partInTwo_52 rfl rfl ?_
      refine tm_iload dX6_partInTwo_53 rfl ?_
      refine tm_iload_n dX6_partInTwo_55 rfl rfl ?_
      replace h := obind_some h
      obtain ⟨x7, hc8, h⟩ := h
      refine tm_callV kX6 rfl (avs := [ti z1, ti y4, ti z2]) (st := [ti ((mI M 704 0 (((z1 * 12) + y4).toNatClampNeg)) + (mI M 704 0 ((((y4 + 1) * 12) + z2).toNatClampNeg)))]) (okX6_storesAcross hc8) wcX6_109.1 wcX6_109.2.1 wcX6_109.2.2.1 wcX6_109.2.2.2 ⟨rfl, rfl, Nat.le_of_ble_eq_true rfl, Nat.le_of_ble_eq_true rfl⟩ rfl (Nat.le_of_ble_eq_true rfl) ⟨Nat.zero_le _, Nat.zero_le _⟩ dX6_partInTwo_56 ?_
      refine tm_iadd dX6_partInTwo_59 ?_
      replace h := bnd_some h
      obtain ⟨x9, ex9, h⟩ := h
      refine tm_nmI ex9 ?_
      refine tm_istore (lc' := [(5, ti x9), (0, tr 6 0), (1, ti z1), (2, ti z2), (3, ti z3), (4, ti y4)]) dX6_partInTwo_60 (by decide) rfl ?_
      refine tm_iload dX6_partInTwo_62 rfl ?_
      refine tm_aload_n dX6_partInTwo_64 rfl rfl ?_
      refine tm_get kX6 rfl (j := 4) (by decide) wfX6_21 dX6_partInTwo_65 (v := tr 704 0) rfl ?_
      refine tm_iload_n dX6_partInTwo_68 rfl rfl ?_
      replace h := chk_some h
      obtain ⟨b10, h⟩ := h
      refine tm_iald rfl dX6_partInTwo_69 (inb_vp b10) ?_
      replace h := obind_some h
      obtain ⟨M12, hE13, h⟩ := h
      have J14 : TW g iX6_partInTwo rmX6_partInTwo 0 0 r Mz 0 0 89 [(0, tr 6 0), (1, ti z1), (2, ti z2), (3, ti z3), (4, ti y4)] [] M12 := by
        replace h := bnd_some h
        obtain ⟨x16, ex16, h⟩ := h
        refine tm_iinc (v := x16) (lc' := [(4, ti x16), (0, tr 6 0), (1, ti z1), (2, ti z2), (3, ti z3)]) dX6_partInTwo_89 rfl (by rw [ex16]; rfl) (by decide) rfl ?_
        refine tm_goto (tgt := 18) dX6_partInTwo_92 (by decide) ?_
        refine tm_lcp [0, 1, 2, 3, 4] rfl ?_
        exact ih x16 M12 _ h J
      refine tm_icmp_ge (tgt := 89) dX6_partInTwo_70 (by decide) (fun c11 => ?_) (fun c11 => ?_)
      · rw [if_pos c11] at hE13
        obtain rfl := Option.some.inj hE13
        refine tm_lcp [0, 1, 2, 3, 4] rfl ?_
        exact J14
      · rw [if_neg c11] at hE13
        refine tm_aload_n dX6_partInTwo_73 rfl rfl ?_
        refine tm_get kX6 rfl (j := 4) (by decide) wfX6_21 dX6_partInTwo_74 (v := tr 704 0) rfl ?_
        refine tm_iload_n dX6_partInTwo_77 rfl rfl ?_
        refine tm_iload dX6_partInTwo_78 rfl ?_
        replace hE13 := chk_some hE13
        obtain ⟨b12, hE13⟩ := hE13
        replace hE13 := bnd_some hE13
        obtain ⟨M13, eM13, hE13⟩ := hE13
        refine tm_iast rfl dX6_partInTwo_80 (inb_vp b12) ?_
        refine tm_nmM eM13 ?_
        refine tm_aload_n dX6_partInTwo_81 rfl rfl ?_
        refine tm_get kX6 rfl (j := 5) (by decide) wfX6_24 dX6_partInTwo_82 (v := tr 705 0) rfl ?_
        refine tm_iload_n dX6_partInTwo_85 rfl rfl ?_
        refine tm_iload dX6_partInTwo_86 rfl ?_
        replace hE13 := chk_some hE13
        obtain ⟨b14, hE13⟩ := hE13
        replace hE13 := bnd_some hE13
        obtain ⟨M15, eM15, hE13⟩ := hE13
        refine tm_iast rfl dX6_partInTwo_88 (inb_vp b14) ?_
        refine tm_nmM eM15 ?_
        obtain rfl := Option.some.inj hE13
        refine tm_lcp [0, 1, 2, 3, 4] rfl ?_
        exact J14
set_option maxHeartbeats 4000000 in
set_option maxRecDepth 100000 in
theorem okX6_partInTwo {g : tG} {a1 : Int32} {a2 : Int32} {M : tM} {Mz : tM} (h : fX6_partInTwo a1 a2 M = some Mz) : TMet g yX6_partInTwo (Cond.code yX6_partInTwo cX6_partInTwo 6 (none) :: tgd) rmX6_partInTwo [tr 6 0, ti a1, ti a2] M none Mz 0 0 := by
  have key : TW g iX6_partInTwo rmX6_partInTwo 0 0 none Mz 0 0 0 [(0, tr 6 0), (1, ti a1), (2, ti a2)] [] M := by
    rw [fX6_partInTwo] at h
    refine tm_iload_n dX6_partInTwo_0 rfl rfl ?_
    refine tm_bipush (v := 12) dX6_partInTwo_1 (by decide) ?_
    refine tm_imul dX6_partInTwo_3 ?_
    refine tm_iload_n dX6_partInTwo_4 rfl rfl ?_
    refine tm_iadd dX6_partInTwo_5 ?_
    replace h := bnd_some h
    obtain ⟨x1, ex1, h⟩ := h
    refine tm_nmI ex1 ?_
    refine tm_istore_n (lc' := [(3, ti x1), (0, tr 6 0), (1, ti a1), (2, ti a2)]) dX6_partInTwo_6 rfl (by decide) rfl ?_
    refine tm_aload_n dX6_partInTwo_7 rfl rfl ?_
    refine tm_get kX6 rfl (j := 4) (by decide) wfX6_21 dX6_partInTwo_8 (v := tr 704 0) rfl ?_
    refine tm_iload_n dX6_partInTwo_11 rfl rfl ?_
    refine tm_ldc (v := 1000000000) dX6_partInTwo_12 wconstX6_108 ?_
    replace h := chk_some h
    obtain ⟨b2, h⟩ := h
    replace h := bnd_some h
    obtain ⟨M3, eM3, h⟩ := h
    refine tm_iast rfl dX6_partInTwo_14 (inb_vp b2) ?_
    refine tm_nmM eM3 ?_
    refine tm_iload_n dX6_partInTwo_15 rfl rfl ?_
    refine tm_istore (lc' := [(4, ti a1), (3, ti x1), (0, tr 6 0), (1, ti a1), (2, ti a2)]) dX6_partInTwo_16 (by decide) rfl ?_
    replace h := obind_some h
    obtain ⟨w17, hE18, h⟩ := h
    refine tm_lcp [0, 1, 2, 3, 4] rfl ?_
    refine okX6_partInTwo_l18 a1 a2 x1 FU a1 M3 _ hE18 (fun M19 e => ?_)
    subst e
    obtain rfl := Option.some.inj h
    exact tm_vret rfl dX6_partInTwo_95
  exact TMet.of (by decide) (Nat.le_of_ble_eq_true rfl) key
