abbrev iJ9_floorDiv_7cf53 : tY := (RJ9, cJ9_floorDiv_7cf53, 3, some .int, "floorDiv")
abbrev rmJ9_floorDiv_7cf53 : Room := { frames := 0, cells := 0, slots := 0, locals := 0 }
def fJ9_floorDiv_7cf53 (a1 : Int32) (a2 : Int32) (M : tM) : Option (Int32) :=
  chk (nz4 a2) <|
  bnd (a1 / a2) fun x2 =>
  if 0 ≤ (a1 ^^^ a2) then (
  some x2
  ) else (
  if (x2 * a2) = a1 then (
  some x2
  ) else (
  some (x2 - 1)
  )
  )
set_option maxHeartbeats 4000000 in
set_option maxRecDepth 100000 in
theorem okJ9_floorDiv_7cf53 {g : tG} {a1 : Int32} {a2 : Int32} {M : tM} {v : Int32} (h : fJ9_floorDiv_7cf53 a1 a2 M = some v) : TMet g yJ9_floorDiv_7cf53 (Cond.code yJ9_floorDiv_7cf53 cJ9_floorDiv_7cf53 3 (some .int) :: tgd) rmJ9_floorDiv_7cf53 [ti a1, ti a2] M (some (ti v)) M 0 0 := by
  have key : TW g iJ9_floorDiv_7cf53 rmJ9_floorDiv_7cf53 0 0 (some (ti v)) M 0 0 0 [(0, ti a1), (1, ti a2)] [] M := by
    rw [fJ9_floorDiv_7cf53] at h
    refine tm_iload_n dJ9_floorDiv_7cf53_0 rfl rfl ?_
    refine tm_iload_n dJ9_floorDiv_7cf53_1 rfl rfl ?_
    obtain ⟨b1, h⟩ := chk_some h
    refine tm_idiv dJ9_floorDiv_7cf53_2 (nz4_ne b1) ?_
    obtain ⟨x2, ex2, h⟩ := bnd_some h
    refine tm_nmI ex2 ?_
    refine tm_istore_n (lc' := [(2, ti x2), (0, ti a1), (1, ti a2)]) dJ9_floorDiv_7cf53_3 rfl (by decide) rfl ?_
    refine tm_iload_n dJ9_floorDiv_7cf53_4 rfl rfl ?_
    refine tm_iload_n dJ9_floorDiv_7cf53_5 rfl rfl ?_
    refine tm_ixor dJ9_floorDiv_7cf53_6 ?_
    refine tm_if_ge (tgt := 21) dJ9_floorDiv_7cf53_7 (by decide) (fun c3 => ?_) (fun c3 => ?_)
    · rw [if_pos c3] at h
      refine tm_iload_n dJ9_floorDiv_7cf53_21 rfl rfl ?_
      obtain rfl := Option.some.inj h
      exact tm_iret rfl dJ9_floorDiv_7cf53_22
    · rw [if_neg c3] at h
      refine tm_iload_n dJ9_floorDiv_7cf53_10 rfl rfl ?_
      refine tm_iload_n dJ9_floorDiv_7cf53_11 rfl rfl ?_
      refine tm_imul dJ9_floorDiv_7cf53_12 ?_
      refine tm_iload_n dJ9_floorDiv_7cf53_13 rfl rfl ?_
      refine tm_icmp_eq (tgt := 21) dJ9_floorDiv_7cf53_14 (by decide) (fun c4 => ?_) (fun c4 => ?_)
      · rw [if_pos c4] at h
        refine tm_iload_n dJ9_floorDiv_7cf53_21 rfl rfl ?_
        obtain rfl := Option.some.inj h
        exact tm_iret rfl dJ9_floorDiv_7cf53_22
      · rw [if_neg c4] at h
        refine tm_iload_n dJ9_floorDiv_7cf53_17 rfl rfl ?_
        refine tm_iconst (v := 1) dJ9_floorDiv_7cf53_18 (by decide) ?_
        refine tm_isub dJ9_floorDiv_7cf53_19 ?_
        obtain rfl := Option.some.inj h
        exact tm_iret rfl dJ9_floorDiv_7cf53_20
  exact TMet.ofF (by decide +kernel) (Nat.le_of_ble_eq_true rfl) key
abbrev iJ9_floorMod_7cf53 : tY := (RJ9, cJ9_floorMod_7cf53, 3, some .int, "floorMod")
abbrev rmJ9_floorMod_7cf53 : Room := { frames := 0, cells := 0, slots := 0, locals := 0 }
def fJ9_floorMod_7cf53 (a1 : Int32) (a2 : Int32) (M : tM) : Option (Int32) :=
  chk (nz4 a2) <|
  bnd (a1 - a1 / a2 * a2) fun x2 =>
  if 0 ≤ (a1 ^^^ a2) then (
  some x2
  ) else (
  if x2 = 0 then (
  some x2
  ) else (
  some (x2 + a2)
  )
  )
set_option maxHeartbeats 4000000 in
set_option maxRecDepth 100000 in
theorem okJ9_floorMod_7cf53 {g : tG} {a1 : Int32} {a2 : Int32} {M : tM} {v : Int32} (h : fJ9_floorMod_7cf53 a1 a2 M = some v) : TMet g yJ9_floorMod_7cf53 (Cond.code yJ9_floorMod_7cf53 cJ9_floorMod_7cf53 3 (some .int) :: tgd) rmJ9_floorMod_7cf53 [ti a1, ti a2] M (some (ti v)) M 0 0 := by
  have key : TW g iJ9_floorMod_7cf53 rmJ9_floorMod_7cf53 0 0 (some (ti v)) M 0 0 0 [(0, ti a1), (1, ti a2)] [] M := by
    rw [fJ9_floorMod_7cf53] at h
    refine tm_iload_n dJ9_floorMod_7cf53_0 rfl rfl ?_
    refine tm_iload_n dJ9_floorMod_7cf53_1 rfl rfl ?_
    obtain ⟨b1, h⟩ := chk_some h
    refine tm_irem dJ9_floorMod_7cf53_2 (nz4_ne b1) ?_
    obtain ⟨x2, ex2, h⟩ := bnd_some h
    refine tm_nmI ex2 ?_
    refine tm_istore_n (lc' := [(2, ti x2), (0, ti a1), (1, ti a2)]) dJ9_floorMod_7cf53_3 rfl (by decide) rfl ?_
    refine tm_iload_n dJ9_floorMod_7cf53_4 rfl rfl ?_
    refine tm_iload_n dJ9_floorMod_7cf53_5 rfl rfl ?_
    refine tm_ixor dJ9_floorMod_7cf53_6 ?_
    refine tm_if_ge (tgt := 18) dJ9_floorMod_7cf53_7 (by decide) (fun c3 => ?_) (fun c3 => ?_)
    · rw [if_pos c3] at h
      refine tm_iload_n dJ9_floorMod_7cf53_18 rfl rfl ?_
      obtain rfl := Option.some.inj h
      exact tm_iret rfl dJ9_floorMod_7cf53_19
    · rw [if_neg c3] at h
      refine tm_iload_n dJ9_floorMod_7cf53_10 rfl rfl ?_
      refine tm_if_eq (tgt := 18) dJ9_floorMod_7cf53_11 (by decide) (fun c4 => ?_) (fun c4 => ?_)
      · rw [if_pos c4] at h
        refine tm_iload_n dJ9_floorMod_7cf53_18 rfl rfl ?_
        obtain rfl := Option.some.inj h
        exact tm_iret rfl dJ9_floorMod_7cf53_19
      · rw [if_neg c4] at h
        refine tm_iload_n dJ9_floorMod_7cf53_14 rfl rfl ?_
        refine tm_iload_n dJ9_floorMod_7cf53_15 rfl rfl ?_
        refine tm_iadd dJ9_floorMod_7cf53_16 ?_
        obtain rfl := Option.some.inj h
        exact tm_iret rfl dJ9_floorMod_7cf53_17
  exact TMet.ofF (by decide +kernel) (Nat.le_of_ble_eq_true rfl) key
abbrev iJ9_max_7cf53 : tY := (RJ9, cJ9_max_7cf53, 2, some .int, "max")
abbrev rmJ9_max_7cf53 : Room := { frames := 0, cells := 0, slots := 0, locals := 0 }
def fJ9_max_7cf53 (a1 : Int32) (a2 : Int32) (M : tM) : Option (Int32) :=
  if a1 < a2 then (
  some a2
  ) else (
  some a1
  )
set_option maxHeartbeats 4000000 in
set_option maxRecDepth 100000 in
theorem okJ9_max_7cf53 {g : tG} {a1 : Int32} {a2 : Int32} {M : tM} {v : Int32} (h : fJ9_max_7cf53 a1 a2 M = some v) : TMet g yJ9_max_7cf53 (Cond.code yJ9_max_7cf53 cJ9_max_7cf53 2 (some .int) :: tgd) rmJ9_max_7cf53 [ti a1, ti a2] M (some (ti v)) M 0 0 := by
  have key : TW g iJ9_max_7cf53 rmJ9_max_7cf53 0 0 (some (ti v)) M 0 0 0 [(0, ti a1), (1, ti a2)] [] M := by
    rw [fJ9_max_7cf53] at h
    refine tm_iload_n dJ9_max_7cf53_0 rfl rfl ?_
    refine tm_iload_n dJ9_max_7cf53_1 rfl rfl ?_
    refine tm_icmp_lt (tgt := 9) dJ9_max_7cf53_2 (by decide) (fun c1 => ?_) (fun c1 => ?_)
    · rw [if_pos c1] at h
      refine tm_iload_n dJ9_max_7cf53_9 rfl rfl ?_
      obtain rfl := Option.some.inj h
      exact tm_iret rfl dJ9_max_7cf53_10
    · rw [if_neg c1] at h
      refine tm_iload_n dJ9_max_7cf53_5 rfl rfl ?_
      refine tm_goto (tgt := 10) dJ9_max_7cf53_6 (by decide) ?_
      obtain rfl := Option.some.inj h
      exact tm_iret rfl dJ9_max_7cf53_10
  exact TMet.ofF (by decide +kernel) (Nat.le_of_ble_eq_true rfl) key
abbrev iJ9_max_f86c9 : tY := (RJ9, cJ9_max_f86c9, 4, some .long, "max")
abbrev rmJ9_max_f86c9 : Room := { frames := 0, cells := 0, slots := 0, locals := 0 }
def fJ9_max_f86c9 (a1 : Int64) (a2 : Int64) (M : tM) : Option (Int64) :=
  if (lg_cmp a1 a2) < 0 then (
  some a2
  ) else (
  some a1
  )
set_option maxHeartbeats 4000000 in
set_option maxRecDepth 100000 in
theorem okJ9_max_f86c9 {g : tG} {a1 : Int64} {a2 : Int64} {M : tM} {v : Int64} (h : fJ9_max_f86c9 a1 a2 M = some v) : TMet g yJ9_max_f86c9 (Cond.code yJ9_max_f86c9 cJ9_max_f86c9 4 (some .long) :: tgd) rmJ9_max_f86c9 [tl a1, tl a2] M (some (tl v)) M 0 0 := by
  have key : TW g iJ9_max_f86c9 rmJ9_max_f86c9 0 0 (some (tl v)) M 0 0 0 [(0, tl a1), (2, tl a2)] [] M := by
    rw [fJ9_max_f86c9] at h
    refine tm_lload_n dJ9_max_f86c9_0 rfl rfl ?_
    refine tm_lload_n dJ9_max_f86c9_1 rfl rfl ?_
    refine tm_lcmp dJ9_max_f86c9_2 ?_
    refine tm_if_lt (tgt := 10) dJ9_max_f86c9_3 (by decide) (fun c1 => ?_) (fun c1 => ?_)
    · rw [if_pos c1] at h
      refine tm_lload_n dJ9_max_f86c9_10 rfl rfl ?_
      obtain rfl := Option.some.inj h
      exact tm_lret rfl dJ9_max_f86c9_11
    · rw [if_neg c1] at h
      refine tm_lload_n dJ9_max_f86c9_6 rfl rfl ?_
      refine tm_goto (tgt := 11) dJ9_max_f86c9_7 (by decide) ?_
      obtain rfl := Option.some.inj h
      exact tm_lret rfl dJ9_max_f86c9_11
  exact TMet.ofF (by decide +kernel) (Nat.le_of_ble_eq_true rfl) key
abbrev iJ9_min_7cf53 : tY := (RJ9, cJ9_min_7cf53, 2, some .int, "min")
abbrev rmJ9_min_7cf53 : Room := { frames := 0, cells := 0, slots := 0, locals := 0 }
def fJ9_min_7cf53 (a1 : Int32) (a2 : Int32) (M : tM) : Option (Int32) :=
  if a2 < a1 then (
  some a2
  ) else (
  some a1
  )
set_option maxHeartbeats 4000000 in
set_option maxRecDepth 100000 in
theorem okJ9_min_7cf53 {g : tG} {a1 : Int32} {a2 : Int32} {M : tM} {v : Int32} (h : fJ9_min_7cf53 a1 a2 M = some v) : TMet g yJ9_min_7cf53 (Cond.code yJ9_min_7cf53 cJ9_min_7cf53 2 (some .int) :: tgd) rmJ9_min_7cf53 [ti a1, ti a2] M (some (ti v)) M 0 0 := by
  have key : TW g iJ9_min_7cf53 rmJ9_min_7cf53 0 0 (some (ti v)) M 0 0 0 [(0, ti a1), (1, ti a2)] [] M := by
    rw [fJ9_min_7cf53] at h
    refine tm_iload_n dJ9_min_7cf53_0 rfl rfl ?_
    refine tm_iload_n dJ9_min_7cf53_1 rfl rfl ?_
    refine tm_icmp_gt (tgt := 9) dJ9_min_7cf53_2 (by decide) (fun c1 => ?_) (fun c1 => ?_)
    · rw [if_pos c1] at h
      refine tm_iload_n dJ9_min_7cf53_9 rfl rfl ?_
      obtain rfl := Option.some.inj h
      exact tm_iret rfl dJ9_min_7cf53_10
    · rw [if_neg c1] at h
      refine tm_iload_n dJ9_min_7cf53_5 rfl rfl ?_
      refine tm_goto (tgt := 10) dJ9_min_7cf53_6 (by decide) ?_
      obtain rfl := Option.some.inj h
      exact tm_iret rfl dJ9_min_7cf53_10
  exact TMet.ofF (by decide +kernel) (Nat.le_of_ble_eq_true rfl) key
abbrev iJ7_fill_d0a16 : tY := (RJ7, cJ7_fill_d0a16, 5, none, "fill")
abbrev rmJ7_fill_d0a16 : Room := { frames := 0, cells := 0, slots := 0, locals := 0 }
def fJ7_fill_d0a16_l6 (kz0 : Nat) (z0 : Nat) (z1 : Int64) (z4 : Int32) : Nat → Int32 → tM → Option (tM)
  | 0, _, _ => none
  | n + 1, y3, M =>
    if z4 ≤ y3 then (
    some M
    ) else (
    chk (tIsL kz0) <|
    chk (inb y3 (mN M kz0 z0)) <|
    bnd (sL M kz0 z0 (y3.toNatClampNeg) z1) fun M7 =>
    bnd (y3 + 1) fun x8 =>
    fJ7_fill_d0a16_l6 kz0 z0 z1 z4 n x8 M7
    )
def fJ7_fill_d0a16 (k1 : Nat) (a1 : Nat) (a2 : Int64) (M : tM) : Option (tM) :=
  chk (decide (tO k1 = none)) <|
  chk (!tRO k1) <|
  bnd (nI (mN M k1 a1)) fun x3 =>
  Option.bind (fJ7_fill_d0a16_l6 k1 a1 a2 x3 FU 0 M) fun M11 =>
  some M11
set_option maxHeartbeats 4000000 in
set_option maxRecDepth 100000 in
theorem okJ7_fill_d0a16_l6 {g : tG} (kz0 : Nat) (z0 : Nat) (z1 : Int64) (z4 : Int32) {r : Option tV} {Mz : tM} : ∀ (n : Nat) (y3 : Int32) (M : tM) (w : tM), fJ7_fill_d0a16_l6 kz0 z0 z1 z4 n y3 M = some w → (∀ (Mw : tM), Mw = w → TW g iJ7_fill_d0a16 rmJ7_fill_d0a16 0 0 r Mz 0 0 22 [] [] Mw) → TW g iJ7_fill_d0a16 rmJ7_fill_d0a16 0 0 r Mz 0 0 6 [(0, tr kz0 z0), (1, tl z1), (3, ti y3), (4, ti z4)] [] M := by
  intro n
  induction n with
  | zero => intro y3 M w h; cases h
  | succ n ih =>
    intro y3 M w h J
    rw [fJ7_fill_d0a16_l6] at h
    refine tm_iload_n dJ7_fill_d0a16_6 rfl rfl ?_
    refine tm_iload dJ7_fill_d0a16_7 rfl ?_
    refine tm_icmp_ge (tgt := 22) dJ7_fill_d0a16_9 (by decide) (fun c4 => ?_) (fun c4 => ?_)
    · rw [if_pos c4] at h
      obtain rfl := Option.some.inj h
      refine tm_lcp [] rfl ?_
      exact J _ rfl
    · rw [if_neg c4] at h
      refine tm_aload_n dJ7_fill_d0a16_12 rfl rfl ?_
      refine tm_iload_n dJ7_fill_d0a16_13 rfl rfl ?_
      refine tm_lload_n dJ7_fill_d0a16_14 rfl rfl ?_
      obtain ⟨b5, h⟩ := chk_some h
      obtain ⟨b6, h⟩ := chk_some h
      obtain ⟨M7, eM7, h⟩ := bnd_some h
      refine tm_last b5 dJ7_fill_d0a16_15 (inb_vp b6) ?_
      refine tm_nmM eM7 ?_
      obtain ⟨x8, ex8, h⟩ := bnd_some h
      refine tm_iinc (v := x8) (lc' := [(3, ti x8), (0, tr kz0 z0), (1, tl z1), (4, ti z4)]) dJ7_fill_d0a16_16 rfl (by rw [ex8]; rfl) (by decide) rfl ?_
      refine tm_goto (tgt := 6) dJ7_fill_d0a16_19 (by decide) ?_
      refine tm_lcp [0, 1, 3, 4] rfl ?_
      exact ih x8 M7 _ h J
set_option maxHeartbeats 4000000 in
set_option maxRecDepth 100000 in
theorem okJ7_fill_d0a16 {g : tG} {k1 : Nat} {a1 : Nat} {a2 : Int64} {M : tM} {Mz : tM} (h : fJ7_fill_d0a16 k1 a1 a2 M = some Mz) : TMet g yJ7_fill_d0a16 (Cond.code yJ7_fill_d0a16 cJ7_fill_d0a16 5 (none) :: tgd) rmJ7_fill_d0a16 [tr k1 a1, tl a2] M none Mz 0 0 := by
  have key : TW g iJ7_fill_d0a16 rmJ7_fill_d0a16 0 0 none Mz 0 0 0 [(0, tr k1 a1), (1, tl a2)] [] M := by
    rw [fJ7_fill_d0a16] at h
    refine tm_iconst (v := 0) dJ7_fill_d0a16_0 (by decide) ?_
    refine tm_istore_n (lc' := [(3, ti 0), (0, tr k1 a1), (1, tl a2)]) dJ7_fill_d0a16_1 rfl (by decide) rfl ?_
    refine tm_aload_n dJ7_fill_d0a16_2 rfl rfl ?_
    obtain ⟨b1, h⟩ := chk_some h
    obtain ⟨b2, h⟩ := chk_some h
    refine tm_alen ⟨(of_decide_eq_true b1), (by simpa using b2)⟩ dJ7_fill_d0a16_3 ?_
    obtain ⟨x3, ex3, h⟩ := bnd_some h
    refine tm_nmI ex3 ?_
    refine tm_istore (lc' := [(4, ti x3), (3, ti 0), (0, tr k1 a1), (1, tl a2)]) dJ7_fill_d0a16_4 (by decide) rfl ?_
    obtain ⟨w9, hE10, h⟩ := obind_some h
    refine tm_lcp [0, 1, 3, 4] rfl ?_
    refine okJ7_fill_d0a16_l6 k1 a1 a2 x3 FU 0 M _ hE10 (fun M11 e => ?_)
    subst e
    obtain rfl := Option.some.inj h
    exact tm_vret rfl dJ7_fill_d0a16_22
  exact TMet.of (by decide) (Nat.le_of_ble_eq_true rfl) key
abbrev iJ7_fill_53178 : tY := (RJ7, cJ7_fill_53178, 4, none, "fill")
abbrev rmJ7_fill_53178 : Room := { frames := 0, cells := 0, slots := 0, locals := 0 }
def fJ7_fill_53178_l5 (kz0 : Nat) (z0 : Nat) (z1 : Int32) (z3 : Int32) : Nat → Int32 → tM → Option (tM)
  | 0, _, _ => none
  | n + 1, y2, M =>
    if z3 ≤ y2 then (
    some M
    ) else (
    chk (tIsI kz0) <|
    chk (inb y2 (mN M kz0 z0)) <|
    bnd (sI M kz0 z0 (y2.toNatClampNeg) z1) fun M7 =>
    bnd (y2 + 1) fun x8 =>
    fJ7_fill_53178_l5 kz0 z0 z1 z3 n x8 M7
    )
def fJ7_fill_53178 (k1 : Nat) (a1 : Nat) (a2 : Int32) (M : tM) : Option (tM) :=
  chk (decide (tO k1 = none)) <|
  chk (!tRO k1) <|
  bnd (nI (mN M k1 a1)) fun x3 =>
  Option.bind (fJ7_fill_53178_l5 k1 a1 a2 x3 FU 0 M) fun M11 =>
  some M11
set_option maxHeartbeats 4000000 in
set_option maxRecDepth 100000 in
theorem okJ7_fill_53178_l5 {g : tG} (kz0 : Nat) (z0 : Nat) (z1 : Int32) (z3 : Int32) {r : Option tV} {Mz : tM} : ∀ (n : Nat) (y2 : Int32) (M : tM) (w : tM), fJ7_fill_53178_l5 kz0 z0 z1 z3 n y2 M = some w → (∀ (Mw : tM), Mw = w → TW g iJ7_fill_53178 rmJ7_fill_53178 0 0 r Mz 0 0 20 [] [] Mw) → TW g iJ7_fill_53178 rmJ7_fill_53178 0 0 r Mz 0 0 5 [(0, tr kz0 z0), (1, ti z1), (2, ti y2), (3, ti z3)] [] M := by
  intro n
  induction n with
  | zero => intro y2 M w h; cases h
  | succ n ih =>
    intro y2 M w h J
    rw [fJ7_fill_53178_l5] at h
    refine tm_iload_n dJ7_fill_53178_5 rfl rfl ?_
    refine tm_iload_n dJ7_fill_53178_6 rfl rfl ?_
    refine tm_icmp_ge (tgt := 20) dJ7_fill_53178_7 (by decide) (fun c4 => ?_) (fun c4 => ?_)
    · rw [if_pos c4] at h
      obtain rfl := Option.some.inj h
      refine tm_lcp [] rfl ?_
      exact J _ rfl
    · rw [if_neg c4] at h
      refine tm_aload_n dJ7_fill_53178_10 rfl rfl ?_
      refine tm_iload_n dJ7_fill_53178_11 rfl rfl ?_
      refine tm_iload_n dJ7_fill_53178_12 rfl rfl ?_
      obtain ⟨b5, h⟩ := chk_some h
      obtain ⟨b6, h⟩ := chk_some h
      obtain ⟨M7, eM7, h⟩ := bnd_some h
      refine tm_iast b5 dJ7_fill_53178_13 (inb_vp b6) ?_
      refine tm_nmM eM7 ?_
      obtain ⟨x8, ex8, h⟩ := bnd_some h
      refine tm_iinc (v := x8) (lc' := [(2, ti x8), (0, tr kz0 z0), (1, ti z1), (3, ti z3)]) dJ7_fill_53178_14 rfl (by rw [ex8]; rfl) (by decide) rfl ?_
      refine tm_goto (tgt := 5) dJ7_fill_53178_17 (by decide) ?_
      refine tm_lcp [0, 1, 2, 3] rfl ?_
      exact ih x8 M7 _ h J
set_option maxHeartbeats 4000000 in
set_option maxRecDepth 100000 in
theorem okJ7_fill_53178 {g : tG} {k1 : Nat} {a1 : Nat} {a2 : Int32} {M : tM} {Mz : tM} (h : fJ7_fill_53178 k1 a1 a2 M = some Mz) : TMet g yJ7_fill_53178 (Cond.code yJ7_fill_53178 cJ7_fill_53178 4 (none) :: tgd) rmJ7_fill_53178 [tr k1 a1, ti a2] M none Mz 0 0 := by
  have key : TW g iJ7_fill_53178 rmJ7_fill_53178 0 0 none Mz 0 0 0 [(0, tr k1 a1), (1, ti a2)] [] M := by
    rw [fJ7_fill_53178] at h
    refine tm_iconst (v := 0) dJ7_fill_53178_0 (by decide) ?_
    refine tm_istore_n (lc' := [(2, ti 0), (0, tr k1 a1), (1, ti a2)]) dJ7_fill_53178_1 rfl (by decide) rfl ?_
    refine tm_aload_n dJ7_fill_53178_2 rfl rfl ?_
    obtain ⟨b1, h⟩ := chk_some h
    obtain ⟨b2, h⟩ := chk_some h
    refine tm_alen ⟨(of_decide_eq_true b1), (by simpa using b2)⟩ dJ7_fill_53178_3 ?_
    obtain ⟨x3, ex3, h⟩ := bnd_some h
    refine tm_nmI ex3 ?_
    refine tm_istore_n (lc' := [(3, ti x3), (2, ti 0), (0, tr k1 a1), (1, ti a2)]) dJ7_fill_53178_4 rfl (by decide) rfl ?_
    obtain ⟨w9, hE10, h⟩ := obind_some h
    refine tm_lcp [0, 1, 2, 3] rfl ?_
    refine okJ7_fill_53178_l5 k1 a1 a2 x3 FU 0 M _ hE10 (fun M11 e => ?_)
    subst e
    obtain rfl := Option.some.inj h
    exact tm_vret rfl dJ7_fill_53178_20
  exact TMet.of (by decide) (Nat.le_of_ble_eq_true rfl) key
abbrev iX11_in : tY := (RX11, cX11_in, 3, some .boolean, "in")
abbrev rmX11_in : Room := { frames := 0, cells := 0, slots := 0, locals := 0 }
def fX11_in (a1 : Int32) (a2 : Int32) (a3 : Int32) (M : tM) : Option (Int32) :=
  if a1 < a2 then (
  some 0
  ) else (
  if a3 < a1 then (
  some 0
  ) else (
  some 1
  )
  )
set_option maxHeartbeats 4000000 in
set_option maxRecDepth 100000 in
theorem okX11_in {g : tG} {a1 : Int32} {a2 : Int32} {a3 : Int32} {M : tM} {v : Int32} (h : fX11_in a1 a2 a3 M = some v) : TMet g yX11_in (Cond.code yX11_in cX11_in 3 (some .boolean) :: tgd) rmX11_in [ti a1, ti a2, ti a3] M (some (ti v)) M 0 0 := by
  have key : TW g iX11_in rmX11_in 0 0 (some (ti v)) M 0 0 0 [(0, ti a1), (1, ti a2), (2, ti a3)] [] M := by
    rw [fX11_in] at h
    refine tm_iload_n dX11_in_0 rfl rfl ?_
    refine tm_iload_n dX11_in_1 rfl rfl ?_
    refine tm_icmp_lt (tgt := 14) dX11_in_2 (by decide) (fun c1 => ?_) (fun c1 => ?_)
    · rw [if_pos c1] at h
      refine tm_iconst (v := 0) dX11_in_14 (by decide) ?_
      obtain rfl := Option.some.inj h
      exact tm_zret (by decide) rfl dX11_in_15
    · rw [if_neg c1] at h
      refine tm_iload_n dX11_in_5 rfl rfl ?_
      refine tm_iload_n dX11_in_6 rfl rfl ?_
      refine tm_icmp_gt (tgt := 14) dX11_in_7 (by decide) (fun c2 => ?_) (fun c2 => ?_)
      · rw [if_pos c2] at h
        refine tm_iconst (v := 0) dX11_in_14 (by decide) ?_
        obtain rfl := Option.some.inj h
        exact tm_zret (by decide) rfl dX11_in_15
      · rw [if_neg c2] at h
        refine tm_iconst (v := 1) dX11_in_10 (by decide) ?_
        refine tm_goto (tgt := 15) dX11_in_11 (by decide) ?_
        obtain rfl := Option.some.inj h
        exact tm_zret (by decide) rfl dX11_in_15
  exact TMet.of (by decide) (Nat.le_of_ble_eq_true rfl) key
theorem wfX11_7 : Cond.fieldLink RX11 7 "EvenFlowModel" "findings" "[I" ∈ tgd := (tgd_t 1226 (by decide +kernel) (by decide +kernel))
theorem wfX11_199 : Cond.fieldLink RX11 199 "EvenFlowModel" "finding" "I" ∈ tgd := (tgd_t 1225 (by decide +kernel) (by decide +kernel))
abbrev iX11_meets : tY := (RX11, cX11_meets, 2, some .int, "meets")
abbrev rmX11_meets : Room := { frames := 0, cells := 0, slots := 0, locals := 0 }
def fX11_meets (a1 : Int32) (M : tM) : Option (Int32 × tM) :=
  bnd (sI M 11 0 0 a1) fun M1 =>
  chk (inb a1 (mN M1 1201 0)) <|
  chk (inb a1 (mN M1 1201 0)) <|
  bnd (sI M1 1201 0 (a1.toNatClampNeg) ((mI M1 1201 0 (a1.toNatClampNeg)) + 1)) fun M4 =>
  some (((-3), M4))
set_option maxHeartbeats 4000000 in
set_option maxRecDepth 100000 in
theorem okX11_meets {g : tG} {a1 : Int32} {M : tM} {v : Int32} {Mz : tM} (h : fX11_meets a1 M = some ((v, Mz))) : TMet g yX11_meets (Cond.code yX11_meets cX11_meets 2 (some .int) :: tgd) rmX11_meets [tr 11 0, ti a1] M (some (ti v)) Mz 0 0 := by
  have key : TW g iX11_meets rmX11_meets 0 0 (some (ti v)) Mz 0 0 0 [(0, tr 11 0), (1, ti a1)] [] M := by
    rw [fX11_meets] at h
    refine tm_aload_n dX11_meets_0 rfl rfl ?_
    refine tm_iload_n dX11_meets_1 rfl rfl ?_
    obtain ⟨M1, eM1, h⟩ := bnd_some h
    refine tm_put kX11 rfl (j := 0) (by decide) wfX11_199 rfl dX11_meets_2 (fun _ => ⟨rfl, rfl⟩) (tPut_I a1 rfl) ?_
    refine tm_nmM eM1 ?_
    refine tm_aload_n dX11_meets_5 rfl rfl ?_
    refine tm_get kX11 rfl (j := 1) (by decide) wfX11_7 dX11_meets_6 (v := tr 1201 0) rfl ?_
    refine tm_iload_n dX11_meets_9 rfl rfl ?_
    refine tm_dup2 dX11_meets_10 rfl rfl ?_
    obtain ⟨b2, h⟩ := chk_some h
    refine tm_iald rfl dX11_meets_11 (inb_vp b2) ?_
    refine tm_iconst (v := 1) dX11_meets_12 (by decide) ?_
    refine tm_iadd dX11_meets_13 ?_
    obtain ⟨b3, h⟩ := chk_some h
    obtain ⟨M4, eM4, h⟩ := bnd_some h
    refine tm_iast rfl dX11_meets_14 (inb_vp b3) ?_
    refine tm_nmM eM4 ?_
    refine tm_bipush (v := (-3)) dX11_meets_15 (by decide) ?_
    obtain ⟨rfl, rfl⟩ := pj2 h
    exact tm_iret rfl dX11_meets_17
  exact TMet.of (by decide) (Nat.le_of_ble_eq_true rfl) key
theorem wcX11_205 : tCB RX11 205 yX11_in cX11_in 3 (some .boolean) 3 ∧ Cond.methodLink RX11 205 yX11_in ∈ tgd ∧ Cond.static yX11_in ∈ tgd := ⟨⟨(tgd_t 1464 (by decide +kernel) (by decide +kernel)), (tgd_t 10 (by decide +kernel) (by decide +kernel)), by decide, by decide +kernel⟩, (tgd_t 1462 (by decide +kernel) (by decide +kernel)), (tgd_t 1463 (by decide +kernel) (by decide +kernel))⟩
theorem wfX11_202 : Cond.fieldLink RX11 202 "EvenFlowModel" "parts" "I" ∈ tgd := (tgd_t 1227 (by decide +kernel) (by decide +kernel))
abbrev iX11_isPart : tY := (RX11, cX11_isPart, 2, some .boolean, "isPart")
abbrev rmX11_isPart : Room := { frames := 1, cells := 0, slots := 0, locals := 22 }
def fX11_isPart (a1 : Int32) (M : tM) : Option (Int32) :=
  (fX11_in a1 0 ((mI M 11 0 2) - 1) M).bind fun x1 =>
  chk (tb x1) <|
  some x1
set_option maxHeartbeats 4000000 in
set_option maxRecDepth 100000 in
theorem okX11_isPart {g : tG} {a1 : Int32} {M : tM} {v : Int32} (h : fX11_isPart a1 M = some v) : TMet g yX11_isPart (Cond.code yX11_isPart cX11_isPart 2 (some .boolean) :: tgd) rmX11_isPart [tr 11 0, ti a1] M (some (ti v)) M 0 0 := by
  have key : TW g iX11_isPart rmX11_isPart 0 0 (some (ti v)) M 0 0 0 [(0, tr 11 0), (1, ti a1)] [] M := by
    rw [fX11_isPart] at h
    refine tm_iload_n dX11_isPart_0 rfl rfl ?_
    refine tm_iconst (v := 0) dX11_isPart_1 (by decide) ?_
    refine tm_aload_n dX11_isPart_2 rfl rfl ?_
    refine tm_get kX11 rfl (j := 2) (by decide) wfX11_202 dX11_isPart_3 (v := ti (mI M 11 0 2)) rfl ?_
    refine tm_iconst (v := 1) dX11_isPart_6 (by decide) ?_
    refine tm_isub dX11_isPart_7 ?_
    obtain ⟨x1, hc2, h⟩ := obind_some h
    refine tm_callS (avs := [ti a1, ti 0, ti ((mI M 11 0 2) - 1)]) (st := []) (okX11_in hc2) wcX11_205.1 wcX11_205.2.1 wcX11_205.2.2 ⟨rfl, rfl, Nat.le_of_ble_eq_true rfl, Nat.le_of_ble_eq_true rfl⟩ rfl (Nat.le_of_ble_eq_true rfl) ⟨Nat.zero_le _, Nat.zero_le _⟩ dX11_isPart_8 ?_
    obtain ⟨b3, h⟩ := chk_some h
    obtain rfl := Option.some.inj h
    exact tm_zret (tb_n b3) rfl dX11_isPart_11
  exact TMet.of (by decide) (Nat.le_of_ble_eq_true rfl) key
theorem wfX11_209 : Cond.fieldLink RX11 209 "EvenFlowModel" "lines" "I" ∈ tgd := (tgd_t 1237 (by decide +kernel) (by decide +kernel))
abbrev iX11_isLine : tY := (RX11, cX11_isLine, 2, some .boolean, "isLine")
abbrev rmX11_isLine : Room := { frames := 1, cells := 0, slots := 0, locals := 22 }
def fX11_isLine (a1 : Int32) (M : tM) : Option (Int32) :=
  (fX11_in a1 0 ((mI M 11 0 12) - 1) M).bind fun x1 =>
  chk (tb x1) <|
  some x1
set_option maxHeartbeats 4000000 in
set_option maxRecDepth 100000 in
theorem okX11_isLine {g : tG} {a1 : Int32} {M : tM} {v : Int32} (h : fX11_isLine a1 M = some v) : TMet g yX11_isLine (Cond.code yX11_isLine cX11_isLine 2 (some .boolean) :: tgd) rmX11_isLine [tr 11 0, ti a1] M (some (ti v)) M 0 0 := by
  have key : TW g iX11_isLine rmX11_isLine 0 0 (some (ti v)) M 0 0 0 [(0, tr 11 0), (1, ti a1)] [] M := by
    rw [fX11_isLine] at h
    refine tm_iload_n dX11_isLine_0 rfl rfl ?_
    refine tm_iconst (v := 0) dX11_isLine_1 (by decide) ?_
    refine tm_aload_n dX11_isLine_2 rfl rfl ?_
    refine tm_get kX11 rfl (j := 12) (by decide) wfX11_209 dX11_isLine_3 (v := ti (mI M 11 0 12)) rfl ?_
    refine tm_iconst (v := 1) dX11_isLine_6 (by decide) ?_
    refine tm_isub dX11_isLine_7 ?_
    obtain ⟨x1, hc2, h⟩ := obind_some h
    refine tm_callS (avs := [ti a1, ti 0, ti ((mI M 11 0 12) - 1)]) (st := []) (okX11_in hc2) wcX11_205.1 wcX11_205.2.1 wcX11_205.2.2 ⟨rfl, rfl, Nat.le_of_ble_eq_true rfl, Nat.le_of_ble_eq_true rfl⟩ rfl (Nat.le_of_ble_eq_true rfl) ⟨Nat.zero_le _, Nat.zero_le _⟩ dX11_isLine_8 ?_
    obtain ⟨b3, h⟩ := chk_some h
    obtain rfl := Option.some.inj h
    exact tm_zret (tb_n b3) rfl dX11_isLine_11
  exact TMet.of (by decide) (Nat.le_of_ble_eq_true rfl) key
theorem wfX11_80 : Cond.fieldLink RX11 80 "EvenFlowModel" "threadAt" "[I" ∈ tgd := (tgd_t 1255 (by decide +kernel) (by decide +kernel))
abbrev iX11_threadsBegin : tY := (RX11, cX11_threadsBegin, 2, none, "threadsBegin")
abbrev rmX11_threadsBegin : Room := { frames := 0, cells := 0, slots := 0, locals := 0 }
def fX11_threadsBegin_l2  : Nat → Int32 → tM → Option (tM)
  | 0, _, _ => none
  | n + 1, y1, M =>
    if 4 ≤ y1 then (
    some M
    ) else (
    chk (inb y1 (mN M 1230 0)) <|
    bnd (sI M 1230 0 (y1.toNatClampNeg) 0) fun M3 =>
    bnd (y1 + 1) fun x4 =>
    fX11_threadsBegin_l2 n x4 M3
    )
def fX11_threadsBegin  (M : tM) : Option (tM) :=
  Option.bind (fX11_threadsBegin_l2 FU 0 M) fun M7 =>
  some M7
set_option maxHeartbeats 4000000 in
set_option maxRecDepth 100000 in
theorem okX11_threadsBegin_l2 {g : tG}  {r : Option tV} {Mz : tM} : ∀ (n : Nat) (y1 : Int32) (M : tM) (w : tM), fX11_threadsBegin_l2 n y1 M = some w → (∀ (Mw : tM), Mw = w → TW g iX11_threadsBegin rmX11_threadsBegin 0 0 r Mz 0 0 20 [] [] Mw) → TW g iX11_threadsBegin rmX11_threadsBegin 0 0 r Mz 0 0 2 [(0, tr 11 0), (1, ti y1)] [] M := by
  intro n
  induction n with
  | zero => intro y1 M w h; cases h
  | succ n ih =>
    intro y1 M w h J
    rw [fX11_threadsBegin_l2] at h
    refine tm_iload_n dX11_threadsBegin_2 rfl rfl ?_
    refine tm_iconst (v := 4) dX11_threadsBegin_3 (by decide) ?_
    refine tm_icmp_ge (tgt := 20) dX11_threadsBegin_4 (by decide) (fun c1 => ?_) (fun c1 => ?_)
    · rw [if_pos c1] at h
      obtain rfl := Option.some.inj h
      refine tm_lcp [] rfl ?_
      exact J _ rfl
    · rw [if_neg c1] at h
      refine tm_aload_n dX11_threadsBegin_7 rfl rfl ?_
      refine tm_get kX11 rfl (j := 30) (by decide) wfX11_80 dX11_threadsBegin_8 (v := tr 1230 0) rfl ?_
      refine tm_iload_n dX11_threadsBegin_11 rfl rfl ?_
      refine tm_iconst (v := 0) dX11_threadsBegin_12 (by decide) ?_
      obtain ⟨b2, h⟩ := chk_some h
      obtain ⟨M3, eM3, h⟩ := bnd_some h
      refine tm_iast rfl dX11_threadsBegin_13 (inb_vp b2) ?_
      refine tm_nmM eM3 ?_
      obtain ⟨x4, ex4, h⟩ := bnd_some h
      refine tm_iinc (v := x4) (lc' := [(1, ti x4), (0, tr 11 0)]) dX11_threadsBegin_14 rfl (by rw [ex4]; rfl) (by decide) rfl ?_
      refine tm_goto (tgt := 2) dX11_threadsBegin_17 (by decide) ?_
      refine tm_lcp [0, 1] rfl ?_
      exact ih x4 M3 _ h J
set_option maxHeartbeats 4000000 in
set_option maxRecDepth 100000 in
theorem okX11_threadsBegin {g : tG}  {M : tM} {Mz : tM} (h : fX11_threadsBegin  M = some Mz) : TMet g yX11_threadsBegin (Cond.code yX11_threadsBegin cX11_threadsBegin 2 (none) :: tgd) rmX11_threadsBegin [tr 11 0] M none Mz 0 0 := by
  have key : TW g iX11_threadsBegin rmX11_threadsBegin 0 0 none Mz 0 0 0 [(0, tr 11 0)] [] M := by
    rw [fX11_threadsBegin] at h
    refine tm_iconst (v := 0) dX11_threadsBegin_0 (by decide) ?_
    refine tm_istore_n (lc' := [(1, ti 0), (0, tr 11 0)]) dX11_threadsBegin_1 rfl (by decide) rfl ?_
    obtain ⟨w5, hE6, h⟩ := obind_some h
    refine tm_lcp [0, 1] rfl ?_
    refine okX11_threadsBegin_l2  FU 0 M _ hE6 (fun M7 e => ?_)
    subst e
    obtain rfl := Option.some.inj h
    exact tm_vret rfl dX11_threadsBegin_20
  exact TMet.of (by decide) (Nat.le_of_ble_eq_true rfl) key
theorem wcX11_215 : tCB RX11 215 yX11_threadsBegin cX11_threadsBegin 2 (none) 0 ∧ Cond.methodLink RX11 215 yX11_threadsBegin ∈ tgd ∧ Cond.instanceMethod yX11_threadsBegin ∈ tgd ∧ Cond.selects RX11 yX11_threadsBegin yX11_threadsBegin ∈ tgd := ⟨⟨(tgd_t 1480 (by decide +kernel) (by decide +kernel)), (tgd_t 10 (by decide +kernel) (by decide +kernel)), by decide, by decide +kernel⟩, (tgd_t 1477 (by decide +kernel) (by decide +kernel)), (tgd_t 1479 (by decide +kernel) (by decide +kernel)), (tgd_p 57 (by decide +kernel) (by decide +kernel))⟩
theorem wfX11_23 : Cond.fieldLink RX11 23 "EvenFlowModel" "rowTold" "[I" ∈ tgd := (tgd_t 1231 (by decide +kernel) (by decide +kernel))
theorem wfX11_26 : Cond.fieldLink RX11 26 "EvenFlowModel" "rowsTold" "[J" ∈ tgd := (tgd_t 1232 (by decide +kernel) (by decide +kernel))
theorem wfX11_29 : Cond.fieldLink RX11 29 "EvenFlowModel" "rowIs" "[I" ∈ tgd := (tgd_t 1233 (by decide +kernel) (by decide +kernel))
theorem wfX11_32 : Cond.fieldLink RX11 32 "EvenFlowModel" "rowsAre" "[J" ∈ tgd := (tgd_t 1234 (by decide +kernel) (by decide +kernel))
theorem wfX11_53 : Cond.fieldLink RX11 53 "EvenFlowModel" "firsts" "[I" ∈ tgd := (tgd_t 1242 (by decide +kernel) (by decide +kernel))
theorem wfX11_56 : Cond.fieldLink RX11 56 "EvenFlowModel" "firstThings" "[J" ∈ tgd := (tgd_t 1243 (by decide +kernel) (by decide +kernel))
theorem wfX11_59 : Cond.fieldLink RX11 59 "EvenFlowModel" "phase" "[I" ∈ tgd := (tgd_t 1244 (by decide +kernel) (by decide +kernel))
theorem wfX11_62 : Cond.fieldLink RX11 62 "EvenFlowModel" "kept" "[J" ∈ tgd := (tgd_t 1245 (by decide +kernel) (by decide +kernel))
theorem wfX11_65 : Cond.fieldLink RX11 65 "EvenFlowModel" "on" "[I" ∈ tgd := (tgd_t 1246 (by decide +kernel) (by decide +kernel))
theorem wfX11_68 : Cond.fieldLink RX11 68 "EvenFlowModel" "things" "[J" ∈ tgd := (tgd_t 1247 (by decide +kernel) (by decide +kernel))
theorem wfX11_71 : Cond.fieldLink RX11 71 "EvenFlowModel" "givenMany" "[I" ∈ tgd := (tgd_t 1248 (by decide +kernel) (by decide +kernel))
theorem wfX11_212 : Cond.fieldLink RX11 212 "EvenFlowModel" "fired" "I" ∈ tgd := (tgd_t 1250 (by decide +kernel) (by decide +kernel))
abbrev iX11_begins : tY := (RX11, cX11_begins, 3, none, "begins")
abbrev rmX11_begins : Room := { frames := 1, cells := 0, slots := 0, locals := 21 }
def fX11_begins_l38 (z1 : Int32) : Nat → Int32 → tM → Option (tM)
  | 0, _, _ => none
  | n + 1, y2, M =>
    if 12 ≤ y2 then (
    some M
    ) else (
    chk (inb ((12 * z1) + y2) (mN M 1207 0)) <|
    chk (inb ((12 * z1) + y2) (mN M 1209 0)) <|
    bnd (sL M 1209 0 (((12 * z1) + y2).toNatClampNeg) (mL M 1207 0 (((12 * z1) + y2).toNatClampNeg))) fun M12 =>
    bnd (y2 + 1) fun x13 =>
    fX11_begins_l38 z1 n x13 M12
    )
def fX11_begins_l2  : Nat → Int32 → tM → Option (tM)
  | 0, _, _ => none
  | n + 1, y1, M =>
    if (mI M 11 0 2) ≤ y1 then (
    some M
    ) else (
    chk (inb y1 (mN M 1219 0)) <|
    bnd (sI M 1219 0 (y1.toNatClampNeg) 0) fun M3 =>
    chk (inb y1 (mN M3 1220 0)) <|
    bnd (sL M3 1220 0 (y1.toNatClampNeg) 0) fun M5 =>
    chk (inb y1 (mN M5 1206 0)) <|
    chk (inb y1 (mN M5 1208 0)) <|
    bnd (sI M5 1208 0 (y1.toNatClampNeg) (mI M5 1206 0 (y1.toNatClampNeg))) fun M8 =>
    Option.bind (fX11_begins_l38 y1 FU 0 M8) fun M16 =>
    bnd (y1 + 1) fun x17 =>
    fX11_begins_l2 n x17 M16
    )
def fX11_begins_l109 (z1 : Int32) : Nat → Int32 → tM → Option (tM)
  | 0, _, _ => none
  | n + 1, y2, M =>
    chk (inb z1 (mN M 1217 0)) <|
    if (mI M 1217 0 (z1.toNatClampNeg)) ≤ y2 then (
    some M
    ) else (
    chk (inb ((60 * z1) + y2) (mN M 1218 0)) <|
    chk (inb ((450 * z1) + y2) (mN M 1222 0)) <|
    bnd (sL M 1222 0 (((450 * z1) + y2).toNatClampNeg) (mL M 1218 0 (((60 * z1) + y2).toNatClampNeg))) fun M31 =>
    bnd (y2 + 1) fun x32 =>
    fX11_begins_l109 z1 n x32 M31
    )
def fX11_begins_l80  : Nat → Int32 → tM → Option (tM)
  | 0, _, _ => none
  | n + 1, y1, M =>
    if (mI M 11 0 12) ≤ y1 then (
    some M
    ) else (
    chk (inb y1 (mN M 1217 0)) <|
    chk (inb y1 (mN M 1221 0)) <|
    bnd (sI M 1221 0 (y1.toNatClampNeg) (mI M 1217 0 (y1.toNatClampNeg))) fun M24 =>
    chk (inb y1 (mN M24 1223 0)) <|
    bnd (sI M24 1223 0 (y1.toNatClampNeg) 0) fun M26 =>
    Option.bind (fX11_begins_l109 y1 FU 0 M26) fun M35 =>
    bnd (y1 + 1) fun x36 =>
    fX11_begins_l80 n x36 M35
    )
def fX11_begins  (M : tM) : Option (tM) :=
  Option.bind (fX11_begins_l2 FU 0 M) fun M20 =>
  Option.bind (fX11_begins_l80 FU 0 M20) fun M39 =>
  bnd (sI M39 11 0 25 0) fun M40 =>
  (fX11_threadsBegin M40).bind fun M42 =>
  some M42
set_option maxHeartbeats 4000000 in
set_option maxRecDepth 100000 in
theorem okX11_begins_l38 {g : tG} (z1 : Int32) {r : Option tV} {Mz : tM} : ∀ (n : Nat) (y2 : Int32) (M : tM) (w : tM), fX11_begins_l38 z1 n y2 M = some w → (∀ (Mw : tM), Mw = w → TW g iX11_begins rmX11_begins 0 0 r Mz 0 0 72 [(0, tr 11 0), (1, ti z1)] [] Mw) → TW g iX11_begins rmX11_begins 0 0 r Mz 0 0 38 [(0, tr 11 0), (1, ti z1), (2, ti y2)] [] M := by
  intro n
  induction n with
  | zero => intro y2 M w h; cases h
  | succ n ih =>
    intro y2 M w h J
    rw [fX11_begins_l38] at h
    refine tm_iload_n dX11_begins_38 rfl rfl ?_
    refine tm_bipush (v := 12) dX11_begins_39 (by decide) ?_
    refine tm_icmp_ge (tgt := 72) dX11_begins_41 (by decide) (fun c9 => ?_) (fun c9 => ?_)
    · rw [if_pos c9] at h
      obtain rfl := Option.some.inj h
      refine tm_lcp [0, 1] rfl ?_
      exact J _ rfl
    · rw [if_neg c9] at h
      refine tm_aload_n dX11_begins_44 rfl rfl ?_
      refine tm_get kX11 rfl (j := 9) (by decide) wfX11_32 dX11_begins_45 (v := tr 1209 0) rfl ?_
      refine tm_bipush (v := 12) dX11_begins_48 (by decide) ?_
      refine tm_iload_n dX11_begins_50 rfl rfl ?_
      refine tm_imul dX11_begins_51 ?_
      refine tm_iload_n dX11_begins_52 rfl rfl ?_
      refine tm_iadd dX11_begins_53 ?_
      refine tm_aload_n dX11_begins_54 rfl rfl ?_
      refine tm_get kX11 rfl (j := 7) (by decide) wfX11_26 dX11_begins_55 (v := tr 1207 0) rfl ?_
      refine tm_bipush (v := 12) dX11_begins_58 (by decide) ?_
      refine tm_iload_n dX11_begins_60 rfl rfl ?_
      refine tm_imul dX11_begins_61 ?_
      refine tm_iload_n dX11_begins_62 rfl rfl ?_
      refine tm_iadd dX11_begins_63 ?_
      obtain ⟨b10, h⟩ := chk_some h
      refine tm_lald rfl dX11_begins_64 (inb_vp b10) ?_
      obtain ⟨b11, h⟩ := chk_some h
      obtain ⟨M12, eM12, h⟩ := bnd_some h
      refine tm_last rfl dX11_begins_65 (inb_vp b11) ?_
      refine tm_nmM eM12 ?_
      obtain ⟨x13, ex13, h⟩ := bnd_some h
      refine tm_iinc (v := x13) (lc' := [(2, ti x13), (0, tr 11 0), (1, ti z1)]) dX11_begins_66 rfl (by rw [ex13]; rfl) (by decide) rfl ?_
      refine tm_goto (tgt := 38) dX11_begins_69 (by decide) ?_
      refine tm_lcp [0, 1, 2] rfl ?_
      exact ih x13 M12 _ h J
set_option maxHeartbeats 4000000 in
set_option maxRecDepth 100000 in
theorem okX11_begins_l2 {g : tG}  {r : Option tV} {Mz : tM} : ∀ (n : Nat) (y1 : Int32) (M : tM) (w : tM), fX11_begins_l2 n y1 M = some w → (∀ (Mw : tM), Mw = w → TW g iX11_begins rmX11_begins 0 0 r Mz 0 0 78 [(0, tr 11 0)] [] Mw) → TW g iX11_begins rmX11_begins 0 0 r Mz 0 0 2 [(0, tr 11 0), (1, ti y1)] [] M := by
  intro n
  induction n with
  | zero => intro y1 M w h; cases h
  | succ n ih =>
    intro y1 M w h J
    rw [fX11_begins_l2] at h
    refine tm_iload_n dX11_begins_2 rfl rfl ?_
    refine tm_aload_n dX11_begins_3 rfl rfl ?_
    refine tm_get kX11 rfl (j := 2) (by decide) wfX11_202 dX11_begins_4 (v := ti (mI M 11 0 2)) rfl ?_
    refine tm_icmp_ge (tgt := 78) dX11_begins_7 (by decide) (fun c1 => ?_) (fun c1 => ?_)
    · rw [if_pos c1] at h
      obtain rfl := Option.some.inj h
      refine tm_lcp [0] rfl ?_
      exact J _ rfl
    · rw [if_neg c1] at h
      refine tm_aload_n dX11_begins_10 rfl rfl ?_
      refine tm_get kX11 rfl (j := 19) (by decide) wfX11_59 dX11_begins_11 (v := tr 1219 0) rfl ?_
      refine tm_iload_n dX11_begins_14 rfl rfl ?_
      refine tm_iconst (v := 0) dX11_begins_15 (by decide) ?_
      obtain ⟨b2, h⟩ := chk_some h
      obtain ⟨M3, eM3, h⟩ := bnd_some h
      refine tm_iast rfl dX11_begins_16 (inb_vp b2) ?_
      refine tm_nmM eM3 ?_
      refine tm_aload_n dX11_begins_17 rfl rfl ?_
      refine tm_get kX11 rfl (j := 20) (by decide) wfX11_62 dX11_begins_18 (v := tr 1220 0) rfl ?_
      refine tm_iload_n dX11_begins_21 rfl rfl ?_
      refine tm_lconst (v := 0) dX11_begins_22 (by decide) ?_
      obtain ⟨b4, h⟩ := chk_some h
      obtain ⟨M5, eM5, h⟩ := bnd_some h
      refine tm_last rfl dX11_begins_23 (inb_vp b4) ?_
      refine tm_nmM eM5 ?_
      refine tm_aload_n dX11_begins_24 rfl rfl ?_
      refine tm_get kX11 rfl (j := 8) (by decide) wfX11_29 dX11_begins_25 (v := tr 1208 0) rfl ?_
      refine tm_iload_n dX11_begins_28 rfl rfl ?_
      refine tm_aload_n dX11_begins_29 rfl rfl ?_
      refine tm_get kX11 rfl (j := 6) (by decide) wfX11_23 dX11_begins_30 (v := tr 1206 0) rfl ?_
      refine tm_iload_n dX11_begins_33 rfl rfl ?_
      obtain ⟨b6, h⟩ := chk_some h
      refine tm_iald rfl dX11_begins_34 (inb_vp b6) ?_
      obtain ⟨b7, h⟩ := chk_some h
      obtain ⟨M8, eM8, h⟩ := bnd_some h
      refine tm_iast rfl dX11_begins_35 (inb_vp b7) ?_
      refine tm_nmM eM8 ?_
      refine tm_iconst (v := 0) dX11_begins_36 (by decide) ?_
      refine tm_istore_n (lc' := [(2, ti 0), (0, tr 11 0), (1, ti y1)]) dX11_begins_37 rfl (by decide) rfl ?_
      obtain ⟨w14, hE15, h⟩ := obind_some h
      refine tm_lcp [0, 1, 2] rfl ?_
      refine okX11_begins_l38 y1 FU 0 M8 _ hE15 (fun M16 e => ?_)
      subst e
      obtain ⟨x17, ex17, h⟩ := bnd_some h
      refine tm_iinc (v := x17) (lc' := [(1, ti x17), (0, tr 11 0)]) dX11_begins_72 rfl (by rw [ex17]; rfl) (by decide) rfl ?_
      refine tm_goto (tgt := 2) dX11_begins_75 (by decide) ?_
      refine tm_lcp [0, 1] rfl ?_
      exact ih x17 M16 _ h J
set_option maxHeartbeats 4000000 in
set_option maxRecDepth 100000 in
theorem okX11_begins_l109 {g : tG} (z1 : Int32) {r : Option tV} {Mz : tM} : ∀ (n : Nat) (y2 : Int32) (M : tM) (w : tM), fX11_begins_l109 z1 n y2 M = some w → (∀ (Mw : tM), Mw = w → TW g iX11_begins rmX11_begins 0 0 r Mz 0 0 148 [(0, tr 11 0), (1, ti z1)] [] Mw) → TW g iX11_begins rmX11_begins 0 0 r Mz 0 0 109 [(0, tr 11 0), (1, ti z1), (2, ti y2)] [] M := by
  intro n
  induction n with
  | zero => intro y2 M w h; cases h
  | succ n ih =>
    intro y2 M w h J
    rw [fX11_begins_l109] at h
    refine tm_iload_n dX11_begins_109 rfl rfl ?_
    refine tm_aload_n dX11_begins_110 rfl rfl ?_
    refine tm_get kX11 rfl (j := 17) (by decide) wfX11_53 dX11_begins_111 (v := tr 1217 0) rfl ?_
    refine tm_iload_n dX11_begins_114 rfl rfl ?_
    obtain ⟨b27, h⟩ := chk_some h
    refine tm_iald rfl dX11_begins_115 (inb_vp b27) ?_
    refine tm_icmp_ge (tgt := 148) dX11_begins_116 (by decide) (fun c28 => ?_) (fun c28 => ?_)
    · rw [if_pos c28] at h
      obtain rfl := Option.some.inj h
      refine tm_lcp [0, 1] rfl ?_
      exact J _ rfl
    · rw [if_neg c28] at h
      refine tm_aload_n dX11_begins_119 rfl rfl ?_
      refine tm_get kX11 rfl (j := 22) (by decide) wfX11_68 dX11_begins_120 (v := tr 1222 0) rfl ?_
      refine tm_sipush (v := 450) dX11_begins_123 (by decide) ?_
      refine tm_iload_n dX11_begins_126 rfl rfl ?_
      refine tm_imul dX11_begins_127 ?_
      refine tm_iload_n dX11_begins_128 rfl rfl ?_
      refine tm_iadd dX11_begins_129 ?_
      refine tm_aload_n dX11_begins_130 rfl rfl ?_
      refine tm_get kX11 rfl (j := 18) (by decide) wfX11_56 dX11_begins_131 (v := tr 1218 0) rfl ?_
      refine tm_bipush (v := 60) dX11_begins_134 (by decide) ?_
      refine tm_iload_n dX11_begins_136 rfl rfl ?_
      refine tm_imul dX11_begins_137 ?_
      refine tm_iload_n dX11_begins_138 rfl rfl ?_
      refine tm_iadd dX11_begins_139 ?_
      obtain ⟨b29, h⟩ := chk_some h
      refine tm_lald rfl dX11_begins_140 (inb_vp b29) ?_
      obtain ⟨b30, h⟩ := chk_some h
      obtain ⟨M31, eM31, h⟩ := bnd_some h
      refine tm_last rfl dX11_begins_141 (inb_vp b30) ?_
      refine tm_nmM eM31 ?_
      obtain ⟨x32, ex32, h⟩ := bnd_some h
      refine tm_iinc (v := x32) (lc' := [(2, ti x32), (0, tr 11 0), (1, ti z1)]) dX11_begins_142 rfl (by rw [ex32]; rfl) (by decide) rfl ?_
      refine tm_goto (tgt := 109) dX11_begins_145 (by decide) ?_
      refine tm_lcp [0, 1, 2] rfl ?_
      exact ih x32 M31 _ h J
set_option maxHeartbeats 4000000 in
set_option maxRecDepth 100000 in
theorem okX11_begins_l80 {g : tG}  {r : Option tV} {Mz : tM} : ∀ (n : Nat) (y1 : Int32) (M : tM) (w : tM), fX11_begins_l80 n y1 M = some w → (∀ (Mw : tM), Mw = w → TW g iX11_begins rmX11_begins 0 0 r Mz 0 0 154 [(0, tr 11 0)] [] Mw) → TW g iX11_begins rmX11_begins 0 0 r Mz 0 0 80 [(0, tr 11 0), (1, ti y1)] [] M := by
  intro n
  induction n with
  | zero => intro y1 M w h; cases h
  | succ n ih =>
    intro y1 M w h J
    rw [fX11_begins_l80] at h
    refine tm_iload_n dX11_begins_80 rfl rfl ?_
    refine tm_aload_n dX11_begins_81 rfl rfl ?_
    refine tm_get kX11 rfl (j := 12) (by decide) wfX11_209 dX11_begins_82 (v := ti (mI M 11 0 12)) rfl ?_
    refine tm_icmp_ge (tgt := 154) dX11_begins_85 (by decide) (fun c21 => ?_) (fun c21 => ?_)
    · rw [if_pos c21] at h
      obtain rfl := Option.some.inj h
      refine tm_lcp [0] rfl ?_
      exact J _ rfl
    · rw [if_neg c21] at h
      refine tm_aload_n dX11_begins_88 rfl rfl ?_
      refine tm_get kX11 rfl (j := 21) (by decide) wfX11_65 dX11_begins_89 (v := tr 1221 0) rfl ?_
      refine tm_iload_n dX11_begins_92 rfl rfl ?_
      refine tm_aload_n dX11_begins_93 rfl rfl ?_
      refine tm_get kX11 rfl (j := 17) (by decide) wfX11_53 dX11_begins_94 (v := tr 1217 0) rfl ?_
      refine tm_iload_n dX11_begins_97 rfl rfl ?_
      obtain ⟨b22, h⟩ := chk_some h
      refine tm_iald rfl dX11_begins_98 (inb_vp b22) ?_
      obtain ⟨b23, h⟩ := chk_some h
      obtain ⟨M24, eM24, h⟩ := bnd_some h
      refine tm_iast rfl dX11_begins_99 (inb_vp b23) ?_
      refine tm_nmM eM24 ?_
      refine tm_aload_n dX11_begins_100 rfl rfl ?_
      refine tm_get kX11 rfl (j := 23) (by decide) wfX11_71 dX11_begins_101 (v := tr 1223 0) rfl ?_
      refine tm_iload_n dX11_begins_104 rfl rfl ?_
      refine tm_iconst (v := 0) dX11_begins_105 (by decide) ?_
      obtain ⟨b25, h⟩ := chk_some h
      obtain ⟨M26, eM26, h⟩ := bnd_some h
      refine tm_iast rfl dX11_begins_106 (inb_vp b25) ?_
      refine tm_nmM eM26 ?_
      refine tm_iconst (v := 0) dX11_begins_107 (by decide) ?_
      refine tm_istore_n (lc' := [(2, ti 0), (0, tr 11 0), (1, ti y1)]) dX11_begins_108 rfl (by decide) rfl ?_
      obtain ⟨w33, hE34, h⟩ := obind_some h
      refine tm_lcp [0, 1, 2] rfl ?_
      refine okX11_begins_l109 y1 FU 0 M26 _ hE34 (fun M35 e => ?_)
      subst e
      obtain ⟨x36, ex36, h⟩ := bnd_some h
      refine tm_iinc (v := x36) (lc' := [(1, ti x36), (0, tr 11 0)]) dX11_begins_148 rfl (by rw [ex36]; rfl) (by decide) rfl ?_
      refine tm_goto (tgt := 80) dX11_begins_151 (by decide) ?_
      refine tm_lcp [0, 1] rfl ?_
      exact ih x36 M35 _ h J
set_option maxHeartbeats 4000000 in
set_option maxRecDepth 100000 in
theorem okX11_begins {g : tG}  {M : tM} {Mz : tM} (h : fX11_begins  M = some Mz) : TMet g yX11_begins (Cond.code yX11_begins cX11_begins 3 (none) :: tgd) rmX11_begins [tr 11 0] M none Mz 0 0 := by
  have key : TW g iX11_begins rmX11_begins 0 0 none Mz 0 0 0 [(0, tr 11 0)] [] M := by
    rw [fX11_begins] at h
    refine tm_iconst (v := 0) dX11_begins_0 (by decide) ?_
    refine tm_istore_n (lc' := [(1, ti 0), (0, tr 11 0)]) dX11_begins_1 rfl (by decide) rfl ?_
    obtain ⟨w18, hE19, h⟩ := obind_some h
    refine tm_lcp [0, 1] rfl ?_
    refine okX11_begins_l2  FU 0 M _ hE19 (fun M20 e => ?_)
    subst e
    refine tm_iconst (v := 0) dX11_begins_78 (by decide) ?_
    refine tm_istore_n (lc' := [(1, ti 0), (0, tr 11 0)]) dX11_begins_79 rfl (by decide) rfl ?_
    obtain ⟨w37, hE38, h⟩ := obind_some h
    refine tm_lcp [0, 1] rfl ?_
    refine okX11_begins_l80  FU 0 M20 _ hE38 (fun M39 e => ?_)
    subst e
    refine tm_aload_n dX11_begins_154 rfl rfl ?_
    refine tm_iconst (v := 0) dX11_begins_155 (by decide) ?_
    obtain ⟨M40, eM40, h⟩ := bnd_some h
    refine tm_put kX11 rfl (j := 25) (by decide) wfX11_212 rfl dX11_begins_156 (fun _ => ⟨rfl, rfl⟩) (tPut_I 0 rfl) ?_
    refine tm_nmM eM40 ?_
    refine tm_aload_n dX11_begins_159 rfl rfl ?_
    obtain ⟨M42, hc41, h⟩ := obind_some h
    refine tm_callV kX11 rfl (avs := []) (st := []) (okX11_threadsBegin hc41) wcX11_215.1 wcX11_215.2.1 wcX11_215.2.2.1 wcX11_215.2.2.2 ⟨rfl, rfl, Nat.le_of_ble_eq_true rfl, Nat.le_of_ble_eq_true rfl⟩ rfl (Nat.le_of_ble_eq_true rfl) ⟨Nat.zero_le _, Nat.zero_le _⟩ dX11_begins_160 ?_
    obtain rfl := Option.some.inj h
    exact tm_vret rfl dX11_begins_163
  exact TMet.of (by decide) (Nat.le_of_ble_eq_true rfl) key
theorem wcX11_218 : tCB RX11 218 yX11_begins cX11_begins 3 (none) 0 ∧ Cond.methodLink RX11 218 yX11_begins ∈ tgd ∧ Cond.instanceMethod yX11_begins ∈ tgd ∧ Cond.selects RX11 yX11_begins yX11_begins ∈ tgd := ⟨⟨(tgd_t 1476 (by decide +kernel) (by decide +kernel)), (tgd_t 10 (by decide +kernel) (by decide +kernel)), by decide, by decide +kernel⟩, (tgd_t 1473 (by decide +kernel) (by decide +kernel)), (tgd_t 1475 (by decide +kernel) (by decide +kernel)), (tgd_p 56 (by decide +kernel) (by decide +kernel))⟩
theorem wfX11_113 : Cond.fieldLink RX11 113 "EvenFlowModel" "size" "I" ∈ tgd := (tgd_t 1268 (by decide +kernel) (by decide +kernel))
theorem wfX11_163 : Cond.fieldLink RX11 163 "EvenFlowModel" "onceMany" "I" ∈ tgd := (tgd_t 1285 (by decide +kernel) (by decide +kernel))
abbrev iX11_changes : tY := (RX11, cX11_changes, 1, none, "changes")
abbrev rmX11_changes : Room := { frames := 2, cells := 0, slots := 0, locals := 43 }
def fX11_changes  (M : tM) : Option (tM) :=
  bnd (sI M 11 0 43 (-9)) fun M1 =>
  bnd (sI M1 11 0 60 (-9)) fun M2 =>
  (fX11_begins M2).bind fun M4 =>
  some M4
set_option maxHeartbeats 4000000 in
set_option maxRecDepth 100000 in
theorem okX11_changes {g : tG}  {M : tM} {Mz : tM} (h : fX11_changes  M = some Mz) : TMet g yX11_changes (Cond.code yX11_changes cX11_changes 1 (none) :: tgd) rmX11_changes [tr 11 0] M none Mz 0 0 := by
  have key : TW g iX11_changes rmX11_changes 0 0 none Mz 0 0 0 [(0, tr 11 0)] [] M := by
    rw [fX11_changes] at h
    refine tm_aload_n dX11_changes_0 rfl rfl ?_
    refine tm_bipush (v := (-9)) dX11_changes_1 (by decide) ?_
    obtain ⟨M1, eM1, h⟩ := bnd_some h
    refine tm_put kX11 rfl (j := 43) (by decide) wfX11_113 rfl dX11_changes_3 (fun _ => ⟨rfl, rfl⟩) (tPut_I (-9) rfl) ?_
    refine tm_nmM eM1 ?_
    refine tm_aload_n dX11_changes_6 rfl rfl ?_
    refine tm_bipush (v := (-9)) dX11_changes_7 (by decide) ?_
    obtain ⟨M2, eM2, h⟩ := bnd_some h
    refine tm_put kX11 rfl (j := 60) (by decide) wfX11_163 rfl dX11_changes_9 (fun _ => ⟨rfl, rfl⟩) (tPut_I (-9) rfl) ?_
    refine tm_nmM eM2 ?_
    refine tm_aload_n dX11_changes_12 rfl rfl ?_
    obtain ⟨M4, hc3, h⟩ := obind_some h
    refine tm_callV kX11 rfl (avs := []) (st := []) (okX11_begins hc3) wcX11_218.1 wcX11_218.2.1 wcX11_218.2.2.1 wcX11_218.2.2.2 ⟨rfl, rfl, Nat.le_of_ble_eq_true rfl, Nat.le_of_ble_eq_true rfl⟩ rfl (Nat.le_of_ble_eq_true rfl) ⟨Nat.zero_le _, Nat.zero_le _⟩ dX11_changes_13 ?_
    obtain rfl := Option.some.inj h
    exact tm_vret rfl dX11_changes_16
  exact TMet.of (by decide) (Nat.le_of_ble_eq_true rfl) key
theorem wcX11_221 : tCB RX11 221 yX11_meets cX11_meets 2 (some .int) 1 ∧ Cond.methodLink RX11 221 yX11_meets ∈ tgd ∧ Cond.instanceMethod yX11_meets ∈ tgd ∧ Cond.selects RX11 yX11_meets yX11_meets ∈ tgd := ⟨⟨(tgd_t 1468 (by decide +kernel) (by decide +kernel)), (tgd_t 10 (by decide +kernel) (by decide +kernel)), by decide, by decide +kernel⟩, (tgd_t 1465 (by decide +kernel) (by decide +kernel)), (tgd_t 1467 (by decide +kernel) (by decide +kernel)), (tgd_p 54 (by decide +kernel) (by decide +kernel))⟩
theorem wcX11_225 : tCB RX11 225 yX11_changes cX11_changes 1 (none) 0 ∧ Cond.methodLink RX11 225 yX11_changes ∈ tgd ∧ Cond.instanceMethod yX11_changes ∈ tgd ∧ Cond.selects RX11 yX11_changes yX11_changes ∈ tgd := ⟨⟨(tgd_t 1472 (by decide +kernel) (by decide +kernel)), (tgd_t 10 (by decide +kernel) (by decide +kernel)), by decide, by decide +kernel⟩, (tgd_t 1469 (by decide +kernel) (by decide +kernel)), (tgd_t 1471 (by decide +kernel) (by decide +kernel)), (tgd_p 55 (by decide +kernel) (by decide +kernel))⟩
theorem wfX11_13 : Cond.fieldLink RX11 13 "EvenFlowModel" "kinds" "[I" ∈ tgd := (tgd_t 1228 (by decide +kernel) (by decide +kernel))
theorem wfX11_16 : Cond.fieldLink RX11 16 "EvenFlowModel" "ks" "[J" ∈ tgd := (tgd_t 1229 (by decide +kernel) (by decide +kernel))
theorem wfX11_20 : Cond.fieldLink RX11 20 "EvenFlowModel" "phaseMany" "[I" ∈ tgd := (tgd_t 1230 (by decide +kernel) (by decide +kernel))
theorem wfX11_35 : Cond.fieldLink RX11 35 "EvenFlowModel" "times" "[I" ∈ tgd := (tgd_t 1235 (by decide +kernel) (by decide +kernel))
theorem wfX11_38 : Cond.fieldLink RX11 38 "EvenFlowModel" "threads" "[I" ∈ tgd := (tgd_t 1236 (by decide +kernel) (by decide +kernel))
abbrev iX11_part : tY := (RX11, cX11_part, 6, some .int, "part")
abbrev rmX11_part : Room := { frames := 3, cells := 0, slots := 0, locals := 63 }
def fX11_part_l130  : Nat → Int32 → tM → Option (tM)
  | 0, _, _ => none
  | n + 1, y5, M =>
    if 12 ≤ y5 then (
    some M
    ) else (
    chk (inb ((12 * (mI M 11 0 2)) + y5) (mN M 1207 0)) <|
    bnd (sL M 1207 0 (((12 * (mI M 11 0 2)) + y5).toNatClampNeg) 0) fun M26 =>
    bnd (y5 + 1) fun x27 =>
    fX11_part_l130 n x27 M26
    )
def fX11_part (a1 : Int32) (a2 : Int64) (a3 : Int32) (M : tM) : Option (Int32 × tM) :=
  (fX11_in a1 0 5 M).bind fun x1 =>
  if x1 = 0 then (
  some (((-1), M))
  ) else (
  if a1 = 4 then (
  (fX11_in a3 1 4 M).bind fun x127 =>
  if x127 = 0 then (
  some (((-1), M))
  ) else (
  if a1 = 5 then (
  if a3 ≤ 12 then (
  if (mI M 11 0 2) = 12 then (
  some (((-2), M))
  ) else (
  if a1 = 5 then (
  if 0 ≤ a3 then (
  chk (inb (mI M 11 0 2) (mN M 1203 0)) <|
  bnd (sI M 1203 0 ((mI M 11 0 2).toNatClampNeg) a1) fun M220 =>
  chk (inb (mI M220 11 0 2) (mN M220 1204 0)) <|
  bnd (sL M220 1204 0 ((mI M220 11 0 2).toNatClampNeg) a2) fun M222 =>
  Option.bind (α := Int32) (
  if a1 = 4 then (
  some a3
  ) else (
  some 1
  )
  ) fun x224 =>
  chk (inb (mI M222 11 0 2) (mN M222 1205 0)) <|
  bnd (sI M222 1205 0 ((mI M222 11 0 2).toNatClampNeg) x224) fun M228 =>
  Option.bind (α := Int32) (
  if a1 = 5 then (
  some a3
  ) else (
  some (-9)
  )
  ) fun x230 =>
  chk (inb (mI M228 11 0 2) (mN M228 1206 0)) <|
  bnd (sI M228 1206 0 ((mI M228 11 0 2).toNatClampNeg) x230) fun M234 =>
  Option.bind (fX11_part_l130 FU 0 M234) fun M237 =>
  chk (inb (mI M237 11 0 2) (mN M237 1210 0)) <|
  bnd (sI M237 1210 0 ((mI M237 11 0 2).toNatClampNeg) 1) fun M239 =>
  chk (inb (mI M239 11 0 2) (mN M239 1211 0)) <|
  bnd (sI M239 1211 0 ((mI M239 11 0 2).toNatClampNeg) 0) fun M241 =>
  bnd (sI M241 11 0 2 ((mI M241 11 0 2) + 1)) fun M242 =>
  (fX11_changes M242).bind fun M244 =>
  some (((mI M244 11 0 2) - 1, M244))
  ) else (
  (fX11_meets 5 M).bind fun (x245, M247) =>
  some ((x245, M247))
  )
  ) else (
  chk (inb (mI M 11 0 2) (mN M 1203 0)) <|
  bnd (sI M 1203 0 ((mI M 11 0 2).toNatClampNeg) a1) fun M193 =>
  chk (inb (mI M193 11 0 2) (mN M193 1204 0)) <|
  bnd (sL M193 1204 0 ((mI M193 11 0 2).toNatClampNeg) a2) fun M195 =>
  Option.bind (α := Int32) (
  if a1 = 4 then (
  some a3
  ) else (
  some 1
  )
  ) fun x197 =>
  chk (inb (mI M195 11 0 2) (mN M195 1205 0)) <|
  bnd (sI M195 1205 0 ((mI M195 11 0 2).toNatClampNeg) x197) fun M201 =>
  Option.bind (α := Int32) (
  if a1 = 5 then (
  some a3
  ) else (
  some (-9)
  )
  ) fun x203 =>
  chk (inb (mI M201 11 0 2) (mN M201 1206 0)) <|
  bnd (sI M201 1206 0 ((mI M201 11 0 2).toNatClampNeg) x203) fun M207 =>
  Option.bind (fX11_part_l130 FU 0 M207) fun M210 =>
  chk (inb (mI M210 11 0 2) (mN M210 1210 0)) <|
  bnd (sI M210 1210 0 ((mI M210 11 0 2).toNatClampNeg) 1) fun M212 =>
  chk (inb (mI M212 11 0 2) (mN M212 1211 0)) <|
  bnd (sI M212 1211 0 ((mI M212 11 0 2).toNatClampNeg) 0) fun M214 =>
  bnd (sI M214 11 0 2 ((mI M214 11 0 2) + 1)) fun M215 =>
  (fX11_changes M215).bind fun M217 =>
  some (((mI M217 11 0 2) - 1, M217))
  )
  )
  ) else (
  some (((-1), M))
  )
  ) else (
  if (mI M 11 0 2) = 12 then (
  some (((-2), M))
  ) else (
  if a1 = 5 then (
  if 0 ≤ a3 then (
  chk (inb (mI M 11 0 2) (mN M 1203 0)) <|
  bnd (sI M 1203 0 ((mI M 11 0 2).toNatClampNeg) a1) fun M161 =>
  chk (inb (mI M161 11 0 2) (mN M161 1204 0)) <|
  bnd (sL M161 1204 0 ((mI M161 11 0 2).toNatClampNeg) a2) fun M163 =>
  Option.bind (α := Int32) (
  if a1 = 4 then (
  some a3
  ) else (
  some 1
  )
  ) fun x165 =>
  chk (inb (mI M163 11 0 2) (mN M163 1205 0)) <|
  bnd (sI M163 1205 0 ((mI M163 11 0 2).toNatClampNeg) x165) fun M169 =>
  Option.bind (α := Int32) (
  if a1 = 5 then (
  some a3
  ) else (
  some (-9)
  )
  ) fun x171 =>
  chk (inb (mI M169 11 0 2) (mN M169 1206 0)) <|
  bnd (sI M169 1206 0 ((mI M169 11 0 2).toNatClampNeg) x171) fun M175 =>
  Option.bind (fX11_part_l130 FU 0 M175) fun M178 =>
  chk (inb (mI M178 11 0 2) (mN M178 1210 0)) <|
  bnd (sI M178 1210 0 ((mI M178 11 0 2).toNatClampNeg) 1) fun M180 =>
  chk (inb (mI M180 11 0 2) (mN M180 1211 0)) <|
  bnd (sI M180 1211 0 ((mI M180 11 0 2).toNatClampNeg) 0) fun M182 =>
  bnd (sI M182 11 0 2 ((mI M182 11 0 2) + 1)) fun M183 =>
  (fX11_changes M183).bind fun M185 =>
  some (((mI M185 11 0 2) - 1, M185))
  ) else (
  (fX11_meets 5 M).bind fun (x186, M188) =>
  some ((x186, M188))
  )
  ) else (
  chk (inb (mI M 11 0 2) (mN M 1203 0)) <|
  bnd (sI M 1203 0 ((mI M 11 0 2).toNatClampNeg) a1) fun M134 =>
  chk (inb (mI M134 11 0 2) (mN M134 1204 0)) <|
  bnd (sL M134 1204 0 ((mI M134 11 0 2).toNatClampNeg) a2) fun M136 =>
  Option.bind (α := Int32) (
  if a1 = 4 then (
  some a3
  ) else (
  some 1
  )
  ) fun x138 =>
  chk (inb (mI M136 11 0 2) (mN M136 1205 0)) <|
  bnd (sI M136 1205 0 ((mI M136 11 0 2).toNatClampNeg) x138) fun M142 =>
  Option.bind (α := Int32) (
  if a1 = 5 then (
  some a3
  ) else (
  some (-9)
  )
  ) fun x144 =>
  chk (inb (mI M142 11 0 2) (mN M142 1206 0)) <|
  bnd (sI M142 1206 0 ((mI M142 11 0 2).toNatClampNeg) x144) fun M148 =>
  Option.bind (fX11_part_l130 FU 0 M148) fun M151 =>
  chk (inb (mI M151 11 0 2) (mN M151 1210 0)) <|
  bnd (sI M151 1210 0 ((mI M151 11 0 2).toNatClampNeg) 1) fun M153 =>
  chk (inb (mI M153 11 0 2) (mN M153 1211 0)) <|
  bnd (sI M153 1211 0 ((mI M153 11 0 2).toNatClampNeg) 0) fun M155 =>
  bnd (sI M155 11 0 2 ((mI M155 11 0 2) + 1)) fun M156 =>
  (fX11_changes M156).bind fun M158 =>
  some (((mI M158 11 0 2) - 1, M158))
  )
  )
  )
  )
  ) else (
  if a1 = 5 then (
  if a3 ≤ 12 then (
  if (mI M 11 0 2) = 12 then (
  some (((-2), M))
  ) else (
  if a1 = 5 then (
  if 0 ≤ a3 then (
  chk (inb (mI M 11 0 2) (mN M 1203 0)) <|
  bnd (sI M 1203 0 ((mI M 11 0 2).toNatClampNeg) a1) fun M99 =>
  chk (inb (mI M99 11 0 2) (mN M99 1204 0)) <|
  bnd (sL M99 1204 0 ((mI M99 11 0 2).toNatClampNeg) a2) fun M101 =>
  Option.bind (α := Int32) (
  if a1 = 4 then (
  some a3
  ) else (
  some 1
  )
  ) fun x103 =>
  chk (inb (mI M101 11 0 2) (mN M101 1205 0)) <|
  bnd (sI M101 1205 0 ((mI M101 11 0 2).toNatClampNeg) x103) fun M107 =>
  Option.bind (α := Int32) (
  if a1 = 5 then (
  some a3
  ) else (
  some (-9)
  )
  ) fun x109 =>
  chk (inb (mI M107 11 0 2) (mN M107 1206 0)) <|
  bnd (sI M107 1206 0 ((mI M107 11 0 2).toNatClampNeg) x109) fun M113 =>
  Option.bind (fX11_part_l130 FU 0 M113) fun M116 =>
  chk (inb (mI M116 11 0 2) (mN M116 1210 0)) <|
  bnd (sI M116 1210 0 ((mI M116 11 0 2).toNatClampNeg) 1) fun M118 =>
  chk (inb (mI M118 11 0 2) (mN M118 1211 0)) <|
  bnd (sI M118 1211 0 ((mI M118 11 0 2).toNatClampNeg) 0) fun M120 =>
  bnd (sI M120 11 0 2 ((mI M120 11 0 2) + 1)) fun M121 =>
  (fX11_changes M121).bind fun M123 =>
  some (((mI M123 11 0 2) - 1, M123))
  ) else (
  (fX11_meets 5 M).bind fun (x124, M126) =>
  some ((x124, M126))
  )
  ) else (
  chk (inb (mI M 11 0 2) (mN M 1203 0)) <|
  bnd (sI M 1203 0 ((mI M 11 0 2).toNatClampNeg) a1) fun M72 =>
  chk (inb (mI M72 11 0 2) (mN M72 1204 0)) <|
  bnd (sL M72 1204 0 ((mI M72 11 0 2).toNatClampNeg) a2) fun M74 =>
  Option.bind (α := Int32) (
  if a1 = 4 then (
  some a3
  ) else (
  some 1
  )
  ) fun x76 =>
  chk (inb (mI M74 11 0 2) (mN M74 1205 0)) <|
  bnd (sI M74 1205 0 ((mI M74 11 0 2).toNatClampNeg) x76) fun M80 =>
  Option.bind (α := Int32) (
  if a1 = 5 then (
  some a3
  ) else (
  some (-9)
  )
  ) fun x82 =>
  chk (inb (mI M80 11 0 2) (mN M80 1206 0)) <|
  bnd (sI M80 1206 0 ((mI M80 11 0 2).toNatClampNeg) x82) fun M86 =>
  Option.bind (fX11_part_l130 FU 0 M86) fun M89 =>
  chk (inb (mI M89 11 0 2) (mN M89 1210 0)) <|
  bnd (sI M89 1210 0 ((mI M89 11 0 2).toNatClampNeg) 1) fun M91 =>
  chk (inb (mI M91 11 0 2) (mN M91 1211 0)) <|
  bnd (sI M91 1211 0 ((mI M91 11 0 2).toNatClampNeg) 0) fun M93 =>
  bnd (sI M93 11 0 2 ((mI M93 11 0 2) + 1)) fun M94 =>
  (fX11_changes M94).bind fun M96 =>
  some (((mI M96 11 0 2) - 1, M96))
  )
  )
  ) else (
  some (((-1), M))
  )
  ) else (
  if (mI M 11 0 2) = 12 then (
  some (((-2), M))
  ) else (
  if a1 = 5 then (
  if 0 ≤ a3 then (
  chk (inb (mI M 11 0 2) (mN M 1203 0)) <|
  bnd (sI M 1203 0 ((mI M 11 0 2).toNatClampNeg) a1) fun M40 =>
  chk (inb (mI M40 11 0 2) (mN M40 1204 0)) <|
  bnd (sL M40 1204 0 ((mI M40 11 0 2).toNatClampNeg) a2) fun M42 =>
  Option.bind (α := Int32) (
  if a1 = 4 then (
  some a3
  ) else (
  some 1
  )
  ) fun x44 =>
  chk (inb (mI M42 11 0 2) (mN M42 1205 0)) <|
  bnd (sI M42 1205 0 ((mI M42 11 0 2).toNatClampNeg) x44) fun M48 =>
  Option.bind (α := Int32) (
  if a1 = 5 then (
  some a3
  ) else (
  some (-9)
  )
  ) fun x50 =>
  chk (inb (mI M48 11 0 2) (mN M48 1206 0)) <|
  bnd (sI M48 1206 0 ((mI M48 11 0 2).toNatClampNeg) x50) fun M54 =>
  Option.bind (fX11_part_l130 FU 0 M54) fun M57 =>
  chk (inb (mI M57 11 0 2) (mN M57 1210 0)) <|
  bnd (sI M57 1210 0 ((mI M57 11 0 2).toNatClampNeg) 1) fun M59 =>
  chk (inb (mI M59 11 0 2) (mN M59 1211 0)) <|
  bnd (sI M59 1211 0 ((mI M59 11 0 2).toNatClampNeg) 0) fun M61 =>
  bnd (sI M61 11 0 2 ((mI M61 11 0 2) + 1)) fun M62 =>
  (fX11_changes M62).bind fun M64 =>
  some (((mI M64 11 0 2) - 1, M64))
  ) else (
  (fX11_meets 5 M).bind fun (x65, M67) =>
  some ((x65, M67))
  )
  ) else (
  chk (inb (mI M 11 0 2) (mN M 1203 0)) <|
  bnd (sI M 1203 0 ((mI M 11 0 2).toNatClampNeg) a1) fun M9 =>
  chk (inb (mI M9 11 0 2) (mN M9 1204 0)) <|
  bnd (sL M9 1204 0 ((mI M9 11 0 2).toNatClampNeg) a2) fun M11 =>
  Option.bind (α := Int32) (
  if a1 = 4 then (
  some a3
  ) else (
  some 1
  )
  ) fun x13 =>
  chk (inb (mI M11 11 0 2) (mN M11 1205 0)) <|
  bnd (sI M11 1205 0 ((mI M11 11 0 2).toNatClampNeg) x13) fun M17 =>
  Option.bind (α := Int32) (
  if a1 = 5 then (
  some a3
  ) else (
  some (-9)
  )
  ) fun x19 =>
  chk (inb (mI M17 11 0 2) (mN M17 1206 0)) <|
  bnd (sI M17 1206 0 ((mI M17 11 0 2).toNatClampNeg) x19) fun M23 =>
  Option.bind (fX11_part_l130 FU 0 M23) fun M30 =>
  chk (inb (mI M30 11 0 2) (mN M30 1210 0)) <|
  bnd (sI M30 1210 0 ((mI M30 11 0 2).toNatClampNeg) 1) fun M32 =>
  chk (inb (mI M32 11 0 2) (mN M32 1211 0)) <|
  bnd (sI M32 1211 0 ((mI M32 11 0 2).toNatClampNeg) 0) fun M34 =>
  bnd (sI M34 11 0 2 ((mI M34 11 0 2) + 1)) fun M35 =>
  (fX11_changes M35).bind fun M37 =>
  some (((mI M37 11 0 2) - 1, M37))
  )
  )
  )
  )
  )
set_option maxHeartbeats 4000000 in
set_option maxRecDepth 100000 in
theorem okX11_part_l130 {g : tG}  {r : Option tV} {Mz : tM} : ∀ (n : Nat) (y5 : Int32) (M : tM) (w : tM), fX11_part_l130 n y5 M = some w → (∀ (Mw : tM), Mw = w → TW g iX11_part rmX11_part 0 0 r Mz 0 0 159 [(0, tr 11 0)] [] Mw) → TW g iX11_part rmX11_part 0 0 r Mz 0 0 130 [(0, tr 11 0), (5, ti y5)] [] M := by
  intro n
  induction n with
  | zero => intro y5 M w h; cases h
  | succ n ih =>
    intro y5 M w h J
    rw [fX11_part_l130] at h
    refine tm_iload dX11_part_130 rfl ?_
    refine tm_bipush (v := 12) dX11_part_132 (by decide) ?_
    refine tm_icmp_ge (tgt := 159) dX11_part_134 (by decide) (fun c24 => ?_) (fun c24 => ?_)
    · rw [if_pos c24] at h
      obtain rfl := Option.some.inj h
      refine tm_lcp [0] rfl ?_
      exact J _ rfl
    · rw [if_neg c24] at h
      refine tm_aload_n dX11_part_137 rfl rfl ?_
      refine tm_get kX11 rfl (j := 7) (by decide) wfX11_26 dX11_part_138 (v := tr 1207 0) rfl ?_
      refine tm_bipush (v := 12) dX11_part_141 (by decide) ?_
      refine tm_aload_n dX11_part_143 rfl rfl ?_
      refine tm_get kX11 rfl (j := 2) (by decide) wfX11_202 dX11_part_144 (v := ti (mI M 11 0 2)) rfl ?_
      refine tm_imul dX11_part_147 ?_
      refine tm_iload dX11_part_148 rfl ?_
      refine tm_iadd dX11_part_150 ?_
      refine tm_lconst (v := 0) dX11_part_151 (by decide) ?_
      obtain ⟨b25, h⟩ := chk_some h
      obtain ⟨M26, eM26, h⟩ := bnd_some h
      refine tm_last rfl dX11_part_152 (inb_vp b25) ?_
      refine tm_nmM eM26 ?_
      obtain ⟨x27, ex27, h⟩ := bnd_some h
      refine tm_iinc (v := x27) (lc' := [(5, ti x27), (0, tr 11 0)]) dX11_part_153 rfl (by rw [ex27]; rfl) (by decide) rfl ?_
      refine tm_goto (tgt := 130) dX11_part_156 (by decide) ?_
      refine tm_lcp [0, 5] rfl ?_
      exact ih x27 M26 _ h J
set_option maxHeartbeats 4000000 in
set_option maxRecDepth 100000 in
theorem okX11_part {g : tG} {a1 : Int32} {a2 : Int64} {a3 : Int32} {M : tM} {v : Int32} {Mz : tM} (h : fX11_part a1 a2 a3 M = some ((v, Mz))) : TMet g yX11_part (Cond.code yX11_part cX11_part 6 (some .int) :: tgd) rmX11_part [tr 11 0, ti a1, tl a2, ti a3] M (some (ti v)) Mz 0 0 := by
  have key : TW g iX11_part rmX11_part 0 0 (some (ti v)) Mz 0 0 0 [(0, tr 11 0), (1, ti a1), (2, tl a2), (4, ti a3)] [] M := by
    rw [fX11_part] at h
    refine tm_iload_n dX11_part_0 rfl rfl ?_
    refine tm_iconst (v := 0) dX11_part_1 (by decide) ?_
    refine tm_iconst (v := 5) dX11_part_2 (by decide) ?_
    obtain ⟨x1, hc2, h⟩ := obind_some h
    refine tm_callS (avs := [ti a1, ti 0, ti 5]) (st := []) (okX11_in hc2) wcX11_205.1 wcX11_205.2.1 wcX11_205.2.2 ⟨rfl, rfl, Nat.le_of_ble_eq_true rfl, Nat.le_of_ble_eq_true rfl⟩ rfl (Nat.le_of_ble_eq_true rfl) ⟨Nat.zero_le _, Nat.zero_le _⟩ dX11_part_3 ?_
    refine tm_if_eq (tgt := 36) dX11_part_6 (by decide) (fun c3 => ?_) (fun c3 => ?_)
    · rw [if_pos c3] at h
      refine tm_iconst (v := (-1)) dX11_part_36 (by decide) ?_
      obtain ⟨rfl, rfl⟩ := pj2 h
      exact tm_iret rfl dX11_part_37
    · rw [if_neg c3] at h
      refine tm_iload_n dX11_part_9 rfl rfl ?_
      refine tm_iconst (v := 4) dX11_part_10 (by decide) ?_
      refine tm_icmp_ne (tgt := 24) dX11_part_11 (by decide) (fun c4 => ?_) (fun c4 => ?_)
      · rw [if_neg c4] at h
        refine tm_iload_n dX11_part_24 rfl rfl ?_
        refine tm_iconst (v := 5) dX11_part_25 (by decide) ?_
        refine tm_icmp_ne (tgt := 38) dX11_part_26 (by decide) (fun c5 => ?_) (fun c5 => ?_)
        · rw [if_neg c5] at h
          refine tm_aload_n dX11_part_38 rfl rfl ?_
          refine tm_get kX11 rfl (j := 2) (by decide) wfX11_202 dX11_part_39 (v := ti (mI M 11 0 2)) rfl ?_
          refine tm_bipush (v := 12) dX11_part_42 (by decide) ?_
          refine tm_icmp_ne (tgt := 50) dX11_part_44 (by decide) (fun c6 => ?_) (fun c6 => ?_)
          · rw [if_neg c6] at h
            refine tm_iload_n dX11_part_50 rfl rfl ?_
            refine tm_iconst (v := 5) dX11_part_51 (by decide) ?_
            refine tm_icmp_ne (tgt := 66) dX11_part_52 (by decide) (fun c7 => ?_) (fun c7 => ?_)
            · rw [if_neg c7] at h
              refine tm_aload_n dX11_part_66 rfl rfl ?_
              refine tm_get kX11 rfl (j := 3) (by decide) wfX11_13 dX11_part_67 (v := tr 1203 0) rfl ?_
              refine tm_aload_n dX11_part_70 rfl rfl ?_
              refine tm_get kX11 rfl (j := 2) (by decide) wfX11_202 dX11_part_71 (v := ti (mI M 11 0 2)) rfl ?_
              refine tm_iload_n dX11_part_74 rfl rfl ?_
              obtain ⟨b8, h⟩ := chk_some h
              obtain ⟨M9, eM9, h⟩ := bnd_some h
              refine tm_iast rfl dX11_part_75 (inb_vp b8) ?_
              refine tm_nmM eM9 ?_
              refine tm_aload_n dX11_part_76 rfl rfl ?_
              refine tm_get kX11 rfl (j := 4) (by decide) wfX11_16 dX11_part_77 (v := tr 1204 0) rfl ?_
              refine tm_aload_n dX11_part_80 rfl rfl ?_
              refine tm_get kX11 rfl (j := 2) (by decide) wfX11_202 dX11_part_81 (v := ti (mI M9 11 0 2)) rfl ?_
              refine tm_lload_n dX11_part_84 rfl rfl ?_
              obtain ⟨b10, h⟩ := chk_some h
              obtain ⟨M11, eM11, h⟩ := bnd_some h
              refine tm_last rfl dX11_part_85 (inb_vp b10) ?_
              refine tm_nmM eM11 ?_
              refine tm_aload_n dX11_part_86 rfl rfl ?_
              refine tm_get kX11 rfl (j := 5) (by decide) wfX11_20 dX11_part_87 (v := tr 1205 0) rfl ?_
              refine tm_aload_n dX11_part_90 rfl rfl ?_
              refine tm_get kX11 rfl (j := 2) (by decide) wfX11_202 dX11_part_91 (v := ti (mI M11 11 0 2)) rfl ?_
              refine tm_iload_n dX11_part_94 rfl rfl ?_
              refine tm_iconst (v := 4) dX11_part_95 (by decide) ?_
              obtain ⟨x13, hE14, h⟩ := obind_some h
              have J15 : TW g iX11_part rmX11_part 0 0 (some (ti v)) Mz 0 0 105 [(0, tr 11 0), (1, ti a1), (4, ti a3)] [ti x13, ti (mI M11 11 0 2), tr 1205 0] M11 := by
                obtain ⟨b16, h⟩ := chk_some h
                obtain ⟨M17, eM17, h⟩ := bnd_some h
                refine tm_iast rfl dX11_part_105 (inb_vp b16) ?_
                refine tm_nmM eM17 ?_
                refine tm_aload_n dX11_part_106 rfl rfl ?_
                refine tm_get kX11 rfl (j := 6) (by decide) wfX11_23 dX11_part_107 (v := tr 1206 0) rfl ?_
                refine tm_aload_n dX11_part_110 rfl rfl ?_
                refine tm_get kX11 rfl (j := 2) (by decide) wfX11_202 dX11_part_111 (v := ti (mI M17 11 0 2)) rfl ?_
                refine tm_iload_n dX11_part_114 rfl rfl ?_
                refine tm_iconst (v := 5) dX11_part_115 (by decide) ?_
                obtain ⟨x19, hE20, h⟩ := obind_some h
                have J21 : TW g iX11_part rmX11_part 0 0 (some (ti v)) Mz 0 0 126 [(0, tr 11 0)] [ti x19, ti (mI M17 11 0 2), tr 1206 0] M17 := by
                  obtain ⟨b22, h⟩ := chk_some h
                  obtain ⟨M23, eM23, h⟩ := bnd_some h
                  refine tm_iast rfl dX11_part_126 (inb_vp b22) ?_
                  refine tm_nmM eM23 ?_
                  refine tm_iconst (v := 0) dX11_part_127 (by decide) ?_
                  refine tm_istore (lc' := [(5, ti 0), (0, tr 11 0)]) dX11_part_128 (by decide) rfl ?_
                  obtain ⟨w28, hE29, h⟩ := obind_some h
                  refine tm_lcp [0, 5] rfl ?_
                  refine okX11_part_l130  FU 0 M23 _ hE29 (fun M30 e => ?_)
                  subst e
                  refine tm_aload_n dX11_part_159 rfl rfl ?_
                  refine tm_get kX11 rfl (j := 10) (by decide) wfX11_35 dX11_part_160 (v := tr 1210 0) rfl ?_
                  refine tm_aload_n dX11_part_163 rfl rfl ?_
                  refine tm_get kX11 rfl (j := 2) (by decide) wfX11_202 dX11_part_164 (v := ti (mI M30 11 0 2)) rfl ?_
                  refine tm_iconst (v := 1) dX11_part_167 (by decide) ?_
                  obtain ⟨b31, h⟩ := chk_some h
                  obtain ⟨M32, eM32, h⟩ := bnd_some h
                  refine tm_iast rfl dX11_part_168 (inb_vp b31) ?_
                  refine tm_nmM eM32 ?_
                  refine tm_aload_n dX11_part_169 rfl rfl ?_
                  refine tm_get kX11 rfl (j := 11) (by decide) wfX11_38 dX11_part_170 (v := tr 1211 0) rfl ?_
                  refine tm_aload_n dX11_part_173 rfl rfl ?_
                  refine tm_get kX11 rfl (j := 2) (by decide) wfX11_202 dX11_part_174 (v := ti (mI M32 11 0 2)) rfl ?_
                  refine tm_iconst (v := 0) dX11_part_177 (by decide) ?_
                  obtain ⟨b33, h⟩ := chk_some h
                  obtain ⟨M34, eM34, h⟩ := bnd_some h
                  refine tm_iast rfl dX11_part_178 (inb_vp b33) ?_
                  refine tm_nmM eM34 ?_
                  refine tm_aload_n dX11_part_179 rfl rfl ?_
                  refine tm_dup dX11_part_180 rfl ?_
                  refine tm_get kX11 rfl (j := 2) (by decide) wfX11_202 dX11_part_181 (v := ti (mI M34 11 0 2)) rfl ?_
                  refine tm_iconst (v := 1) dX11_part_184 (by decide) ?_
                  refine tm_iadd dX11_part_185 ?_
                  obtain ⟨M35, eM35, h⟩ := bnd_some h
                  refine tm_put kX11 rfl (j := 2) (by decide) wfX11_202 rfl dX11_part_186 (fun _ => ⟨rfl, rfl⟩) (tPut_I ((mI M34 11 0 2) + 1) rfl) ?_
                  refine tm_nmM eM35 ?_
                  refine tm_aload_n dX11_part_189 rfl rfl ?_
                  obtain ⟨M37, hc36, h⟩ := obind_some h
                  refine tm_callV kX11 rfl (avs := []) (st := []) (okX11_changes hc36) wcX11_225.1 wcX11_225.2.1 wcX11_225.2.2.1 wcX11_225.2.2.2 ⟨rfl, rfl, Nat.le_of_ble_eq_true rfl, Nat.le_of_ble_eq_true rfl⟩ rfl (Nat.le_of_ble_eq_true rfl) ⟨Nat.zero_le _, Nat.zero_le _⟩ dX11_part_190 ?_
                  refine tm_aload_n dX11_part_193 rfl rfl ?_
                  refine tm_get kX11 rfl (j := 2) (by decide) wfX11_202 dX11_part_194 (v := ti (mI M37 11 0 2)) rfl ?_
                  refine tm_iconst (v := 1) dX11_part_197 (by decide) ?_
                  refine tm_isub dX11_part_198 ?_
                  obtain ⟨rfl, rfl⟩ := pj2 h
                  exact tm_iret rfl dX11_part_199
                refine tm_icmp_ne (tgt := 124) dX11_part_116 (by decide) (fun c18 => ?_) (fun c18 => ?_)
                · rw [if_neg c18] at hE20
                  refine tm_bipush (v := (-9)) dX11_part_124 (by decide) ?_
                  obtain rfl := Option.some.inj hE20
                  refine tm_lcp [0] rfl ?_
                  exact J21
                · rw [if_pos c18] at hE20
                  refine tm_iload dX11_part_119 rfl ?_
                  refine tm_goto (tgt := 126) dX11_part_121 (by decide) ?_
                  obtain rfl := Option.some.inj hE20
                  refine tm_lcp [0] rfl ?_
                  exact J21
              refine tm_icmp_ne (tgt := 104) dX11_part_96 (by decide) (fun c12 => ?_) (fun c12 => ?_)
              · rw [if_neg c12] at hE14
                refine tm_iconst (v := 1) dX11_part_104 (by decide) ?_
                obtain rfl := Option.some.inj hE14
                refine tm_lcp [0, 1, 4] rfl ?_
                exact J15
              · rw [if_pos c12] at hE14
                refine tm_iload dX11_part_99 rfl ?_
                refine tm_goto (tgt := 105) dX11_part_101 (by decide) ?_
                obtain rfl := Option.some.inj hE14
                refine tm_lcp [0, 1, 4] rfl ?_
                exact J15
            · rw [if_pos c7] at h
              refine tm_iload dX11_part_55 rfl ?_
              refine tm_if_ge (tgt := 66) dX11_part_57 (by decide) (fun c38 => ?_) (fun c38 => ?_)
              · rw [if_pos c38] at h
                refine tm_aload_n dX11_part_66 rfl rfl ?_
                refine tm_get kX11 rfl (j := 3) (by decide) wfX11_13 dX11_part_67 (v := tr 1203 0) rfl ?_
                refine tm_aload_n dX11_part_70 rfl rfl ?_
                refine tm_get kX11 rfl (j := 2) (by decide) wfX11_202 dX11_part_71 (v := ti (mI M 11 0 2)) rfl ?_
                refine tm_iload_n dX11_part_74 rfl rfl ?_
                obtain ⟨b39, h⟩ := chk_some h
                obtain ⟨M40, eM40, h⟩ := bnd_some h
                refine tm_iast rfl dX11_part_75 (inb_vp b39) ?_
                refine tm_nmM eM40 ?_
                refine tm_aload_n dX11_part_76 rfl rfl ?_
                refine tm_get kX11 rfl (j := 4) (by decide) wfX11_16 dX11_part_77 (v := tr 1204 0) rfl ?_
                refine tm_aload_n dX11_part_80 rfl rfl ?_
                refine tm_get kX11 rfl (j := 2) (by decide) wfX11_202 dX11_part_81 (v := ti (mI M40 11 0 2)) rfl ?_
                refine tm_lload_n dX11_part_84 rfl rfl ?_
                obtain ⟨b41, h⟩ := chk_some h
                obtain ⟨M42, eM42, h⟩ := bnd_some h
                refine tm_last rfl dX11_part_85 (inb_vp b41) ?_
                refine tm_nmM eM42 ?_
                refine tm_aload_n dX11_part_86 rfl rfl ?_
                refine tm_get kX11 rfl (j := 5) (by decide) wfX11_20 dX11_part_87 (v := tr 1205 0) rfl ?_
                refine tm_aload_n dX11_part_90 rfl rfl ?_
                refine tm_get kX11 rfl (j := 2) (by decide) wfX11_202 dX11_part_91 (v := ti (mI M42 11 0 2)) rfl ?_
                refine tm_iload_n dX11_part_94 rfl rfl ?_
                refine tm_iconst (v := 4) dX11_part_95 (by decide) ?_
                obtain ⟨x44, hE45, h⟩ := obind_some h
                have J46 : TW g iX11_part rmX11_part 0 0 (some (ti v)) Mz 0 0 105 [(0, tr 11 0), (1, ti a1), (4, ti a3)] [ti x44, ti (mI M42 11 0 2), tr 1205 0] M42 := by
                  obtain ⟨b47, h⟩ := chk_some h
                  obtain ⟨M48, eM48, h⟩ := bnd_some h
                  refine tm_iast rfl dX11_part_105 (inb_vp b47) ?_
                  refine tm_nmM eM48 ?_
                  refine tm_aload_n dX11_part_106 rfl rfl ?_
                  refine tm_get kX11 rfl (j := 6) (by decide) wfX11_23 dX11_part_107 (v := tr 1206 0) rfl ?_
                  refine tm_aload_n dX11_part_110 rfl rfl ?_
                  refine tm_get kX11 rfl (j := 2) (by decide) wfX11_202 dX11_part_111 (v := ti (mI M48 11 0 2)) rfl ?_
                  refine tm_iload_n dX11_part_114 rfl rfl ?_
                  refine tm_iconst (v := 5) dX11_part_115 (by decide) ?_
                  obtain ⟨x50, hE51, h⟩ := obind_some h
                  have J52 : TW g iX11_part rmX11_part 0 0 (some (ti v)) Mz 0 0 126 [(0, tr 11 0)] [ti x50, ti (mI M48 11 0 2), tr 1206 0] M48 := by
                    obtain ⟨b53, h⟩ := chk_some h
                    obtain ⟨M54, eM54, h⟩ := bnd_some h
                    refine tm_iast rfl dX11_part_126 (inb_vp b53) ?_
                    refine tm_nmM eM54 ?_
                    refine tm_iconst (v := 0) dX11_part_127 (by decide) ?_
                    refine tm_istore (lc' := [(5, ti 0), (0, tr 11 0)]) dX11_part_128 (by decide) rfl ?_
                    obtain ⟨w55, hE56, h⟩ := obind_some h
                    refine tm_lcp [0, 5] rfl ?_
                    refine okX11_part_l130  FU 0 M54 _ hE56 (fun M57 e => ?_)
                    subst e
                    refine tm_aload_n dX11_part_159 rfl rfl ?_
                    refine tm_get kX11 rfl (j := 10) (by decide) wfX11_35 dX11_part_160 (v := tr 1210 0) rfl ?_
                    refine tm_aload_n dX11_part_163 rfl rfl ?_
                    refine tm_get kX11 rfl (j := 2) (by decide) wfX11_202 dX11_part_164 (v := ti (mI M57 11 0 2)) rfl ?_
                    refine tm_iconst (v := 1) dX11_part_167 (by decide) ?_
                    obtain ⟨b58, h⟩ := chk_some h
                    obtain ⟨M59, eM59, h⟩ := bnd_some h
                    refine tm_iast rfl dX11_part_168 (inb_vp b58) ?_
                    refine tm_nmM eM59 ?_
                    refine tm_aload_n dX11_part_169 rfl rfl ?_
                    refine tm_get kX11 rfl (j := 11) (by decide) wfX11_38 dX11_part_170 (v := tr 1211 0) rfl ?_
                    refine tm_aload_n dX11_part_173 rfl rfl ?_
                    refine tm_get kX11 rfl (j := 2) (by decide) wfX11_202 dX11_part_174 (v := ti (mI M59 11 0 2)) rfl ?_
                    refine tm_iconst (v := 0) dX11_part_177 (by decide) ?_
                    obtain ⟨b60, h⟩ := chk_some h
                    obtain ⟨M61, eM61, h⟩ := bnd_some h
                    refine tm_iast rfl dX11_part_178 (inb_vp b60) ?_
                    refine tm_nmM eM61 ?_
                    refine tm_aload_n dX11_part_179 rfl rfl ?_
                    refine tm_dup dX11_part_180 rfl ?_
                    refine tm_get kX11 rfl (j := 2) (by decide) wfX11_202 dX11_part_181 (v := ti (mI M61 11 0 2)) rfl ?_
                    refine tm_iconst (v := 1) dX11_part_184 (by decide) ?_
                    refine tm_iadd dX11_part_185 ?_
                    obtain ⟨M62, eM62, h⟩ := bnd_some h
                    refine tm_put kX11 rfl (j := 2) (by decide) wfX11_202 rfl dX11_part_186 (fun _ => ⟨rfl, rfl⟩) (tPut_I ((mI M61 11 0 2) + 1) rfl) ?_
                    refine tm_nmM eM62 ?_
                    refine tm_aload_n dX11_part_189 rfl rfl ?_
                    obtain ⟨M64, hc63, h⟩ := obind_some h
                    refine tm_callV kX11 rfl (avs := []) (st := []) (okX11_changes hc63) wcX11_225.1 wcX11_225.2.1 wcX11_225.2.2.1 wcX11_225.2.2.2 ⟨rfl, rfl, Nat.le_of_ble_eq_true rfl, Nat.le_of_ble_eq_true rfl⟩ rfl (Nat.le_of_ble_eq_true rfl) ⟨Nat.zero_le _, Nat.zero_le _⟩ dX11_part_190 ?_
                    refine tm_aload_n dX11_part_193 rfl rfl ?_
                    refine tm_get kX11 rfl (j := 2) (by decide) wfX11_202 dX11_part_194 (v := ti (mI M64 11 0 2)) rfl ?_
                    refine tm_iconst (v := 1) dX11_part_197 (by decide) ?_
                    refine tm_isub dX11_part_198 ?_
                    obtain ⟨rfl, rfl⟩ := pj2 h
                    exact tm_iret rfl dX11_part_199
                  refine tm_icmp_ne (tgt := 124) dX11_part_116 (by decide) (fun c49 => ?_) (fun c49 => ?_)
                  · rw [if_neg c49] at hE51
                    refine tm_bipush (v := (-9)) dX11_part_124 (by decide) ?_
                    obtain rfl := Option.some.inj hE51
                    refine tm_lcp [0] rfl ?_
                    exact J52
                  · rw [if_pos c49] at hE51
                    refine tm_iload dX11_part_119 rfl ?_
                    refine tm_goto (tgt := 126) dX11_part_121 (by decide) ?_
                    obtain rfl := Option.some.inj hE51
                    refine tm_lcp [0] rfl ?_
                    exact J52
                refine tm_icmp_ne (tgt := 104) dX11_part_96 (by decide) (fun c43 => ?_) (fun c43 => ?_)
                · rw [if_neg c43] at hE45
                  refine tm_iconst (v := 1) dX11_part_104 (by decide) ?_
                  obtain rfl := Option.some.inj hE45
                  refine tm_lcp [0, 1, 4] rfl ?_
                  exact J46
                · rw [if_pos c43] at hE45
                  refine tm_iload dX11_part_99 rfl ?_
                  refine tm_goto (tgt := 105) dX11_part_101 (by decide) ?_
                  obtain rfl := Option.some.inj hE45
                  refine tm_lcp [0, 1, 4] rfl ?_
                  exact J46
              · rw [if_neg c38] at h
                refine tm_aload_n dX11_part_60 rfl rfl ?_
                refine tm_iconst (v := 5) dX11_part_61 (by decide) ?_
                obtain ⟨⟨x65, M67⟩, hc66, h⟩ := obind_some h
                dsimp only at h
                refine tm_callV kX11 rfl (avs := [ti 5]) (st := []) (okX11_meets hc66) wcX11_221.1 wcX11_221.2.1 wcX11_221.2.2.1 wcX11_221.2.2.2 ⟨rfl, rfl, Nat.le_of_ble_eq_true rfl, Nat.le_of_ble_eq_true rfl⟩ rfl (Nat.le_of_ble_eq_true rfl) ⟨Nat.zero_le _, Nat.zero_le _⟩ dX11_part_62 ?_
                obtain ⟨rfl, rfl⟩ := pj2 h
                exact tm_iret rfl dX11_part_65
          · rw [if_pos c6] at h
            refine tm_bipush (v := (-2)) dX11_part_47 (by decide) ?_
            obtain ⟨rfl, rfl⟩ := pj2 h
            exact tm_iret rfl dX11_part_49
        · rw [if_pos c5] at h
          refine tm_iload dX11_part_29 rfl ?_
          refine tm_bipush (v := 12) dX11_part_31 (by decide) ?_
          refine tm_icmp_le (tgt := 38) dX11_part_33 (by decide) (fun c68 => ?_) (fun c68 => ?_)
          · rw [if_pos c68] at h
            refine tm_aload_n dX11_part_38 rfl rfl ?_
            refine tm_get kX11 rfl (j := 2) (by decide) wfX11_202 dX11_part_39 (v := ti (mI M 11 0 2)) rfl ?_
            refine tm_bipush (v := 12) dX11_part_42 (by decide) ?_
            refine tm_icmp_ne (tgt := 50) dX11_part_44 (by decide) (fun c69 => ?_) (fun c69 => ?_)
            · rw [if_neg c69] at h
              refine tm_iload_n dX11_part_50 rfl rfl ?_
              refine tm_iconst (v := 5) dX11_part_51 (by decide) ?_
              refine tm_icmp_ne (tgt := 66) dX11_part_52 (by decide) (fun c70 => ?_) (fun c70 => ?_)
              · rw [if_neg c70] at h
                refine tm_aload_n dX11_part_66 rfl rfl ?_
                refine tm_get kX11 rfl (j := 3) (by decide) wfX11_13 dX11_part_67 (v := tr 1203 0) rfl ?_
                refine tm_aload_n dX11_part_70 rfl rfl ?_
                refine tm_get kX11 rfl (j := 2) (by decide) wfX11_202 dX11_part_71 (v := ti (mI M 11 0 2)) rfl ?_
                refine tm_iload_n dX11_part_74 rfl rfl ?_
                obtain ⟨b71, h⟩ := chk_some h
                obtain ⟨M72, eM72, h⟩ := bnd_some h
                refine tm_iast rfl dX11_part_75 (inb_vp b71) ?_
                refine tm_nmM eM72 ?_
                refine tm_aload_n dX11_part_76 rfl rfl ?_
                refine tm_get kX11 rfl (j := 4) (by decide) wfX11_16 dX11_part_77 (v := tr 1204 0) rfl ?_
                refine tm_aload_n dX11_part_80 rfl rfl ?_
                refine tm_get kX11 rfl (j := 2) (by decide) wfX11_202 dX11_part_81 (v := ti (mI M72 11 0 2)) rfl ?_
                refine tm_lload_n dX11_part_84 rfl rfl ?_
                obtain ⟨b73, h⟩ := chk_some h
                obtain ⟨M74, eM74, h⟩ := bnd_some h
                refine tm_last rfl dX11_part_85 (inb_vp b73) ?_
                refine tm_nmM eM74 ?_
                refine tm_aload_n dX11_part_86 rfl rfl ?_
                refine tm_get kX11 rfl (j := 5) (by decide) wfX11_20 dX11_part_87 (v := tr 1205 0) rfl ?_
                refine tm_aload_n dX11_part_90 rfl rfl ?_
                refine tm_get kX11 rfl (j := 2) (by decide) wfX11_202 dX11_part_91 (v := ti (mI M74 11 0 2)) rfl ?_
                refine tm_iload_n dX11_part_94 rfl rfl ?_
                refine tm_iconst (v := 4) dX11_part_95 (by decide) ?_
                obtain ⟨x76, hE77, h⟩ := obind_some h
                have J78 : TW g iX11_part rmX11_part 0 0 (some (ti v)) Mz 0 0 105 [(0, tr 11 0), (1, ti a1), (4, ti a3)] [ti x76, ti (mI M74 11 0 2), tr 1205 0] M74 := by
                  obtain ⟨b79, h⟩ := chk_some h
                  obtain ⟨M80, eM80, h⟩ := bnd_some h
                  refine tm_iast rfl dX11_part_105 (inb_vp b79) ?_
                  refine tm_nmM eM80 ?_
                  refine tm_aload_n dX11_part_106 rfl rfl ?_
                  refine tm_get kX11 rfl (j := 6) (by decide) wfX11_23 dX11_part_107 (v := tr 1206 0) rfl ?_
                  refine tm_aload_n dX11_part_110 rfl rfl ?_
                  refine tm_get kX11 rfl (j := 2) (by decide) wfX11_202 dX11_part_111 (v := ti (mI M80 11 0 2)) rfl ?_
                  refine tm_iload_n dX11_part_114 rfl rfl ?_
                  refine tm_iconst (v := 5) dX11_part_115 (by decide) ?_
                  obtain ⟨x82, hE83, h⟩ := obind_some h
                  have J84 : TW g iX11_part rmX11_part 0 0 (some (ti v)) Mz 0 0 126 [(0, tr 11 0)] [ti x82, ti (mI M80 11 0 2), tr 1206 0] M80 := by
                    obtain ⟨b85, h⟩ := chk_some h
                    obtain ⟨M86, eM86, h⟩ := bnd_some h
                    refine tm_iast rfl dX11_part_126 (inb_vp b85) ?_
                    refine tm_nmM eM86 ?_
                    refine tm_iconst (v := 0) dX11_part_127 (by decide) ?_
                    refine tm_istore (lc' := [(5, ti 0), (0, tr 11 0)]) dX11_part_128 (by decide) rfl ?_
                    obtain ⟨w87, hE88, h⟩ := obind_some h
                    refine tm_lcp [0, 5] rfl ?_
                    refine okX11_part_l130  FU 0 M86 _ hE88 (fun M89 e => ?_)
                    subst e
                    refine tm_aload_n dX11_part_159 rfl rfl ?_
                    refine tm_get kX11 rfl (j := 10) (by decide) wfX11_35 dX11_part_160 (v := tr 1210 0) rfl ?_
                    refine tm_aload_n dX11_part_163 rfl rfl ?_
                    refine tm_get kX11 rfl (j := 2) (by decide) wfX11_202 dX11_part_164 (v := ti (mI M89 11 0 2)) rfl ?_
                    refine tm_iconst (v := 1) dX11_part_167 (by decide) ?_
                    obtain ⟨b90, h⟩ := chk_some h
                    obtain ⟨M91, eM91, h⟩ := bnd_some h
                    refine tm_iast rfl dX11_part_168 (inb_vp b90) ?_
                    refine tm_nmM eM91 ?_
                    refine tm_aload_n dX11_part_169 rfl rfl ?_
                    refine tm_get kX11 rfl (j := 11) (by decide) wfX11_38 dX11_part_170 (v := tr 1211 0) rfl ?_
                    refine tm_aload_n dX11_part_173 rfl rfl ?_
                    refine tm_get kX11 rfl (j := 2) (by decide) wfX11_202 dX11_part_174 (v := ti (mI M91 11 0 2)) rfl ?_
                    refine tm_iconst (v := 0) dX11_part_177 (by decide) ?_
                    obtain ⟨b92, h⟩ := chk_some h
                    obtain ⟨M93, eM93, h⟩ := bnd_some h
                    refine tm_iast rfl dX11_part_178 (inb_vp b92) ?_
                    refine tm_nmM eM93 ?_
                    refine tm_aload_n dX11_part_179 rfl rfl ?_
                    refine tm_dup dX11_part_180 rfl ?_
                    refine tm_get kX11 rfl (j := 2) (by decide) wfX11_202 dX11_part_181 (v := ti (mI M93 11 0 2)) rfl ?_
                    refine tm_iconst (v := 1) dX11_part_184 (by decide) ?_
                    refine tm_iadd dX11_part_185 ?_
                    obtain ⟨M94, eM94, h⟩ := bnd_some h
                    refine tm_put kX11 rfl (j := 2) (by decide) wfX11_202 rfl dX11_part_186 (fun _ => ⟨rfl, rfl⟩) (tPut_I ((mI M93 11 0 2) + 1) rfl) ?_
                    refine tm_nmM eM94 ?_
                    refine tm_aload_n dX11_part_189 rfl rfl ?_
                    obtain ⟨M96, hc95, h⟩ := obind_some h
                    refine tm_callV kX11 rfl (avs := []) (st := []) (okX11_changes hc95) wcX11_225.1 wcX11_225.2.1 wcX11_225.2.2.1 wcX11_225.2.2.2 ⟨rfl, rfl, Nat.le_of_ble_eq_true rfl, Nat.le_of_ble_eq_true rfl⟩ rfl (Nat.le_of_ble_eq_true rfl) ⟨Nat.zero_le _, Nat.zero_le _⟩ dX11_part_190 ?_
                    refine tm_aload_n dX11_part_193 rfl rfl ?_
                    refine tm_get kX11 rfl (j := 2) (by decide) wfX11_202 dX11_part_194 (v := ti (mI M96 11 0 2)) rfl ?_
                    refine tm_iconst (v := 1) dX11_part_197 (by decide) ?_
                    refine tm_isub dX11_part_198 ?_
                    obtain ⟨rfl, rfl⟩ := pj2 h
                    exact tm_iret rfl dX11_part_199
                  refine tm_icmp_ne (tgt := 124) dX11_part_116 (by decide) (fun c81 => ?_) (fun c81 => ?_)
                  · rw [if_neg c81] at hE83
                    refine tm_bipush (v := (-9)) dX11_part_124 (by decide) ?_
                    obtain rfl := Option.some.inj hE83
                    refine tm_lcp [0] rfl ?_
                    exact J84
                  · rw [if_pos c81] at hE83
                    refine tm_iload dX11_part_119 rfl ?_
                    refine tm_goto (tgt := 126) dX11_part_121 (by decide) ?_
                    obtain rfl := Option.some.inj hE83
                    refine tm_lcp [0] rfl ?_
                    exact J84
                refine tm_icmp_ne (tgt := 104) dX11_part_96 (by decide) (fun c75 => ?_) (fun c75 => ?_)
                · rw [if_neg c75] at hE77
                  refine tm_iconst (v := 1) dX11_part_104 (by decide) ?_
                  obtain rfl := Option.some.inj hE77
                  refine tm_lcp [0, 1, 4] rfl ?_
                  exact J78
                · rw [if_pos c75] at hE77
                  refine tm_iload dX11_part_99 rfl ?_
                  refine tm_goto (tgt := 105) dX11_part_101 (by decide) ?_
                  obtain rfl := Option.some.inj hE77
                  refine tm_lcp [0, 1, 4] rfl ?_
                  exact J78
              · rw [if_pos c70] at h
                refine tm_iload dX11_part_55 rfl ?_
                refine tm_if_ge (tgt := 66) dX11_part_57 (by decide) (fun c97 => ?_) (fun c97 => ?_)
                · rw [if_pos c97] at h
                  refine tm_aload_n dX11_part_66 rfl rfl ?_
                  refine tm_get kX11 rfl (j := 3) (by decide) wfX11_13 dX11_part_67 (v := tr 1203 0) rfl ?_
                  refine tm_aload_n dX11_part_70 rfl rfl ?_
                  refine tm_get kX11 rfl (j := 2) (by decide) wfX11_202 dX11_part_71 (v := ti (mI M 11 0 2)) rfl ?_
                  refine tm_iload_n dX11_part_74 rfl rfl ?_
                  obtain ⟨b98, h⟩ := chk_some h
                  obtain ⟨M99, eM99, h⟩ := bnd_some h
                  refine tm_iast rfl dX11_part_75 (inb_vp b98) ?_
                  refine tm_nmM eM99 ?_
                  refine tm_aload_n dX11_part_76 rfl rfl ?_
                  refine tm_get kX11 rfl (j := 4) (by decide) wfX11_16 dX11_part_77 (v := tr 1204 0) rfl ?_
                  refine tm_aload_n dX11_part_80 rfl rfl ?_
                  refine tm_get kX11 rfl (j := 2) (by decide) wfX11_202 dX11_part_81 (v := ti (mI M99 11 0 2)) rfl ?_
                  refine tm_lload_n dX11_part_84 rfl rfl ?_
                  obtain ⟨b100, h⟩ := chk_some h
                  obtain ⟨M101, eM101, h⟩ := bnd_some h
                  refine tm_last rfl dX11_part_85 (inb_vp b100) ?_
                  refine tm_nmM eM101 ?_
                  refine tm_aload_n dX11_part_86 rfl rfl ?_
                  refine tm_get kX11 rfl (j := 5) (by decide) wfX11_20 dX11_part_87 (v := tr 1205 0) rfl ?_
                  refine tm_aload_n dX11_part_90 rfl rfl ?_
                  refine tm_get kX11 rfl (j := 2) (by decide) wfX11_202 dX11_part_91 (v := ti (mI M101 11 0 2)) rfl ?_
                  refine tm_iload_n dX11_part_94 rfl rfl ?_
                  refine tm_iconst (v := 4) dX11_part_95 (by decide) ?_
                  obtain ⟨x103, hE104, h⟩ := obind_some h
                  have J105 : TW g iX11_part rmX11_part 0 0 (some (ti v)) Mz 0 0 105 [(0, tr 11 0), (1, ti a1), (4, ti a3)] [ti x103, ti (mI M101 11 0 2), tr 1205 0] M101 := by
                    obtain ⟨b106, h⟩ := chk_some h
                    obtain ⟨M107, eM107, h⟩ := bnd_some h
                    refine tm_iast rfl dX11_part_105 (inb_vp b106) ?_
                    refine tm_nmM eM107 ?_
                    refine tm_aload_n dX11_part_106 rfl rfl ?_
                    refine tm_get kX11 rfl (j := 6) (by decide) wfX11_23 dX11_part_107 (v := tr 1206 0) rfl ?_
                    refine tm_aload_n dX11_part_110 rfl rfl ?_
                    refine tm_get kX11 rfl (j := 2) (by decide) wfX11_202 dX11_part_111 (v := ti (mI M107 11 0 2)) rfl ?_
                    refine tm_iload_n dX11_part_114 rfl rfl ?_
                    refine tm_iconst (v := 5) dX11_part_115 (by decide) ?_
                    obtain ⟨x109, hE110, h⟩ := obind_some h
                    have J111 : TW g iX11_part rmX11_part 0 0 (some (ti v)) Mz 0 0 126 [(0, tr 11 0)] [ti x109, ti (mI M107 11 0 2), tr 1206 0] M107 := by
                      obtain ⟨b112, h⟩ := chk_some h
                      obtain ⟨M113, eM113, h⟩ := bnd_some h
                      refine tm_iast rfl dX11_part_126 (inb_vp b112) ?_
                      refine tm_nmM eM113 ?_
                      refine tm_iconst (v := 0) dX11_part_127 (by decide) ?_
                      refine tm_istore (lc' := [(5, ti 0), (0, tr 11 0)]) dX11_part_128 (by decide) rfl ?_
                      obtain ⟨w114, hE115, h⟩ := obind_some h
                      refine tm_lcp [0, 5] rfl ?_
                      refine okX11_part_l130  FU 0 M113 _ hE115 (fun M116 e => ?_)
                      subst e
                      refine tm_aload_n dX11_part_159 rfl rfl ?_
                      refine tm_get kX11 rfl (j := 10) (by decide) wfX11_35 dX11_part_160 (v := tr 1210 0) rfl ?_
                      refine tm_aload_n dX11_part_163 rfl rfl ?_
                      refine tm_get kX11 rfl (j := 2) (by decide) wfX11_202 dX11_part_164 (v := ti (mI M116 11 0 2)) rfl ?_
                      refine tm_iconst (v := 1) dX11_part_167 (by decide) ?_
                      obtain ⟨b117, h⟩ := chk_some h
                      obtain ⟨M118, eM118, h⟩ := bnd_some h
                      refine tm_iast rfl dX11_part_168 (inb_vp b117) ?_
                      refine tm_nmM eM118 ?_
                      refine tm_aload_n dX11_part_169 rfl rfl ?_
                      refine tm_get kX11 rfl (j := 11) (by decide) wfX11_38 dX11_part_170 (v := tr 1211 0) rfl ?_
                      refine tm_aload_n dX11_part_173 rfl rfl ?_
                      refine tm_get kX11 rfl (j := 2) (by decide) wfX11_202 dX11_part_174 (v := ti (mI M118 11 0 2)) rfl ?_
                      refine tm_iconst (v := 0) dX11_part_177 (by decide) ?_
                      obtain ⟨b119, h⟩ := chk_some h
                      obtain ⟨M120, eM120, h⟩ := bnd_some h
                      refine tm_iast rfl dX11_part_178 (inb_vp b119) ?_
                      refine tm_nmM eM120 ?_
                      refine tm_aload_n dX11_part_179 rfl rfl ?_
                      refine tm_dup dX11_part_180 rfl ?_
                      refine tm_get kX11 rfl (j := 2) (by decide) wfX11_202 dX11_part_181 (v := ti (mI M120 11 0 2)) rfl ?_
                      refine tm_iconst (v := 1) dX11_part_184 (by decide) ?_
                      refine tm_iadd dX11_part_185 ?_
                      obtain ⟨M121, eM121, h⟩ := bnd_some h
                      refine tm_put kX11 rfl (j := 2) (by decide) wfX11_202 rfl dX11_part_186 (fun _ => ⟨rfl, rfl⟩) (tPut_I ((mI M120 11 0 2) + 1) rfl) ?_
                      refine tm_nmM eM121 ?_
                      refine tm_aload_n dX11_part_189 rfl rfl ?_
                      obtain ⟨M123, hc122, h⟩ := obind_some h
                      refine tm_callV kX11 rfl (avs := []) (st := []) (okX11_changes hc122) wcX11_225.1 wcX11_225.2.1 wcX11_225.2.2.1 wcX11_225.2.2.2 ⟨rfl, rfl, Nat.le_of_ble_eq_true rfl, Nat.le_of_ble_eq_true rfl⟩ rfl (Nat.le_of_ble_eq_true rfl) ⟨Nat.zero_le _, Nat.zero_le _⟩ dX11_part_190 ?_
                      refine tm_aload_n dX11_part_193 rfl rfl ?_
                      refine tm_get kX11 rfl (j := 2) (by decide) wfX11_202 dX11_part_194 (v := ti (mI M123 11 0 2)) rfl ?_
                      refine tm_iconst (v := 1) dX11_part_197 (by decide) ?_
                      refine tm_isub dX11_part_198 ?_
                      obtain ⟨rfl, rfl⟩ := pj2 h
                      exact tm_iret rfl dX11_part_199
                    refine tm_icmp_ne (tgt := 124) dX11_part_116 (by decide) (fun c108 => ?_) (fun c108 => ?_)
                    · rw [if_neg c108] at hE110
                      refine tm_bipush (v := (-9)) dX11_part_124 (by decide) ?_
                      obtain rfl := Option.some.inj hE110
                      refine tm_lcp [0] rfl ?_
                      exact J111
                    · rw [if_pos c108] at hE110
                      refine tm_iload dX11_part_119 rfl ?_
                      refine tm_goto (tgt := 126) dX11_part_121 (by decide) ?_
                      obtain rfl := Option.some.inj hE110
                      refine tm_lcp [0] rfl ?_
                      exact J111
                  refine tm_icmp_ne (tgt := 104) dX11_part_96 (by decide) (fun c102 => ?_) (fun c102 => ?_)
                  · rw [if_neg c102] at hE104
                    refine tm_iconst (v := 1) dX11_part_104 (by decide) ?_
                    obtain rfl := Option.some.inj hE104
                    refine tm_lcp [0, 1, 4] rfl ?_
                    exact J105
                  · rw [if_pos c102] at hE104
                    refine tm_iload dX11_part_99 rfl ?_
                    refine tm_goto (tgt := 105) dX11_part_101 (by decide) ?_
                    obtain rfl := Option.some.inj hE104
                    refine tm_lcp [0, 1, 4] rfl ?_
                    exact J105
                · rw [if_neg c97] at h
                  refine tm_aload_n dX11_part_60 rfl rfl ?_
                  refine tm_iconst (v := 5) dX11_part_61 (by decide) ?_
                  obtain ⟨⟨x124, M126⟩, hc125, h⟩ := obind_some h
                  dsimp only at h
                  refine tm_callV kX11 rfl (avs := [ti 5]) (st := []) (okX11_meets hc125) wcX11_221.1 wcX11_221.2.1 wcX11_221.2.2.1 wcX11_221.2.2.2 ⟨rfl, rfl, Nat.le_of_ble_eq_true rfl, Nat.le_of_ble_eq_true rfl⟩ rfl (Nat.le_of_ble_eq_true rfl) ⟨Nat.zero_le _, Nat.zero_le _⟩ dX11_part_62 ?_
                  obtain ⟨rfl, rfl⟩ := pj2 h
                  exact tm_iret rfl dX11_part_65
            · rw [if_pos c69] at h
              refine tm_bipush (v := (-2)) dX11_part_47 (by decide) ?_
              obtain ⟨rfl, rfl⟩ := pj2 h
              exact tm_iret rfl dX11_part_49
          · rw [if_neg c68] at h
            refine tm_iconst (v := (-1)) dX11_part_36 (by decide) ?_
            obtain ⟨rfl, rfl⟩ := pj2 h
            exact tm_iret rfl dX11_part_37
      · rw [if_pos c4] at h
        refine tm_iload dX11_part_14 rfl ?_
        refine tm_iconst (v := 1) dX11_part_16 (by decide) ?_
        refine tm_iconst (v := 4) dX11_part_17 (by decide) ?_
        obtain ⟨x127, hc128, h⟩ := obind_some h
        refine tm_callS (avs := [ti a3, ti 1, ti 4]) (st := []) (okX11_in hc128) wcX11_205.1 wcX11_205.2.1 wcX11_205.2.2 ⟨rfl, rfl, Nat.le_of_ble_eq_true rfl, Nat.le_of_ble_eq_true rfl⟩ rfl (Nat.le_of_ble_eq_true rfl) ⟨Nat.zero_le _, Nat.zero_le _⟩ dX11_part_18 ?_
        refine tm_if_eq (tgt := 36) dX11_part_21 (by decide) (fun c129 => ?_) (fun c129 => ?_)
        · rw [if_pos c129] at h
          refine tm_iconst (v := (-1)) dX11_part_36 (by decide) ?_
          obtain ⟨rfl, rfl⟩ := pj2 h
          exact tm_iret rfl dX11_part_37
        · rw [if_neg c129] at h
          refine tm_iload_n dX11_part_24 rfl rfl ?_
          refine tm_iconst (v := 5) dX11_part_25 (by decide) ?_
          refine tm_icmp_ne (tgt := 38) dX11_part_26 (by decide) (fun c130 => ?_) (fun c130 => ?_)
          · rw [if_neg c130] at h
            refine tm_aload_n dX11_part_38 rfl rfl ?_
            refine tm_get kX11 rfl (j := 2) (by decide) wfX11_202 dX11_part_39 (v := ti (mI M 11 0 2)) rfl ?_
            refine tm_bipush (v := 12) dX11_part_42 (by decide) ?_
            refine tm_icmp_ne (tgt := 50) dX11_part_44 (by decide) (fun c131 => ?_) (fun c131 => ?_)
            · rw [if_neg c131] at h
              refine tm_iload_n dX11_part_50 rfl rfl ?_
              refine tm_iconst (v := 5) dX11_part_51 (by decide) ?_
              refine tm_icmp_ne (tgt := 66) dX11_part_52 (by decide) (fun c132 => ?_) (fun c132 => ?_)
              · rw [if_neg c132] at h
                refine tm_aload_n dX11_part_66 rfl rfl ?_
                refine tm_get kX11 rfl (j := 3) (by decide) wfX11_13 dX11_part_67 (v := tr 1203 0) rfl ?_
                refine tm_aload_n dX11_part_70 rfl rfl ?_
                refine tm_get kX11 rfl (j := 2) (by decide) wfX11_202 dX11_part_71 (v := ti (mI M 11 0 2)) rfl ?_
                refine tm_iload_n dX11_part_74 rfl rfl ?_
                obtain ⟨b133, h⟩ := chk_some h
                obtain ⟨M134, eM134, h⟩ := bnd_some h
                refine tm_iast rfl dX11_part_75 (inb_vp b133) ?_
                refine tm_nmM eM134 ?_
                refine tm_aload_n dX11_part_76 rfl rfl ?_
                refine tm_get kX11 rfl (j := 4) (by decide) wfX11_16 dX11_part_77 (v := tr 1204 0) rfl ?_
                refine tm_aload_n dX11_part_80 rfl rfl ?_
                refine tm_get kX11 rfl (j := 2) (by decide) wfX11_202 dX11_part_81 (v := ti (mI M134 11 0 2)) rfl ?_
                refine tm_lload_n dX11_part_84 rfl rfl ?_
                obtain ⟨b135, h⟩ := chk_some h
                obtain ⟨M136, eM136, h⟩ := bnd_some h
                refine tm_last rfl dX11_part_85 (inb_vp b135) ?_
                refine tm_nmM eM136 ?_
                refine tm_aload_n dX11_part_86 rfl rfl ?_
                refine tm_get kX11 rfl (j := 5) (by decide) wfX11_20 dX11_part_87 (v := tr 1205 0) rfl ?_
                refine tm_aload_n dX11_part_90 rfl rfl ?_
                refine tm_get kX11 rfl (j := 2) (by decide) wfX11_202 dX11_part_91 (v := ti (mI M136 11 0 2)) rfl ?_
                refine tm_iload_n dX11_part_94 rfl rfl ?_
                refine tm_iconst (v := 4) dX11_part_95 (by decide) ?_
                obtain ⟨x138, hE139, h⟩ := obind_some h
                have J140 : TW g iX11_part rmX11_part 0 0 (some (ti v)) Mz 0 0 105 [(0, tr 11 0), (1, ti a1), (4, ti a3)] [ti x138, ti (mI M136 11 0 2), tr 1205 0] M136 := by
                  obtain ⟨b141, h⟩ := chk_some h
                  obtain ⟨M142, eM142, h⟩ := bnd_some h
                  refine tm_iast rfl dX11_part_105 (inb_vp b141) ?_
                  refine tm_nmM eM142 ?_
                  refine tm_aload_n dX11_part_106 rfl rfl ?_
                  refine tm_get kX11 rfl (j := 6) (by decide) wfX11_23 dX11_part_107 (v := tr 1206 0) rfl ?_
                  refine tm_aload_n dX11_part_110 rfl rfl ?_
                  refine tm_get kX11 rfl (j := 2) (by decide) wfX11_202 dX11_part_111 (v := ti (mI M142 11 0 2)) rfl ?_
                  refine tm_iload_n dX11_part_114 rfl rfl ?_
                  refine tm_iconst (v := 5) dX11_part_115 (by decide) ?_
                  obtain ⟨x144, hE145, h⟩ := obind_some h
                  have J146 : TW g iX11_part rmX11_part 0 0 (some (ti v)) Mz 0 0 126 [(0, tr 11 0)] [ti x144, ti (mI M142 11 0 2), tr 1206 0] M142 := by
                    obtain ⟨b147, h⟩ := chk_some h
                    obtain ⟨M148, eM148, h⟩ := bnd_some h
                    refine tm_iast rfl dX11_part_126 (inb_vp b147) ?_
                    refine tm_nmM eM148 ?_
                    refine tm_iconst (v := 0) dX11_part_127 (by decide) ?_
                    refine tm_istore (lc' := [(5, ti 0), (0, tr 11 0)]) dX11_part_128 (by decide) rfl ?_
                    obtain ⟨w149, hE150, h⟩ := obind_some h
                    refine tm_lcp [0, 5] rfl ?_
                    refine okX11_part_l130  FU 0 M148 _ hE150 (fun M151 e => ?_)
                    subst e
                    refine tm_aload_n dX11_part_159 rfl rfl ?_
                    refine tm_get kX11 rfl (j := 10) (by decide) wfX11_35 dX11_part_160 (v := tr 1210 0) rfl ?_
                    refine tm_aload_n dX11_part_163 rfl rfl ?_
                    refine tm_get kX11 rfl (j := 2) (by decide) wfX11_202 dX11_part_164 (v := ti (mI M151 11 0 2)) rfl ?_
                    refine tm_iconst (v := 1) dX11_part_167 (by decide) ?_
                    obtain ⟨b152, h⟩ := chk_some h
                    obtain ⟨M153, eM153, h⟩ := bnd_some h
                    refine tm_iast rfl dX11_part_168 (inb_vp b152) ?_
                    refine tm_nmM eM153 ?_
                    refine tm_aload_n dX11_part_169 rfl rfl ?_
                    refine tm_get kX11 rfl (j := 11) (by decide) wfX11_38 dX11_part_170 (v := tr 1211 0) rfl ?_
                    refine tm_aload_n dX11_part_173 rfl rfl ?_
                    refine tm_get kX11 rfl (j := 2) (by decide) wfX11_202 dX11_part_174 (v := ti (mI M153 11 0 2)) rfl ?_
                    refine tm_iconst (v := 0) dX11_part_177 (by decide) ?_
                    obtain ⟨b154, h⟩ := chk_some h
                    obtain ⟨M155, eM155, h⟩ := bnd_some h
                    refine tm_iast rfl dX11_part_178 (inb_vp b154) ?_
                    refine tm_nmM eM155 ?_
                    refine tm_aload_n dX11_part_179 rfl rfl ?_
                    refine tm_dup dX11_part_180 rfl ?_
                    refine tm_get kX11 rfl (j := 2) (by decide) wfX11_202 dX11_part_181 (v := ti (mI M155 11 0 2)) rfl ?_
                    refine tm_iconst (v := 1) dX11_part_184 (by decide) ?_
                    refine tm_iadd dX11_part_185 ?_
                    obtain ⟨M156, eM156, h⟩ := bnd_some h
                    refine tm_put kX11 rfl (j := 2) (by decide) wfX11_202 rfl dX11_part_186 (fun _ => ⟨rfl, rfl⟩) (tPut_I ((mI M155 11 0 2) + 1) rfl) ?_
                    refine tm_nmM eM156 ?_
                    refine tm_aload_n dX11_part_189 rfl rfl ?_
                    obtain ⟨M158, hc157, h⟩ := obind_some h
                    refine tm_callV kX11 rfl (avs := []) (st := []) (okX11_changes hc157) wcX11_225.1 wcX11_225.2.1 wcX11_225.2.2.1 wcX11_225.2.2.2 ⟨rfl, rfl, Nat.le_of_ble_eq_true rfl, Nat.le_of_ble_eq_true rfl⟩ rfl (Nat.le_of_ble_eq_true rfl) ⟨Nat.zero_le _, Nat.zero_le _⟩ dX11_part_190 ?_
                    refine tm_aload_n dX11_part_193 rfl rfl ?_
                    refine tm_get kX11 rfl (j := 2) (by decide) wfX11_202 dX11_part_194 (v := ti (mI M158 11 0 2)) rfl ?_
                    refine tm_iconst (v := 1) dX11_part_197 (by decide) ?_
                    refine tm_isub dX11_part_198 ?_
                    obtain ⟨rfl, rfl⟩ := pj2 h
                    exact tm_iret rfl dX11_part_199
                  refine tm_icmp_ne (tgt := 124) dX11_part_116 (by decide) (fun c143 => ?_) (fun c143 => ?_)
                  · rw [if_neg c143] at hE145
                    refine tm_bipush (v := (-9)) dX11_part_124 (by decide) ?_
                    obtain rfl := Option.some.inj hE145
                    refine tm_lcp [0] rfl ?_
                    exact J146
                  · rw [if_pos c143] at hE145
                    refine tm_iload dX11_part_119 rfl ?_
                    refine tm_goto (tgt := 126) dX11_part_121 (by decide) ?_
                    obtain rfl := Option.some.inj hE145
                    refine tm_lcp [0] rfl ?_
                    exact J146
                refine tm_icmp_ne (tgt := 104) dX11_part_96 (by decide) (fun c137 => ?_) (fun c137 => ?_)
                · rw [if_neg c137] at hE139
                  refine tm_iconst (v := 1) dX11_part_104 (by decide) ?_
                  obtain rfl := Option.some.inj hE139
                  refine tm_lcp [0, 1, 4] rfl ?_
                  exact J140
                · rw [if_pos c137] at hE139
                  refine tm_iload dX11_part_99 rfl ?_
                  refine tm_goto (tgt := 105) dX11_part_101 (by decide) ?_
                  obtain rfl := Option.some.inj hE139
                  refine tm_lcp [0, 1, 4] rfl ?_
                  exact J140
              · rw [if_pos c132] at h
                refine tm_iload dX11_part_55 rfl ?_
                refine tm_if_ge (tgt := 66) dX11_part_57 (by decide) (fun c159 => ?_) (fun c159 => ?_)
                · rw [if_pos c159] at h
                  refine tm_aload_n dX11_part_66 rfl rfl ?_
                  refine tm_get kX11 rfl (j := 3) (by decide) wfX11_13 dX11_part_67 (v := tr 1203 0) rfl ?_
                  refine tm_aload_n dX11_part_70 rfl rfl ?_
                  refine tm_get kX11 rfl (j := 2) (by decide) wfX11_202 dX11_part_71 (v := ti (mI M 11 0 2)) rfl ?_
                  refine tm_iload_n dX11_part_74 rfl rfl ?_
                  obtain ⟨b160, h⟩ := chk_some h
                  obtain ⟨M161, eM161, h⟩ := bnd_some h
                  refine tm_iast rfl dX11_part_75 (inb_vp b160) ?_
                  refine tm_nmM eM161 ?_
                  refine tm_aload_n dX11_part_76 rfl rfl ?_
                  refine tm_get kX11 rfl (j := 4) (by decide) wfX11_16 dX11_part_77 (v := tr 1204 0) rfl ?_
                  refine tm_aload_n dX11_part_80 rfl rfl ?_
                  refine tm_get kX11 rfl (j := 2) (by decide) wfX11_202 dX11_part_81 (v := ti (mI M161 11 0 2)) rfl ?_
                  refine tm_lload_n dX11_part_84 rfl rfl ?_
                  obtain ⟨b162, h⟩ := chk_some h
                  obtain ⟨M163, eM163, h⟩ := bnd_some h
                  refine tm_last rfl dX11_part_85 (inb_vp b162) ?_
                  refine tm_nmM eM163 ?_
                  refine tm_aload_n dX11_part_86 rfl rfl ?_
                  refine tm_get kX11 rfl (j := 5) (by decide) wfX11_20 dX11_part_87 (v := tr 1205 0) rfl ?_
                  refine tm_aload_n dX11_part_90 rfl rfl ?_
                  refine tm_get kX11 rfl (j := 2) (by decide) wfX11_202 dX11_part_91 (v := ti (mI M163 11 0 2)) rfl ?_
                  refine tm_iload_n dX11_part_94 rfl rfl ?_
                  refine tm_iconst (v := 4) dX11_part_95 (by decide) ?_
                  obtain ⟨x165, hE166, h⟩ := obind_some h
                  have J167 : TW g iX11_part rmX11_part 0 0 (some (ti v)) Mz 0 0 105 [(0, tr 11 0), (1, ti a1), (4, ti a3)] [ti x165, ti (mI M163 11 0 2), tr 1205 0] M163 := by
                    obtain ⟨b168, h⟩ := chk_some h
                    obtain ⟨M169, eM169, h⟩ := bnd_some h
                    refine tm_iast rfl dX11_part_105 (inb_vp b168) ?_
                    refine tm_nmM eM169 ?_
                    refine tm_aload_n dX11_part_106 rfl rfl ?_
                    refine tm_get kX11 rfl (j := 6) (by decide) wfX11_23 dX11_part_107 (v := tr 1206 0) rfl ?_
                    refine tm_aload_n dX11_part_110 rfl rfl ?_
                    refine tm_get kX11 rfl (j := 2) (by decide) wfX11_202 dX11_part_111 (v := ti (mI M169 11 0 2)) rfl ?_
                    refine tm_iload_n dX11_part_114 rfl rfl ?_
                    refine tm_iconst (v := 5) dX11_part_115 (by decide) ?_
                    obtain ⟨x171, hE172, h⟩ := obind_some h
                    have J173 : TW g iX11_part rmX11_part 0 0 (some (ti v)) Mz 0 0 126 [(0, tr 11 0)] [ti x171, ti (mI M169 11 0 2), tr 1206 0] M169 := by
                      obtain ⟨b174, h⟩ := chk_some h
                      obtain ⟨M175, eM175, h⟩ := bnd_some h
                      refine tm_iast rfl dX11_part_126 (inb_vp b174) ?_
                      refine tm_nmM eM175 ?_
                      refine tm_iconst (v := 0) dX11_part_127 (by decide) ?_
                      refine tm_istore (lc' := [(5, ti 0), (0, tr 11 0)]) dX11_part_128 (by decide) rfl ?_
                      obtain ⟨w176, hE177, h⟩ := obind_some h
                      refine tm_lcp [0, 5] rfl ?_
                      refine okX11_part_l130  FU 0 M175 _ hE177 (fun M178 e => ?_)
                      subst e
                      refine tm_aload_n dX11_part_159 rfl rfl ?_
                      refine tm_get kX11 rfl (j := 10) (by decide) wfX11_35 dX11_part_160 (v := tr 1210 0) rfl ?_
                      refine tm_aload_n dX11_part_163 rfl rfl ?_
                      refine tm_get kX11 rfl (j := 2) (by decide) wfX11_202 dX11_part_164 (v := ti (mI M178 11 0 2)) rfl ?_
                      refine tm_iconst (v := 1) dX11_part_167 (by decide) ?_
                      obtain ⟨b179, h⟩ := chk_some h
                      obtain ⟨M180, eM180, h⟩ := bnd_some h
                      refine tm_iast rfl dX11_part_168 (inb_vp b179) ?_
                      refine tm_nmM eM180 ?_
                      refine tm_aload_n dX11_part_169 rfl rfl ?_
                      refine tm_get kX11 rfl (j := 11) (by decide) wfX11_38 dX11_part_170 (v := tr 1211 0) rfl ?_
                      refine tm_aload_n dX11_part_173 rfl rfl ?_
                      refine tm_get kX11 rfl (j := 2) (by decide) wfX11_202 dX11_part_174 (v := ti (mI M180 11 0 2)) rfl ?_
                      refine tm_iconst (v := 0) dX11_part_177 (by decide) ?_
                      obtain ⟨b181, h⟩ := chk_some h
                      obtain ⟨M182, eM182, h⟩ := bnd_some h
                      refine tm_iast rfl dX11_part_178 (inb_vp b181) ?_
                      refine tm_nmM eM182 ?_
                      refine tm_aload_n dX11_part_179 rfl rfl ?_
                      refine tm_dup dX11_part_180 rfl ?_
                      refine tm_get kX11 rfl (j := 2) (by decide) wfX11_202 dX11_part_181 (v := ti (mI M182 11 0 2)) rfl ?_
                      refine tm_iconst (v := 1) dX11_part_184 (by decide) ?_
                      refine tm_iadd dX11_part_185 ?_
                      obtain ⟨M183, eM183, h⟩ := bnd_some h
                      refine tm_put kX11 rfl (j := 2) (by decide) wfX11_202 rfl dX11_part_186 (fun _ => ⟨rfl, rfl⟩) (tPut_I ((mI M182 11 0 2) + 1) rfl) ?_
                      refine tm_nmM eM183 ?_
                      refine tm_aload_n dX11_part_189 rfl rfl ?_
                      obtain ⟨M185, hc184, h⟩ := obind_some h
                      refine tm_callV kX11 rfl (avs := []) (st := []) (okX11_changes hc184) wcX11_225.1 wcX11_225.2.1 wcX11_225.2.2.1 wcX11_225.2.2.2 ⟨rfl, rfl, Nat.le_of_ble_eq_true rfl, Nat.le_of_ble_eq_true rfl⟩ rfl (Nat.le_of_ble_eq_true rfl) ⟨Nat.zero_le _, Nat.zero_le _⟩ dX11_part_190 ?_
                      refine tm_aload_n dX11_part_193 rfl rfl ?_
                      refine tm_get kX11 rfl (j := 2) (by decide) wfX11_202 dX11_part_194 (v := ti (mI M185 11 0 2)) rfl ?_
                      refine tm_iconst (v := 1) dX11_part_197 (by decide) ?_
                      refine tm_isub dX11_part_198 ?_
                      obtain ⟨rfl, rfl⟩ := pj2 h
                      exact tm_iret rfl dX11_part_199
                    refine tm_icmp_ne (tgt := 124) dX11_part_116 (by decide) (fun c170 => ?_) (fun c170 => ?_)
                    · rw [if_neg c170] at hE172
                      refine tm_bipush (v := (-9)) dX11_part_124 (by decide) ?_
                      obtain rfl := Option.some.inj hE172
                      refine tm_lcp [0] rfl ?_
                      exact J173
                    · rw [if_pos c170] at hE172
                      refine tm_iload dX11_part_119 rfl ?_
                      refine tm_goto (tgt := 126) dX11_part_121 (by decide) ?_
                      obtain rfl := Option.some.inj hE172
                      refine tm_lcp [0] rfl ?_
                      exact J173
                  refine tm_icmp_ne (tgt := 104) dX11_part_96 (by decide) (fun c164 => ?_) (fun c164 => ?_)
                  · rw [if_neg c164] at hE166
                    refine tm_iconst (v := 1) dX11_part_104 (by decide) ?_
                    obtain rfl := Option.some.inj hE166
                    refine tm_lcp [0, 1, 4] rfl ?_
                    exact J167
                  · rw [if_pos c164] at hE166
                    refine tm_iload dX11_part_99 rfl ?_
                    refine tm_goto (tgt := 105) dX11_part_101 (by decide) ?_
                    obtain rfl := Option.some.inj hE166
                    refine tm_lcp [0, 1, 4] rfl ?_
                    exact J167
                · rw [if_neg c159] at h
                  refine tm_aload_n dX11_part_60 rfl rfl ?_
                  refine tm_iconst (v := 5) dX11_part_61 (by decide) ?_
                  obtain ⟨⟨x186, M188⟩, hc187, h⟩ := obind_some h
                  dsimp only at h
                  refine tm_callV kX11 rfl (avs := [ti 5]) (st := []) (okX11_meets hc187) wcX11_221.1 wcX11_221.2.1 wcX11_221.2.2.1 wcX11_221.2.2.2 ⟨rfl, rfl, Nat.le_of_ble_eq_true rfl, Nat.le_of_ble_eq_true rfl⟩ rfl (Nat.le_of_ble_eq_true rfl) ⟨Nat.zero_le _, Nat.zero_le _⟩ dX11_part_62 ?_
                  obtain ⟨rfl, rfl⟩ := pj2 h
                  exact tm_iret rfl dX11_part_65
            · rw [if_pos c131] at h
              refine tm_bipush (v := (-2)) dX11_part_47 (by decide) ?_
              obtain ⟨rfl, rfl⟩ := pj2 h
              exact tm_iret rfl dX11_part_49
          · rw [if_pos c130] at h
            refine tm_iload dX11_part_29 rfl ?_
            refine tm_bipush (v := 12) dX11_part_31 (by decide) ?_
            refine tm_icmp_le (tgt := 38) dX11_part_33 (by decide) (fun c189 => ?_) (fun c189 => ?_)
            · rw [if_pos c189] at h
              refine tm_aload_n dX11_part_38 rfl rfl ?_
              refine tm_get kX11 rfl (j := 2) (by decide) wfX11_202 dX11_part_39 (v := ti (mI M 11 0 2)) rfl ?_
              refine tm_bipush (v := 12) dX11_part_42 (by decide) ?_
              refine tm_icmp_ne (tgt := 50) dX11_part_44 (by decide) (fun c190 => ?_) (fun c190 => ?_)
              · rw [if_neg c190] at h
                refine tm_iload_n dX11_part_50 rfl rfl ?_
                refine tm_iconst (v := 5) dX11_part_51 (by decide) ?_
                refine tm_icmp_ne (tgt := 66) dX11_part_52 (by decide) (fun c191 => ?_) (fun c191 => ?_)
                · rw [if_neg c191] at h
                  refine tm_aload_n dX11_part_66 rfl rfl ?_
                  refine tm_get kX11 rfl (j := 3) (by decide) wfX11_13 dX11_part_67 (v := tr 1203 0) rfl ?_
                  refine tm_aload_n dX11_part_70 rfl rfl ?_
                  refine tm_get kX11 rfl (j := 2) (by decide) wfX11_202 dX11_part_71 (v := ti (mI M 11 0 2)) rfl ?_
                  refine tm_iload_n dX11_part_74 rfl rfl ?_
                  obtain ⟨b192, h⟩ := chk_some h
                  obtain ⟨M193, eM193, h⟩ := bnd_some h
                  refine tm_iast rfl dX11_part_75 (inb_vp b192) ?_
                  refine tm_nmM eM193 ?_
                  refine tm_aload_n dX11_part_76 rfl rfl ?_
                  refine tm_get kX11 rfl (j := 4) (by decide) wfX11_16 dX11_part_77 (v := tr 1204 0) rfl ?_
                  refine tm_aload_n dX11_part_80 rfl rfl ?_
                  refine tm_get kX11 rfl (j := 2) (by decide) wfX11_202 dX11_part_81 (v := ti (mI M193 11 0 2)) rfl ?_
                  refine tm_lload_n dX11_part_84 rfl rfl ?_
                  obtain ⟨b194, h⟩ := chk_some h
                  obtain ⟨M195, eM195, h⟩ := bnd_some h
                  refine tm_last rfl dX11_part_85 (inb_vp b194) ?_
                  refine tm_nmM eM195 ?_
                  refine tm_aload_n dX11_part_86 rfl rfl ?_
                  refine tm_get kX11 rfl (j := 5) (by decide) wfX11_20 dX11_part_87 (v := tr 1205 0) rfl ?_
                  refine tm_aload_n dX11_part_90 rfl rfl ?_
                  refine tm_get kX11 rfl (j := 2) (by decide) wfX11_202 dX11_part_91 (v := ti (mI M195 11 0 2)) rfl ?_
                  refine tm_iload_n dX11_part_94 rfl rfl ?_
                  refine tm_iconst (v := 4) dX11_part_95 (by decide) ?_
                  obtain ⟨x197, hE198, h⟩ := obind_some h
                  have J199 : TW g iX11_part rmX11_part 0 0 (some (ti v)) Mz 0 0 105 [(0, tr 11 0), (1, ti a1), (4, ti a3)] [ti x197, ti (mI M195 11 0 2), tr 1205 0] M195 := by
                    obtain ⟨b200, h⟩ := chk_some h
                    obtain ⟨M201, eM201, h⟩ := bnd_some h
                    refine tm_iast rfl dX11_part_105 (inb_vp b200) ?_
                    refine tm_nmM eM201 ?_
                    refine tm_aload_n dX11_part_106 rfl rfl ?_
                    refine tm_get kX11 rfl (j := 6) (by decide) wfX11_23 dX11_part_107 (v := tr 1206 0) rfl ?_
                    refine tm_aload_n dX11_part_110 rfl rfl ?_
                    refine tm_get kX11 rfl (j := 2) (by decide) wfX11_202 dX11_part_111 (v := ti (mI M201 11 0 2)) rfl ?_
                    refine tm_iload_n dX11_part_114 rfl rfl ?_
                    refine tm_iconst (v := 5) dX11_part_115 (by decide) ?_
                    obtain ⟨x203, hE204, h⟩ := obind_some h
                    have J205 : TW g iX11_part rmX11_part 0 0 (some (ti v)) Mz 0 0 126 [(0, tr 11 0)] [ti x203, ti (mI M201 11 0 2), tr 1206 0] M201 := by
                      obtain ⟨b206, h⟩ := chk_some h
                      obtain ⟨M207, eM207, h⟩ := bnd_some h
                      refine tm_iast rfl dX11_part_126 (inb_vp b206) ?_
                      refine tm_nmM eM207 ?_
                      refine tm_iconst (v := 0) dX11_part_127 (by decide) ?_
                      refine tm_istore (lc' := [(5, ti 0), (0, tr 11 0)]) dX11_part_128 (by decide) rfl ?_
                      obtain ⟨w208, hE209, h⟩ := obind_some h
                      refine tm_lcp [0, 5] rfl ?_
                      refine okX11_part_l130  FU 0 M207 _ hE209 (fun M210 e => ?_)
                      subst e
                      refine tm_aload_n dX11_part_159 rfl rfl ?_
                      refine tm_get kX11 rfl (j := 10) (by decide) wfX11_35 dX11_part_160 (v := tr 1210 0) rfl ?_
                      refine tm_aload_n dX11_part_163 rfl rfl ?_
                      refine tm_get kX11 rfl (j := 2) (by decide) wfX11_202 dX11_part_164 (v := ti (mI M210 11 0 2)) rfl ?_
                      refine tm_iconst (v := 1) dX11_part_167 (by decide) ?_
                      obtain ⟨b211, h⟩ := chk_some h
                      obtain ⟨M212, eM212, h⟩ := bnd_some h
                      refine tm_iast rfl dX11_part_168 (inb_vp b211) ?_
                      refine tm_nmM eM212 ?_
                      refine tm_aload_n dX11_part_169 rfl rfl ?_
                      refine tm_get kX11 rfl (j := 11) (by decide) wfX11_38 dX11_part_170 (v := tr 1211 0) rfl ?_
                      refine tm_aload_n dX11_part_173 rfl rfl ?_
                      refine tm_get kX11 rfl (j := 2) (by decide) wfX11_202 dX11_part_174 (v := ti (mI M212 11 0 2)) rfl ?_
                      refine tm_iconst (v := 0) dX11_part_177 (by decide) ?_
                      obtain ⟨b213, h⟩ := chk_some h
                      obtain ⟨M214, eM214, h⟩ := bnd_some h
                      refine tm_iast rfl dX11_part_178 (inb_vp b213) ?_
                      refine tm_nmM eM214 ?_
                      refine tm_aload_n dX11_part_179 rfl rfl ?_
                      refine tm_dup dX11_part_180 rfl ?_
                      refine tm_get kX11 rfl (j := 2) (by decide) wfX11_202 dX11_part_181 (v := ti (mI M214 11 0 2)) rfl ?_
                      refine tm_iconst (v := 1) dX11_part_184 (by decide) ?_
                      refine tm_iadd dX11_part_185 ?_
                      obtain ⟨M215, eM215, h⟩ := bnd_some h
                      refine tm_put kX11 rfl (j := 2) (by decide) wfX11_202 rfl dX11_part_186 (fun _ => ⟨rfl, rfl⟩) (tPut_I ((mI M214 11 0 2) + 1) rfl) ?_
                      refine tm_nmM eM215 ?_
                      refine tm_aload_n dX11_part_189 rfl rfl ?_
                      obtain ⟨M217, hc216, h⟩ := obind_some h
                      refine tm_callV kX11 rfl (avs := []) (st := []) (okX11_changes hc216) wcX11_225.1 wcX11_225.2.1 wcX11_225.2.2.1 wcX11_225.2.2.2 ⟨rfl, rfl, Nat.le_of_ble_eq_true rfl, Nat.le_of_ble_eq_true rfl⟩ rfl (Nat.le_of_ble_eq_true rfl) ⟨Nat.zero_le _, Nat.zero_le _⟩ dX11_part_190 ?_
                      refine tm_aload_n dX11_part_193 rfl rfl ?_
                      refine tm_get kX11 rfl (j := 2) (by decide) wfX11_202 dX11_part_194 (v := ti (mI M217 11 0 2)) rfl ?_
                      refine tm_iconst (v := 1) dX11_part_197 (by decide) ?_
                      refine tm_isub dX11_part_198 ?_
                      obtain ⟨rfl, rfl⟩ := pj2 h
                      exact tm_iret rfl dX11_part_199
                    refine tm_icmp_ne (tgt := 124) dX11_part_116 (by decide) (fun c202 => ?_) (fun c202 => ?_)
                    · rw [if_neg c202] at hE204
                      refine tm_bipush (v := (-9)) dX11_part_124 (by decide) ?_
                      obtain rfl := Option.some.inj hE204
                      refine tm_lcp [0] rfl ?_
                      exact J205
                    · rw [if_pos c202] at hE204
                      refine tm_iload dX11_part_119 rfl ?_
                      refine tm_goto (tgt := 126) dX11_part_121 (by decide) ?_
                      obtain rfl := Option.some.inj hE204
                      refine tm_lcp [0] rfl ?_
                      exact J205
                  refine tm_icmp_ne (tgt := 104) dX11_part_96 (by decide) (fun c196 => ?_) (fun c196 => ?_)
                  · rw [if_neg c196] at hE198
                    refine tm_iconst (v := 1) dX11_part_104 (by decide) ?_
                    obtain rfl := Option.some.inj hE198
                    refine tm_lcp [0, 1, 4] rfl ?_
                    exact J199
                  · rw [if_pos c196] at hE198
                    refine tm_iload dX11_part_99 rfl ?_
                    refine tm_goto (tgt := 105) dX11_part_101 (by decide) ?_
                    obtain rfl := Option.some.inj hE198
                    refine tm_lcp [0, 1, 4] rfl ?_
                    exact J199
                · rw [if_pos c191] at h
                  refine tm_iload dX11_part_55 rfl ?_
                  refine tm_if_ge (tgt := 66) dX11_part_57 (by decide) (fun c218 => ?_) (fun c218 => ?_)
                  · rw [if_pos c218] at h
                    refine tm_aload_n dX11_part_66 rfl rfl ?_
                    refine tm_get kX11 rfl (j := 3) (by decide) wfX11_13 dX11_part_67 (v := tr 1203 0) rfl ?_
                    refine tm_aload_n dX11_part_70 rfl rfl ?_
                    refine tm_get kX11 rfl (j := 2) (by decide) wfX11_202 dX11_part_71 (v := ti (mI M 11 0 2)) rfl ?_
                    refine tm_iload_n dX11_part_74 rfl rfl ?_
                    obtain ⟨b219, h⟩ := chk_some h
                    obtain ⟨M220, eM220, h⟩ := bnd_some h
                    refine tm_iast rfl dX11_part_75 (inb_vp b219) ?_
                    refine tm_nmM eM220 ?_
                    refine tm_aload_n dX11_part_76 rfl rfl ?_
                    refine tm_get kX11 rfl (j := 4) (by decide) wfX11_16 dX11_part_77 (v := tr 1204 0) rfl ?_
                    refine tm_aload_n dX11_part_80 rfl rfl ?_
                    refine tm_get kX11 rfl (j := 2) (by decide) wfX11_202 dX11_part_81 (v := ti (mI M220 11 0 2)) rfl ?_
                    refine tm_lload_n dX11_part_84 rfl rfl ?_
                    obtain ⟨b221, h⟩ := chk_some h
                    obtain ⟨M222, eM222, h⟩ := bnd_some h
                    refine tm_last rfl dX11_part_85 (inb_vp b221) ?_
                    refine tm_nmM eM222 ?_
                    refine tm_aload_n dX11_part_86 rfl rfl ?_
                    refine tm_get kX11 rfl (j := 5) (by decide) wfX11_20 dX11_part_87 (v := tr 1205 0) rfl ?_
                    refine tm_aload_n dX11_part_90 rfl rfl ?_
                    refine tm_get kX11 rfl (j := 2) (by decide) wfX11_202 dX11_part_91 (v := ti (mI M222 11 0 2)) rfl ?_
                    refine tm_iload_n dX11_part_94 rfl rfl ?_
                    refine tm_iconst (v := 4) dX11_part_95 (by decide) ?_
                    obtain ⟨x224, hE225, h⟩ := obind_some h
                    have J226 : TW g iX11_part rmX11_part 0 0 (some (ti v)) Mz 0 0 105 [(0, tr 11 0), (1, ti a1), (4, ti a3)] [ti x224, ti (mI M222 11 0 2), tr 1205 0] M222 := by
                      obtain ⟨b227, h⟩ := chk_some h
                      obtain ⟨M228, eM228, h⟩ := bnd_some h
                      refine tm_iast rfl dX11_part_105 (inb_vp b227) ?_
                      refine tm_nmM eM228 ?_
                      refine tm_aload_n dX11_part_106 rfl rfl ?_
                      refine tm_get kX11 rfl (j := 6) (by decide) wfX11_23 dX11_part_107 (v := tr 1206 0) rfl ?_
                      refine tm_aload_n dX11_part_110 rfl rfl ?_
                      refine tm_get kX11 rfl (j := 2) (by decide) wfX11_202 dX11_part_111 (v := ti (mI M228 11 0 2)) rfl ?_
                      refine tm_iload_n dX11_part_114 rfl rfl ?_
                      refine tm_iconst (v := 5) dX11_part_115 (by decide) ?_
                      obtain ⟨x230, hE231, h⟩ := obind_some h
                      have J232 : TW g iX11_part rmX11_part 0 0 (some (ti v)) Mz 0 0 126 [(0, tr 11 0)] [ti x230, ti (mI M228 11 0 2), tr 1206 0] M228 := by
                        obtain ⟨b233, h⟩ := chk_some h
                        obtain ⟨M234, eM234, h⟩ := bnd_some h
                        refine tm_iast rfl dX11_part_126 (inb_vp b233) ?_
                        refine tm_nmM eM234 ?_
                        refine tm_iconst (v := 0) dX11_part_127 (by decide) ?_
                        refine tm_istore (lc' := [(5, ti 0), (0, tr 11 0)]) dX11_part_128 (by decide) rfl ?_
                        obtain ⟨w235, hE236, h⟩ := obind_some h
                        refine tm_lcp [0, 5] rfl ?_
                        refine okX11_part_l130  FU 0 M234 _ hE236 (fun M237 e => ?_)
                        subst e
                        refine tm_aload_n dX11_part_159 rfl rfl ?_
                        refine tm_get kX11 rfl (j := 10) (by decide) wfX11_35 dX11_part_160 (v := tr 1210 0) rfl ?_
                        refine tm_aload_n dX11_part_163 rfl rfl ?_
                        refine tm_get kX11 rfl (j := 2) (by decide) wfX11_202 dX11_part_164 (v := ti (mI M237 11 0 2)) rfl ?_
                        refine tm_iconst (v := 1) dX11_part_167 (by decide) ?_
                        obtain ⟨b238, h⟩ := chk_some h
                        obtain ⟨M239, eM239, h⟩ := bnd_some h
                        refine tm_iast rfl dX11_part_168 (inb_vp b238) ?_
                        refine tm_nmM eM239 ?_
                        refine tm_aload_n dX11_part_169 rfl rfl ?_
                        refine tm_get kX11 rfl (j := 11) (by decide) wfX11_38 dX11_part_170 (v := tr 1211 0) rfl ?_
                        refine tm_aload_n dX11_part_173 rfl rfl ?_
                        refine tm_get kX11 rfl (j := 2) (by decide) wfX11_202 dX11_part_174 (v := ti (mI M239 11 0 2)) rfl ?_
                        refine tm_iconst (v := 0) dX11_part_177 (by decide) ?_
                        obtain ⟨b240, h⟩ := chk_some h
                        obtain ⟨M241, eM241, h⟩ := bnd_some h
                        refine tm_iast rfl dX11_part_178 (inb_vp b240) ?_
                        refine tm_nmM eM241 ?_
                        refine tm_aload_n dX11_part_179 rfl rfl ?_
                        refine tm_dup dX11_part_180 rfl ?_
                        refine tm_get kX11 rfl (j := 2) (by decide) wfX11_202 dX11_part_181 (v := ti (mI M241 11 0 2)) rfl ?_
                        refine tm_iconst (v := 1) dX11_part_184 (by decide) ?_
                        refine tm_iadd dX11_part_185 ?_
                        obtain ⟨M242, eM242, h⟩ := bnd_some h
                        refine tm_put kX11 rfl (j := 2) (by decide) wfX11_202 rfl dX11_part_186 (fun _ => ⟨rfl, rfl⟩) (tPut_I ((mI M241 11 0 2) + 1) rfl) ?_
                        refine tm_nmM eM242 ?_
                        refine tm_aload_n dX11_part_189 rfl rfl ?_
                        obtain ⟨M244, hc243, h⟩ := obind_some h
                        refine tm_callV kX11 rfl (avs := []) (st := []) (okX11_changes hc243) wcX11_225.1 wcX11_225.2.1 wcX11_225.2.2.1 wcX11_225.2.2.2 ⟨rfl, rfl, Nat.le_of_ble_eq_true rfl, Nat.le_of_ble_eq_true rfl⟩ rfl (Nat.le_of_ble_eq_true rfl) ⟨Nat.zero_le _, Nat.zero_le _⟩ dX11_part_190 ?_
                        refine tm_aload_n dX11_part_193 rfl rfl ?_
                        refine tm_get kX11 rfl (j := 2) (by decide) wfX11_202 dX11_part_194 (v := ti (mI M244 11 0 2)) rfl ?_
                        refine tm_iconst (v := 1) dX11_part_197 (by decide) ?_
                        refine tm_isub dX11_part_198 ?_
                        obtain ⟨rfl, rfl⟩ := pj2 h
                        exact tm_iret rfl dX11_part_199
                      refine tm_icmp_ne (tgt := 124) dX11_part_116 (by decide) (fun c229 => ?_) (fun c229 => ?_)
                      · rw [if_neg c229] at hE231
                        refine tm_bipush (v := (-9)) dX11_part_124 (by decide) ?_
                        obtain rfl := Option.some.inj hE231
                        refine tm_lcp [0] rfl ?_
                        exact J232
                      · rw [if_pos c229] at hE231
                        refine tm_iload dX11_part_119 rfl ?_
                        refine tm_goto (tgt := 126) dX11_part_121 (by decide) ?_
                        obtain rfl := Option.some.inj hE231
                        refine tm_lcp [0] rfl ?_
                        exact J232
                    refine tm_icmp_ne (tgt := 104) dX11_part_96 (by decide) (fun c223 => ?_) (fun c223 => ?_)
                    · rw [if_neg c223] at hE225
                      refine tm_iconst (v := 1) dX11_part_104 (by decide) ?_
                      obtain rfl := Option.some.inj hE225
                      refine tm_lcp [0, 1, 4] rfl ?_
                      exact J226
                    · rw [if_pos c223] at hE225
                      refine tm_iload dX11_part_99 rfl ?_
                      refine tm_goto (tgt := 105) dX11_part_101 (by decide) ?_
                      obtain rfl := Option.some.inj hE225
                      refine tm_lcp [0, 1, 4] rfl ?_
                      exact J226
                  · rw [if_neg c218] at h
                    refine tm_aload_n dX11_part_60 rfl rfl ?_
                    refine tm_iconst (v := 5) dX11_part_61 (by decide) ?_
                    obtain ⟨⟨x245, M247⟩, hc246, h⟩ := obind_some h
                    dsimp only at h
                    refine tm_callV kX11 rfl (avs := [ti 5]) (st := []) (okX11_meets hc246) wcX11_221.1 wcX11_221.2.1 wcX11_221.2.2.1 wcX11_221.2.2.2 ⟨rfl, rfl, Nat.le_of_ble_eq_true rfl, Nat.le_of_ble_eq_true rfl⟩ rfl (Nat.le_of_ble_eq_true rfl) ⟨Nat.zero_le _, Nat.zero_le _⟩ dX11_part_62 ?_
                    obtain ⟨rfl, rfl⟩ := pj2 h
                    exact tm_iret rfl dX11_part_65
              · rw [if_pos c190] at h
                refine tm_bipush (v := (-2)) dX11_part_47 (by decide) ?_
                obtain ⟨rfl, rfl⟩ := pj2 h
                exact tm_iret rfl dX11_part_49
            · rw [if_neg c189] at h
              refine tm_iconst (v := (-1)) dX11_part_36 (by decide) ?_
              obtain ⟨rfl, rfl⟩ := pj2 h
              exact tm_iret rfl dX11_part_37
  exact TMet.of (by decide) (Nat.le_of_ble_eq_true rfl) key
