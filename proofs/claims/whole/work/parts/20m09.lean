theorem wfX11_169 : Cond.fieldLink RX11 169 "EvenFlowModel" "openAt" "[I" ∈ tgd := (tgd_t 1287 (by decide +kernel) (by decide +kernel))
theorem wfX11_172 : Cond.fieldLink RX11 172 "EvenFlowModel" "openLeft" "[I" ∈ tgd := (tgd_t 1288 (by decide +kernel) (by decide +kernel))
abbrev iX11_unfold : tY := (RX11, cX11_unfold, 5, some .int, "unfold")
abbrev rmX11_unfold : Room := { frames := 0, cells := 0, slots := 0, locals := 0 }
def fX11_unfold_l6  : Nat → Int32 → Int32 → Int32 → tM → Option (Int32 × tM)
  | 0, _, _, _, _ => none
  | n + 1, y1, y2, y3, M =>
    if (mI M 11 0 60) ≤ y3 then (
    some ((y1, M))
    ) else (
    chk (inb y3 (mN M 1259 0)) <|
    bnd (mI M 1259 0 (y3.toNatClampNeg)) fun x3 =>
    bnd (y3 + 1) fun x4 =>
    Option.bind (α := Int32 × Int32 × Int32 × tM) (
    if x3 ≤ 0 then (
    if 0 ≤ x3 then (
    chk (inb (y2 - 1) (mN M 1263 0)) <|
    if (mI M 1263 0 ((y2 - 1).toNatClampNeg)) ≤ 0 then (
    bnd (y2 + (-1)) fun x9 =>
    some ((y1, x9, x4, M))
    ) else (
    bnd (y2 - 1) fun x10 =>
    chk (inb x10 (mN M 1263 0)) <|
    chk (inb x10 (mN M 1263 0)) <|
    bnd (sI M 1263 0 (x10.toNatClampNeg) ((mI M 1263 0 (x10.toNatClampNeg)) - 1)) fun M13 =>
    chk (inb (y2 - 1) (mN M13 1262 0)) <|
    bnd (mI M13 1262 0 ((y2 - 1).toNatClampNeg)) fun x15 =>
    some ((y1, y2, x15, M13))
    )
    ) else (
    chk (inb y1 (mN M 1245 0)) <|
    bnd (sI M 1245 0 (y1.toNatClampNeg) ((-1) - x3)) fun M17 =>
    bnd (y1 + 1) fun x18 =>
    some ((x18, y2, x4, M17))
    )
    ) else (
    chk (inb y2 (mN M 1262 0)) <|
    bnd (sI M 1262 0 (y2.toNatClampNeg) x4) fun M20 =>
    chk (inb y2 (mN M20 1263 0)) <|
    bnd (sI M20 1263 0 (y2.toNatClampNeg) (x3 - 2)) fun M22 =>
    bnd (y2 + 1) fun x23 =>
    some ((y1, x23, x4, M22))
    )
    ) fun (x6, x7, x8, M9) =>
    fX11_unfold_l6 n x6 x7 x8 M9
    )
def fX11_unfold  (M : tM) : Option (Int32 × tM) :=
  Option.bind (fX11_unfold_l6 FU 0 0 0 M) fun (x26, M27) =>
  some ((x26, M27))
set_option maxHeartbeats 4000000 in
set_option maxRecDepth 100000 in
theorem okX11_unfold_l6 {g : tG}  {r : Option tV} {Mz : tM} : ∀ (n : Nat) (y1 : Int32) (y2 : Int32) (y3 : Int32) (M : tM) (w : Int32 × tM), fX11_unfold_l6 n y1 y2 y3 M = some w → (∀ (w1 : Int32) (Mw : tM), (w1, Mw) = w → TW g iX11_unfold rmX11_unfold 0 0 r Mz 0 0 115 [(1, ti w1)] [] Mw) → TW g iX11_unfold rmX11_unfold 0 0 r Mz 0 0 6 [(0, tr 11 0), (1, ti y1), (2, ti y2), (3, ti y3)] [] M := by
  intro n
  induction n with
  | zero => intro y1 y2 y3 M w h; cases h
  | succ n ih =>
    intro y1 y2 y3 M w h J
    rw [fX11_unfold_l6] at h
    refine tm_iload_n dX11_unfold_6 rfl rfl ?_
    refine tm_aload_n dX11_unfold_7 rfl rfl ?_
    refine tm_get kX11 rfl (j := 60) (by decide) wfX11_163 dX11_unfold_8 (v := ti (mI M 11 0 60)) rfl ?_
    refine tm_icmp_ge (tgt := 115) dX11_unfold_11 (by decide) (fun c1 => ?_) (fun c1 => ?_)
    · rw [if_pos c1] at h
      obtain rfl := Option.some.inj h
      refine tm_lcp [1] rfl ?_
      exact J _ _ rfl
    · rw [if_neg c1] at h
      refine tm_aload_n dX11_unfold_14 rfl rfl ?_
      refine tm_get kX11 rfl (j := 59) (by decide) wfX11_160 dX11_unfold_15 (v := tr 1259 0) rfl ?_
      refine tm_iload_n dX11_unfold_18 rfl rfl ?_
      obtain ⟨b2, h⟩ := chk_some h
      refine tm_iald rfl dX11_unfold_19 (inb_vp b2) ?_
      obtain ⟨x3, ex3, h⟩ := bnd_some h
      refine tm_nmI ex3 ?_
      refine tm_istore (lc' := [(4, ti x3), (0, tr 11 0), (1, ti y1), (2, ti y2), (3, ti y3)]) dX11_unfold_20 (by decide) rfl ?_
      obtain ⟨x4, ex4, h⟩ := bnd_some h
      refine tm_iinc (v := x4) (lc' := [(3, ti x4), (4, ti x3), (0, tr 11 0), (1, ti y1), (2, ti y2)]) dX11_unfold_22 rfl (by rw [ex4]; rfl) (by decide) rfl ?_
      refine tm_iload dX11_unfold_25 rfl ?_
      obtain ⟨⟨x6, x7, x8, M9⟩, hE10, h⟩ := obind_some h
      dsimp only at h
      have J11 : TW g iX11_unfold rmX11_unfold 0 0 r Mz 0 0 112 [(0, tr 11 0), (1, ti x6), (2, ti x7), (3, ti x8)] [] M9 := by
        refine tm_goto (tgt := 6) dX11_unfold_112 (by decide) ?_
        refine tm_lcp [0, 1, 2, 3] rfl ?_
        exact ih x6 x7 x8 M9 _ h J
      refine tm_if_le (tgt := 53) dX11_unfold_27 (by decide) (fun c5 => ?_) (fun c5 => ?_)
      · rw [if_pos c5] at hE10
        refine tm_iload dX11_unfold_53 rfl ?_
        refine tm_if_ge (tgt := 74) dX11_unfold_55 (by decide) (fun c6 => ?_) (fun c6 => ?_)
        · rw [if_pos c6] at hE10
          refine tm_aload_n dX11_unfold_74 rfl rfl ?_
          refine tm_get kX11 rfl (j := 63) (by decide) wfX11_172 dX11_unfold_75 (v := tr 1263 0) rfl ?_
          refine tm_iload_n dX11_unfold_78 rfl rfl ?_
          refine tm_iconst (v := 1) dX11_unfold_79 (by decide) ?_
          refine tm_isub dX11_unfold_80 ?_
          obtain ⟨b7, hE10⟩ := chk_some hE10
          refine tm_iald rfl dX11_unfold_81 (inb_vp b7) ?_
          refine tm_if_le (tgt := 109) dX11_unfold_82 (by decide) (fun c8 => ?_) (fun c8 => ?_)
          · rw [if_pos c8] at hE10
            obtain ⟨x9, ex9, hE10⟩ := bnd_some hE10
            refine tm_iinc (v := x9) (lc' := [(2, ti x9), (3, ti x4), (4, ti x3), (0, tr 11 0), (1, ti y1)]) dX11_unfold_109 rfl (by rw [ex9]; rfl) (by decide) rfl ?_
            obtain ⟨rfl, rfl, rfl, rfl⟩ := pj4 hE10
            refine tm_lcp [0, 1, 2, 3] rfl ?_
            exact J11
          · rw [if_neg c8] at hE10
            refine tm_aload_n dX11_unfold_85 rfl rfl ?_
            refine tm_get kX11 rfl (j := 63) (by decide) wfX11_172 dX11_unfold_86 (v := tr 1263 0) rfl ?_
            refine tm_iload_n dX11_unfold_89 rfl rfl ?_
            refine tm_iconst (v := 1) dX11_unfold_90 (by decide) ?_
            refine tm_isub dX11_unfold_91 ?_
            obtain ⟨x10, ex10, hE10⟩ := bnd_some hE10
            refine tm_nmI ex10 ?_
            refine tm_dup2 dX11_unfold_92 rfl rfl ?_
            obtain ⟨b11, hE10⟩ := chk_some hE10
            refine tm_iald rfl dX11_unfold_93 (inb_vp b11) ?_
            refine tm_iconst (v := 1) dX11_unfold_94 (by decide) ?_
            refine tm_isub dX11_unfold_95 ?_
            obtain ⟨b12, hE10⟩ := chk_some hE10
            obtain ⟨M13, eM13, hE10⟩ := bnd_some hE10
            refine tm_iast rfl dX11_unfold_96 (inb_vp b12) ?_
            refine tm_nmM eM13 ?_
            refine tm_aload_n dX11_unfold_97 rfl rfl ?_
            refine tm_get kX11 rfl (j := 62) (by decide) wfX11_169 dX11_unfold_98 (v := tr 1262 0) rfl ?_
            refine tm_iload_n dX11_unfold_101 rfl rfl ?_
            refine tm_iconst (v := 1) dX11_unfold_102 (by decide) ?_
            refine tm_isub dX11_unfold_103 ?_
            obtain ⟨b14, hE10⟩ := chk_some hE10
            refine tm_iald rfl dX11_unfold_104 (inb_vp b14) ?_
            obtain ⟨x15, ex15, hE10⟩ := bnd_some hE10
            refine tm_nmI ex15 ?_
            refine tm_istore_n (lc' := [(3, ti x15), (4, ti x3), (0, tr 11 0), (1, ti y1), (2, ti y2)]) dX11_unfold_105 rfl (by decide) rfl ?_
            refine tm_goto (tgt := 112) dX11_unfold_106 (by decide) ?_
            obtain ⟨rfl, rfl, rfl, rfl⟩ := pj4 hE10
            refine tm_lcp [0, 1, 2, 3] rfl ?_
            exact J11
        · rw [if_neg c6] at hE10
          refine tm_aload_n dX11_unfold_58 rfl rfl ?_
          refine tm_get kX11 rfl (j := 45) (by decide) wfX11_120 dX11_unfold_59 (v := tr 1245 0) rfl ?_
          refine tm_iload_n dX11_unfold_62 rfl rfl ?_
          refine tm_iconst (v := (-1)) dX11_unfold_63 (by decide) ?_
          refine tm_iload dX11_unfold_64 rfl ?_
          refine tm_isub dX11_unfold_66 ?_
          obtain ⟨b16, hE10⟩ := chk_some hE10
          obtain ⟨M17, eM17, hE10⟩ := bnd_some hE10
          refine tm_iast rfl dX11_unfold_67 (inb_vp b16) ?_
          refine tm_nmM eM17 ?_
          obtain ⟨x18, ex18, hE10⟩ := bnd_some hE10
          refine tm_iinc (v := x18) (lc' := [(1, ti x18), (3, ti x4), (4, ti x3), (0, tr 11 0), (2, ti y2)]) dX11_unfold_68 rfl (by rw [ex18]; rfl) (by decide) rfl ?_
          refine tm_goto (tgt := 112) dX11_unfold_71 (by decide) ?_
          obtain ⟨rfl, rfl, rfl, rfl⟩ := pj4 hE10
          refine tm_lcp [0, 1, 2, 3] rfl ?_
          exact J11
      · rw [if_neg c5] at hE10
        refine tm_aload_n dX11_unfold_30 rfl rfl ?_
        refine tm_get kX11 rfl (j := 62) (by decide) wfX11_169 dX11_unfold_31 (v := tr 1262 0) rfl ?_
        refine tm_iload_n dX11_unfold_34 rfl rfl ?_
        refine tm_iload_n dX11_unfold_35 rfl rfl ?_
        obtain ⟨b19, hE10⟩ := chk_some hE10
        obtain ⟨M20, eM20, hE10⟩ := bnd_some hE10
        refine tm_iast rfl dX11_unfold_36 (inb_vp b19) ?_
        refine tm_nmM eM20 ?_
        refine tm_aload_n dX11_unfold_37 rfl rfl ?_
        refine tm_get kX11 rfl (j := 63) (by decide) wfX11_172 dX11_unfold_38 (v := tr 1263 0) rfl ?_
        refine tm_iload_n dX11_unfold_41 rfl rfl ?_
        refine tm_iload dX11_unfold_42 rfl ?_
        refine tm_iconst (v := 2) dX11_unfold_44 (by decide) ?_
        refine tm_isub dX11_unfold_45 ?_
        obtain ⟨b21, hE10⟩ := chk_some hE10
        obtain ⟨M22, eM22, hE10⟩ := bnd_some hE10
        refine tm_iast rfl dX11_unfold_46 (inb_vp b21) ?_
        refine tm_nmM eM22 ?_
        obtain ⟨x23, ex23, hE10⟩ := bnd_some hE10
        refine tm_iinc (v := x23) (lc' := [(2, ti x23), (3, ti x4), (4, ti x3), (0, tr 11 0), (1, ti y1)]) dX11_unfold_47 rfl (by rw [ex23]; rfl) (by decide) rfl ?_
        refine tm_goto (tgt := 112) dX11_unfold_50 (by decide) ?_
        obtain ⟨rfl, rfl, rfl, rfl⟩ := pj4 hE10
        refine tm_lcp [0, 1, 2, 3] rfl ?_
        exact J11
set_option maxHeartbeats 4000000 in
set_option maxRecDepth 100000 in
theorem okX11_unfold {g : tG}  {M : tM} {v : Int32} {Mz : tM} (h : fX11_unfold  M = some ((v, Mz))) : TMet g yX11_unfold (Cond.code yX11_unfold cX11_unfold 5 (some .int) :: tgd) rmX11_unfold [tr 11 0] M (some (ti v)) Mz 0 0 := by
  have key : TW g iX11_unfold rmX11_unfold 0 0 (some (ti v)) Mz 0 0 0 [(0, tr 11 0)] [] M := by
    rw [fX11_unfold] at h
    refine tm_iconst (v := 0) dX11_unfold_0 (by decide) ?_
    refine tm_istore_n (lc' := [(1, ti 0), (0, tr 11 0)]) dX11_unfold_1 rfl (by decide) rfl ?_
    refine tm_iconst (v := 0) dX11_unfold_2 (by decide) ?_
    refine tm_istore_n (lc' := [(2, ti 0), (1, ti 0), (0, tr 11 0)]) dX11_unfold_3 rfl (by decide) rfl ?_
    refine tm_iconst (v := 0) dX11_unfold_4 (by decide) ?_
    refine tm_istore_n (lc' := [(3, ti 0), (2, ti 0), (1, ti 0), (0, tr 11 0)]) dX11_unfold_5 rfl (by decide) rfl ?_
    obtain ⟨w24, hE25, h⟩ := obind_some h
    refine tm_lcp [0, 1, 2, 3] rfl ?_
    refine okX11_unfold_l6  FU 0 0 0 M _ hE25 (fun x26 M27 e => ?_)
    subst e
    dsimp only at h
    refine tm_iload_n dX11_unfold_115 rfl rfl ?_
    obtain ⟨rfl, rfl⟩ := pj2 h
    exact tm_iret rfl dX11_unfold_116
  exact TMet.of (by decide) (Nat.le_of_ble_eq_true rfl) key
theorem wcX11_352 : tCB RX11 352 yX11_isRow cX11_isRow 6 (some .boolean) 0 ∧ Cond.methodLink RX11 352 yX11_isRow ∈ tgd ∧ Cond.instanceMethod yX11_isRow ∈ tgd ∧ Cond.selects RX11 yX11_isRow yX11_isRow ∈ tgd := ⟨⟨(tgd_t 1681 (by decide +kernel) (by decide +kernel)), (tgd_t 10 (by decide +kernel) (by decide +kernel)), by decide, by decide +kernel⟩, (tgd_t 1678 (by decide +kernel) (by decide +kernel)), (tgd_t 1680 (by decide +kernel) (by decide +kernel)), (tgd_p 85 (by decide +kernel) (by decide +kernel))⟩
theorem wcX11_356 : tCB RX11 356 yX11_divide cX11_divide 6 (none) 0 ∧ Cond.methodLink RX11 356 yX11_divide ∈ tgd ∧ Cond.instanceMethod yX11_divide ∈ tgd ∧ Cond.selects RX11 yX11_divide yX11_divide ∈ tgd := ⟨⟨(tgd_t 1685 (by decide +kernel) (by decide +kernel)), (tgd_t 10 (by decide +kernel) (by decide +kernel)), by decide, by decide +kernel⟩, (tgd_t 1682 (by decide +kernel) (by decide +kernel)), (tgd_t 1684 (by decide +kernel) (by decide +kernel)), (tgd_p 86 (by decide +kernel) (by decide +kernel))⟩
theorem wcX11_359 : tCB RX11 359 yX11_write cX11_write 7 (none) 0 ∧ Cond.methodLink RX11 359 yX11_write ∈ tgd ∧ Cond.instanceMethod yX11_write ∈ tgd ∧ Cond.selects RX11 yX11_write yX11_write ∈ tgd := ⟨⟨(tgd_t 1693 (by decide +kernel) (by decide +kernel)), (tgd_t 10 (by decide +kernel) (by decide +kernel)), by decide, by decide +kernel⟩, (tgd_t 1690 (by decide +kernel) (by decide +kernel)), (tgd_t 1692 (by decide +kernel) (by decide +kernel)), (tgd_p 88 (by decide +kernel) (by decide +kernel))⟩
theorem wcX11_362 : tCB RX11 362 yX11_unfold cX11_unfold 5 (some .int) 0 ∧ Cond.methodLink RX11 362 yX11_unfold ∈ tgd ∧ Cond.instanceMethod yX11_unfold ∈ tgd ∧ Cond.selects RX11 yX11_unfold yX11_unfold ∈ tgd := ⟨⟨(tgd_t 1701 (by decide +kernel) (by decide +kernel)), (tgd_t 10 (by decide +kernel) (by decide +kernel)), by decide, by decide +kernel⟩, (tgd_t 1698 (by decide +kernel) (by decide +kernel)), (tgd_t 1700 (by decide +kernel) (by decide +kernel)), (tgd_p 90 (by decide +kernel) (by decide +kernel))⟩
abbrev iX11_once : tY := (RX11, cX11_once, 4, some .int, "once")
abbrev rmX11_once : Room := { frames := 5, cells := 0, slots := 0, locals := 146 }
def fX11_once_l14  : Nat → Int32 → tM → Option ((Int32 × tM) ⊕ (tM))
  | 0, _, _ => none
  | n + 1, y2, M =>
    if (mI M 11 0 2) ≤ y2 then (
    some (Sum.inr M)
    ) else (
    chk (inb y2 (mN M 1203 0)) <|
    if (mI M 1203 0 (y2.toNatClampNeg)) = 4 then (
    (fX11_meets 3 M).bind fun (x9, M11) =>
    some (Sum.inl ((x9, M11)))
    ) else (
    bnd (y2 + 1) fun x8 =>
    fX11_once_l14 n x8 M
    )
    )
def fX11_once_l78 (z2 : Int32) : Nat → Int32 → tM → Option (tM)
  | 0, _, _ => none
  | n + 1, y3, M =>
    if z2 ≤ y3 then (
    some M
    ) else (
    chk (inb y3 (mN M 1245 0)) <|
    (fX11_fireMark (mI M 1245 0 (y3.toNatClampNeg)) M).bind fun M33 =>
    (fX11_storeMore M33).bind fun M35 =>
    bnd (y3 + 1) fun x36 =>
    fX11_once_l78 z2 n x36 M35
    )
def fX11_once  (M : tM) : Option (Int32 × tM) :=
  (fX11_barred 0 M).bind fun (x1, M3) =>
  if 0 ≤ x1 then (
  Option.bind (fX11_once_l14 FU 0 M3) fun w12 => match w12 with
  | Sum.inl q43 => some q43
  | Sum.inr M14 =>
    (fX11_isRow M14).bind fun (x15, M17) =>
    if x15 = 0 then (
    some (((-9), M17))
    ) else (
    (fX11_divide M17).bind fun M20 =>
    (fX11_write M20).bind fun M22 =>
    (fX11_unfold M22).bind fun (x23, M25) =>
    (fX11_markFirst 0 M25).bind fun M27 =>
    (fX11_storeFirst M27).bind fun M29 =>
    Option.bind (fX11_once_l78 x23 FU 0 M29) fun M39 =>
    (fX11_settle x23 M39).bind fun (x40, M42) =>
    some ((x40, M42))
    )
  ) else (
  some ((x1, M3))
  )
set_option maxHeartbeats 4000000 in
set_option maxRecDepth 100000 in
theorem okX11_once_l14 {g : tG}  {r : Option tV} {Mz : tM} : ∀ (n : Nat) (y2 : Int32) (M : tM) (w : (Int32 × tM) ⊕ (tM)), fX11_once_l14 n y2 M = some w → (∀ (Mw : tM), Sum.inr Mw = w → TW g iX11_once rmX11_once 0 0 r Mz 0 0 44 [(0, tr 11 0)] [] Mw) → (∀ (v : Int32) (Mv : tM), Sum.inl ((v, Mv)) = w → r = (some (ti v)) ∧ Mz = Mv) → TW g iX11_once rmX11_once 0 0 r Mz 0 0 14 [(0, tr 11 0), (2, ti y2)] [] M := by
  intro n
  induction n with
  | zero => intro y2 M w h; cases h
  | succ n ih =>
    intro y2 M w h J JR
    rw [fX11_once_l14] at h
    refine tm_iload_n dX11_once_14 rfl rfl ?_
    refine tm_aload_n dX11_once_15 rfl rfl ?_
    refine tm_get kX11 rfl (j := 2) (by decide) wfX11_202 dX11_once_16 (v := ti (mI M 11 0 2)) rfl ?_
    refine tm_icmp_ge (tgt := 44) dX11_once_19 (by decide) (fun c5 => ?_) (fun c5 => ?_)
    · rw [if_pos c5] at h
      obtain rfl := Option.some.inj h
      refine tm_lcp [0] rfl ?_
      exact J _ rfl
    · rw [if_neg c5] at h
      refine tm_aload_n dX11_once_22 rfl rfl ?_
      refine tm_get kX11 rfl (j := 3) (by decide) wfX11_13 dX11_once_23 (v := tr 1203 0) rfl ?_
      refine tm_iload_n dX11_once_26 rfl rfl ?_
      obtain ⟨b6, h⟩ := chk_some h
      refine tm_iald rfl dX11_once_27 (inb_vp b6) ?_
      refine tm_iconst (v := 4) dX11_once_28 (by decide) ?_
      refine tm_icmp_ne (tgt := 38) dX11_once_29 (by decide) (fun c7 => ?_) (fun c7 => ?_)
      · rw [if_neg c7] at h
        obtain ⟨x8, ex8, h⟩ := bnd_some h
        refine tm_iinc (v := x8) (lc' := [(2, ti x8), (0, tr 11 0)]) dX11_once_38 rfl (by rw [ex8]; rfl) (by decide) rfl ?_
        refine tm_goto (tgt := 14) dX11_once_41 (by decide) ?_
        refine tm_lcp [0, 2] rfl ?_
        exact ih x8 M _ h J JR
      · rw [if_pos c7] at h
        refine tm_aload_n dX11_once_32 rfl rfl ?_
        refine tm_iconst (v := 3) dX11_once_33 (by decide) ?_
        obtain ⟨⟨x9, M11⟩, hc10, h⟩ := obind_some h
        dsimp only at h
        refine tm_callV kX11 rfl (avs := [ti 3]) (st := []) (okX11_meets hc10) wcX11_221.1 wcX11_221.2.1 wcX11_221.2.2.1 wcX11_221.2.2.2 ⟨rfl, rfl, Nat.le_of_ble_eq_true rfl, Nat.le_of_ble_eq_true rfl⟩ rfl (Nat.le_of_ble_eq_true rfl) ⟨Nat.zero_le _, Nat.zero_le _⟩ dX11_once_34 ?_
        obtain rfl := Option.some.inj h
        obtain ⟨rfl, rfl⟩ := JR _ _ rfl
        exact tm_iret rfl dX11_once_37
set_option maxHeartbeats 4000000 in
set_option maxRecDepth 100000 in
theorem okX11_once_l78 {g : tG} (z2 : Int32) {r : Option tV} {Mz : tM} : ∀ (n : Nat) (y3 : Int32) (M : tM) (w : tM), fX11_once_l78 z2 n y3 M = some w → (∀ (Mw : tM), Mw = w → TW g iX11_once rmX11_once 0 0 r Mz 0 0 103 [(0, tr 11 0), (2, ti z2)] [] Mw) → TW g iX11_once rmX11_once 0 0 r Mz 0 0 78 [(0, tr 11 0), (2, ti z2), (3, ti y3)] [] M := by
  intro n
  induction n with
  | zero => intro y3 M w h; cases h
  | succ n ih =>
    intro y3 M w h J
    rw [fX11_once_l78] at h
    refine tm_iload_n dX11_once_78 rfl rfl ?_
    refine tm_iload_n dX11_once_79 rfl rfl ?_
    refine tm_icmp_ge (tgt := 103) dX11_once_80 (by decide) (fun c30 => ?_) (fun c30 => ?_)
    · rw [if_pos c30] at h
      obtain rfl := Option.some.inj h
      refine tm_lcp [0, 2] rfl ?_
      exact J _ rfl
    · rw [if_neg c30] at h
      refine tm_aload_n dX11_once_83 rfl rfl ?_
      refine tm_aload_n dX11_once_84 rfl rfl ?_
      refine tm_get kX11 rfl (j := 45) (by decide) wfX11_120 dX11_once_85 (v := tr 1245 0) rfl ?_
      refine tm_iload_n dX11_once_88 rfl rfl ?_
      obtain ⟨b31, h⟩ := chk_some h
      refine tm_iald rfl dX11_once_89 (inb_vp b31) ?_
      obtain ⟨M33, hc32, h⟩ := obind_some h
      refine tm_callV kX11 rfl (avs := [ti (mI M 1245 0 (y3.toNatClampNeg))]) (st := []) (okX11_fireMark hc32) wcX11_293.1 wcX11_293.2.1 wcX11_293.2.2.1 wcX11_293.2.2.2 ⟨rfl, rfl, Nat.le_of_ble_eq_true rfl, Nat.le_of_ble_eq_true rfl⟩ rfl (Nat.le_of_ble_eq_true rfl) ⟨Nat.zero_le _, Nat.zero_le _⟩ dX11_once_90 ?_
      refine tm_aload_n dX11_once_93 rfl rfl ?_
      obtain ⟨M35, hc34, h⟩ := obind_some h
      refine tm_callV kX11 rfl (avs := []) (st := []) (okX11_storeMore hc34) wcX11_323.1 wcX11_323.2.1 wcX11_323.2.2.1 wcX11_323.2.2.2 ⟨rfl, rfl, Nat.le_of_ble_eq_true rfl, Nat.le_of_ble_eq_true rfl⟩ rfl (Nat.le_of_ble_eq_true rfl) ⟨Nat.zero_le _, Nat.zero_le _⟩ dX11_once_94 ?_
      obtain ⟨x36, ex36, h⟩ := bnd_some h
      refine tm_iinc (v := x36) (lc' := [(3, ti x36), (0, tr 11 0), (2, ti z2)]) dX11_once_97 rfl (by rw [ex36]; rfl) (by decide) rfl ?_
      refine tm_goto (tgt := 78) dX11_once_100 (by decide) ?_
      refine tm_lcp [0, 2, 3] rfl ?_
      exact ih x36 M35 _ h J
set_option maxHeartbeats 4000000 in
set_option maxRecDepth 100000 in
theorem okX11_once {g : tG}  {M : tM} {v : Int32} {Mz : tM} (h : fX11_once  M = some ((v, Mz))) : TMet g yX11_once (Cond.code yX11_once cX11_once 4 (some .int) :: tgd) rmX11_once [tr 11 0] M (some (ti v)) Mz 0 0 := by
  have key : TW g iX11_once rmX11_once 0 0 (some (ti v)) Mz 0 0 0 [(0, tr 11 0)] [] M := by
    rw [fX11_once] at h
    refine tm_aload_n dX11_once_0 rfl rfl ?_
    refine tm_iconst (v := 0) dX11_once_1 (by decide) ?_
    obtain ⟨⟨x1, M3⟩, hc2, h⟩ := obind_some h
    dsimp only at h
    refine tm_callV kX11 rfl (avs := [ti 0]) (st := []) (okX11_barred hc2) wcX11_304.1 wcX11_304.2.1 wcX11_304.2.2.1 wcX11_304.2.2.2 ⟨rfl, rfl, Nat.le_of_ble_eq_true rfl, Nat.le_of_ble_eq_true rfl⟩ rfl (Nat.le_of_ble_eq_true rfl) ⟨Nat.zero_le _, Nat.zero_le _⟩ dX11_once_2 ?_
    refine tm_istore_n (lc' := [(1, ti x1), (0, tr 11 0)]) dX11_once_5 rfl (by decide) rfl ?_
    refine tm_iload_n dX11_once_6 rfl rfl ?_
    refine tm_if_ge (tgt := 12) dX11_once_7 (by decide) (fun c4 => ?_) (fun c4 => ?_)
    · rw [if_pos c4] at h
      refine tm_iconst (v := 0) dX11_once_12 (by decide) ?_
      refine tm_istore_n (lc' := [(2, ti 0), (1, ti x1), (0, tr 11 0)]) dX11_once_13 rfl (by decide) rfl ?_
      obtain ⟨w12, hE13, h⟩ := obind_some h
      refine tm_lcp [0, 2] rfl ?_
      refine okX11_once_l14  FU 0 M3 _ hE13 (fun M14 e => ?_) (fun v44 Mv45 e => ?_)
      · subst e
        dsimp only at h
        refine tm_aload_n dX11_once_44 rfl rfl ?_
        obtain ⟨⟨x15, M17⟩, hc16, h⟩ := obind_some h
        dsimp only at h
        refine tm_callV kX11 rfl (avs := []) (st := []) (okX11_isRow hc16) wcX11_352.1 wcX11_352.2.1 wcX11_352.2.2.1 wcX11_352.2.2.2 ⟨rfl, rfl, Nat.le_of_ble_eq_true rfl, Nat.le_of_ble_eq_true rfl⟩ rfl (Nat.le_of_ble_eq_true rfl) ⟨Nat.zero_le _, Nat.zero_le _⟩ dX11_once_45 ?_
        refine tm_if_ne (tgt := 54) dX11_once_48 (by decide) (fun c18 => ?_) (fun c18 => ?_)
        · rw [if_neg c18] at h
          refine tm_aload_n dX11_once_54 rfl rfl ?_
          obtain ⟨M20, hc19, h⟩ := obind_some h
          refine tm_callV kX11 rfl (avs := []) (st := []) (okX11_divide hc19) wcX11_356.1 wcX11_356.2.1 wcX11_356.2.2.1 wcX11_356.2.2.2 ⟨rfl, rfl, Nat.le_of_ble_eq_true rfl, Nat.le_of_ble_eq_true rfl⟩ rfl (Nat.le_of_ble_eq_true rfl) ⟨Nat.zero_le _, Nat.zero_le _⟩ dX11_once_55 ?_
          refine tm_aload_n dX11_once_58 rfl rfl ?_
          obtain ⟨M22, hc21, h⟩ := obind_some h
          refine tm_callV kX11 rfl (avs := []) (st := []) (okX11_write hc21) wcX11_359.1 wcX11_359.2.1 wcX11_359.2.2.1 wcX11_359.2.2.2 ⟨rfl, rfl, Nat.le_of_ble_eq_true rfl, Nat.le_of_ble_eq_true rfl⟩ rfl (Nat.le_of_ble_eq_true rfl) ⟨Nat.zero_le _, Nat.zero_le _⟩ dX11_once_59 ?_
          refine tm_aload_n dX11_once_62 rfl rfl ?_
          obtain ⟨⟨x23, M25⟩, hc24, h⟩ := obind_some h
          dsimp only at h
          refine tm_callV kX11 rfl (avs := []) (st := []) (okX11_unfold hc24) wcX11_362.1 wcX11_362.2.1 wcX11_362.2.2.1 wcX11_362.2.2.2 ⟨rfl, rfl, Nat.le_of_ble_eq_true rfl, Nat.le_of_ble_eq_true rfl⟩ rfl (Nat.le_of_ble_eq_true rfl) ⟨Nat.zero_le _, Nat.zero_le _⟩ dX11_once_63 ?_
          refine tm_istore_n (lc' := [(2, ti x23), (0, tr 11 0)]) dX11_once_66 rfl (by decide) rfl ?_
          refine tm_aload_n dX11_once_67 rfl rfl ?_
          refine tm_iconst (v := 0) dX11_once_68 (by decide) ?_
          obtain ⟨M27, hc26, h⟩ := obind_some h
          refine tm_callV kX11 rfl (avs := [ti 0]) (st := []) (okX11_markFirst hc26) wcX11_286.1 wcX11_286.2.1 wcX11_286.2.2.1 wcX11_286.2.2.2 ⟨rfl, rfl, Nat.le_of_ble_eq_true rfl, Nat.le_of_ble_eq_true rfl⟩ rfl (Nat.le_of_ble_eq_true rfl) ⟨Nat.zero_le _, Nat.zero_le _⟩ dX11_once_69 ?_
          refine tm_aload_n dX11_once_72 rfl rfl ?_
          obtain ⟨M29, hc28, h⟩ := obind_some h
          refine tm_callV kX11 rfl (avs := []) (st := []) (okX11_storeFirst hc28) wcX11_317.1 wcX11_317.2.1 wcX11_317.2.2.1 wcX11_317.2.2.2 ⟨rfl, rfl, Nat.le_of_ble_eq_true rfl, Nat.le_of_ble_eq_true rfl⟩ rfl (Nat.le_of_ble_eq_true rfl) ⟨Nat.zero_le _, Nat.zero_le _⟩ dX11_once_73 ?_
          refine tm_iconst (v := 0) dX11_once_76 (by decide) ?_
          refine tm_istore_n (lc' := [(3, ti 0), (2, ti x23), (0, tr 11 0)]) dX11_once_77 rfl (by decide) rfl ?_
          obtain ⟨w37, hE38, h⟩ := obind_some h
          refine tm_lcp [0, 2, 3] rfl ?_
          refine okX11_once_l78 x23 FU 0 M29 _ hE38 (fun M39 e => ?_)
          subst e
          refine tm_aload_n dX11_once_103 rfl rfl ?_
          refine tm_iload_n dX11_once_104 rfl rfl ?_
          obtain ⟨⟨x40, M42⟩, hc41, h⟩ := obind_some h
          dsimp only at h
          refine tm_callV kX11 rfl (avs := [ti x23]) (st := []) (okX11_settle hc41) wcX11_326.1 wcX11_326.2.1 wcX11_326.2.2.1 wcX11_326.2.2.2 ⟨rfl, rfl, Nat.le_of_ble_eq_true rfl, Nat.le_of_ble_eq_true rfl⟩ rfl (Nat.le_of_ble_eq_true rfl) ⟨Nat.zero_le _, Nat.zero_le _⟩ dX11_once_105 ?_
          obtain ⟨rfl, rfl⟩ := pj2 h
          exact tm_iret rfl dX11_once_108
        · rw [if_pos c18] at h
          refine tm_bipush (v := (-9)) dX11_once_51 (by decide) ?_
          obtain ⟨rfl, rfl⟩ := pj2 h
          exact tm_iret rfl dX11_once_53
      · subst e
        obtain ⟨rfl, rfl⟩ := pj2 h
        exact ⟨rfl, rfl⟩
    · rw [if_neg c4] at h
      refine tm_iload_n dX11_once_10 rfl rfl ?_
      obtain ⟨rfl, rfl⟩ := pj2 h
      exact tm_iret rfl dX11_once_11
  exact TMet.of (by decide) (Nat.le_of_ble_eq_true rfl) key
abbrev iX11_bracket : tY := (RX11, cX11_bracket, 2, some .int, "bracket")
abbrev rmX11_bracket : Room := { frames := 1, cells := 0, slots := 0, locals := 22 }
def fX11_bracket (a1 : Int32) (M : tM) : Option (Int32) :=
  (fX11_in a1 0 ((mI M 11 0 60) - 1) M).bind fun x1 =>
  if x1 = 0 then (
  some (-9)
  ) else (
  chk (inb a1 (mN M 1259 0)) <|
  some (mI M 1259 0 (a1.toNatClampNeg))
  )
set_option maxHeartbeats 4000000 in
set_option maxRecDepth 100000 in
theorem okX11_bracket {g : tG} {a1 : Int32} {M : tM} {v : Int32} (h : fX11_bracket a1 M = some v) : TMet g yX11_bracket (Cond.code yX11_bracket cX11_bracket 2 (some .int) :: tgd) rmX11_bracket [tr 11 0, ti a1] M (some (ti v)) M 0 0 := by
  have key : TW g iX11_bracket rmX11_bracket 0 0 (some (ti v)) M 0 0 0 [(0, tr 11 0), (1, ti a1)] [] M := by
    rw [fX11_bracket] at h
    refine tm_iload_n dX11_bracket_0 rfl rfl ?_
    refine tm_iconst (v := 0) dX11_bracket_1 (by decide) ?_
    refine tm_aload_n dX11_bracket_2 rfl rfl ?_
    refine tm_get kX11 rfl (j := 60) (by decide) wfX11_163 dX11_bracket_3 (v := ti (mI M 11 0 60)) rfl ?_
    refine tm_iconst (v := 1) dX11_bracket_6 (by decide) ?_
    refine tm_isub dX11_bracket_7 ?_
    obtain ⟨x1, hc2, h⟩ := obind_some h
    refine tm_callS (avs := [ti a1, ti 0, ti ((mI M 11 0 60) - 1)]) (st := []) (okX11_in hc2) wcX11_205.1 wcX11_205.2.1 wcX11_205.2.2 ⟨rfl, rfl, Nat.le_of_ble_eq_true rfl, Nat.le_of_ble_eq_true rfl⟩ rfl (Nat.le_of_ble_eq_true rfl) ⟨Nat.zero_le _, Nat.zero_le _⟩ dX11_bracket_8 ?_
    refine tm_if_eq (tgt := 23) dX11_bracket_11 (by decide) (fun c3 => ?_) (fun c3 => ?_)
    · rw [if_pos c3] at h
      refine tm_bipush (v := (-9)) dX11_bracket_23 (by decide) ?_
      obtain rfl := Option.some.inj h
      exact tm_iret rfl dX11_bracket_25
    · rw [if_neg c3] at h
      refine tm_aload_n dX11_bracket_14 rfl rfl ?_
      refine tm_get kX11 rfl (j := 59) (by decide) wfX11_160 dX11_bracket_15 (v := tr 1259 0) rfl ?_
      refine tm_iload_n dX11_bracket_18 rfl rfl ?_
      obtain ⟨b4, h⟩ := chk_some h
      refine tm_iald rfl dX11_bracket_19 (inb_vp b4) ?_
      refine tm_goto (tgt := 25) dX11_bracket_20 (by decide) ?_
      obtain rfl := Option.some.inj h
      exact tm_iret rfl dX11_bracket_25
  exact TMet.of (by decide) (Nat.le_of_ble_eq_true rfl) key
abbrev iX11_firing : tY := (RX11, cX11_firing, 2, some .int, "firing")
abbrev rmX11_firing : Room := { frames := 1, cells := 0, slots := 0, locals := 22 }
def fX11_firing (a1 : Int32) (M : tM) : Option (Int32) :=
  (fX11_in a1 0 ((mI M 11 0 43) - 1) M).bind fun x1 =>
  if x1 = 0 then (
  some (-9)
  ) else (
  chk (inb a1 (mN M 1242 0)) <|
  some (mI M 1242 0 (a1.toNatClampNeg))
  )
set_option maxHeartbeats 4000000 in
set_option maxRecDepth 100000 in
theorem okX11_firing {g : tG} {a1 : Int32} {M : tM} {v : Int32} (h : fX11_firing a1 M = some v) : TMet g yX11_firing (Cond.code yX11_firing cX11_firing 2 (some .int) :: tgd) rmX11_firing [tr 11 0, ti a1] M (some (ti v)) M 0 0 := by
  have key : TW g iX11_firing rmX11_firing 0 0 (some (ti v)) M 0 0 0 [(0, tr 11 0), (1, ti a1)] [] M := by
    rw [fX11_firing] at h
    refine tm_iload_n dX11_firing_0 rfl rfl ?_
    refine tm_iconst (v := 0) dX11_firing_1 (by decide) ?_
    refine tm_aload_n dX11_firing_2 rfl rfl ?_
    refine tm_get kX11 rfl (j := 43) (by decide) wfX11_113 dX11_firing_3 (v := ti (mI M 11 0 43)) rfl ?_
    refine tm_iconst (v := 1) dX11_firing_6 (by decide) ?_
    refine tm_isub dX11_firing_7 ?_
    obtain ⟨x1, hc2, h⟩ := obind_some h
    refine tm_callS (avs := [ti a1, ti 0, ti ((mI M 11 0 43) - 1)]) (st := []) (okX11_in hc2) wcX11_205.1 wcX11_205.2.1 wcX11_205.2.2 ⟨rfl, rfl, Nat.le_of_ble_eq_true rfl, Nat.le_of_ble_eq_true rfl⟩ rfl (Nat.le_of_ble_eq_true rfl) ⟨Nat.zero_le _, Nat.zero_le _⟩ dX11_firing_8 ?_
    refine tm_if_eq (tgt := 23) dX11_firing_11 (by decide) (fun c3 => ?_) (fun c3 => ?_)
    · rw [if_pos c3] at h
      refine tm_bipush (v := (-9)) dX11_firing_23 (by decide) ?_
      obtain rfl := Option.some.inj h
      exact tm_iret rfl dX11_firing_25
    · rw [if_neg c3] at h
      refine tm_aload_n dX11_firing_14 rfl rfl ?_
      refine tm_get kX11 rfl (j := 42) (by decide) wfX11_110 dX11_firing_15 (v := tr 1242 0) rfl ?_
      refine tm_iload_n dX11_firing_18 rfl rfl ?_
      obtain ⟨b4, h⟩ := chk_some h
      refine tm_iald rfl dX11_firing_19 (inb_vp b4) ?_
      refine tm_goto (tgt := 25) dX11_firing_20 (by decide) ?_
      obtain rfl := Option.some.inj h
      exact tm_iret rfl dX11_firing_25
  exact TMet.of (by decide) (Nat.le_of_ble_eq_true rfl) key
abbrev iX11_store : tY := (RX11, cX11_store, 2, some .int, "store")
abbrev rmX11_store : Room := { frames := 2, cells := 0, slots := 0, locals := 43 }
def fX11_store (a1 : Int32) (M : tM) : Option (Int32) :=
  (fX11_isLine a1 M).bind fun x1 =>
  if x1 = 0 then (
  some (-1)
  ) else (
  if 0 ≤ (mI M 11 0 43) then (
  chk (inb a1 (mN M 1244 0)) <|
  some (mI M 1244 0 (a1.toNatClampNeg))
  ) else (
  some (-9)
  )
  )
set_option maxHeartbeats 4000000 in
set_option maxRecDepth 100000 in
theorem okX11_store {g : tG} {a1 : Int32} {M : tM} {v : Int32} (h : fX11_store a1 M = some v) : TMet g yX11_store (Cond.code yX11_store cX11_store 2 (some .int) :: tgd) rmX11_store [tr 11 0, ti a1] M (some (ti v)) M 0 0 := by
  have key : TW g iX11_store rmX11_store 0 0 (some (ti v)) M 0 0 0 [(0, tr 11 0), (1, ti a1)] [] M := by
    rw [fX11_store] at h
    refine tm_aload_n dX11_store_0 rfl rfl ?_
    refine tm_iload_n dX11_store_1 rfl rfl ?_
    obtain ⟨x1, hc2, h⟩ := obind_some h
    refine tm_callV kX11 rfl (avs := [ti a1]) (st := []) (okX11_isLine hc2) wcX11_232.1 wcX11_232.2.1 wcX11_232.2.2.1 wcX11_232.2.2.2 ⟨rfl, rfl, Nat.le_of_ble_eq_true rfl, Nat.le_of_ble_eq_true rfl⟩ rfl (Nat.le_of_ble_eq_true rfl) ⟨Nat.zero_le _, Nat.zero_le _⟩ dX11_store_2 ?_
    refine tm_if_ne (tgt := 12) dX11_store_5 (by decide) (fun c3 => ?_) (fun c3 => ?_)
    · rw [if_neg c3] at h
      refine tm_aload_n dX11_store_12 rfl rfl ?_
      refine tm_get kX11 rfl (j := 43) (by decide) wfX11_113 dX11_store_13 (v := ti (mI M 11 0 43)) rfl ?_
      refine tm_if_ge (tgt := 24) dX11_store_16 (by decide) (fun c4 => ?_) (fun c4 => ?_)
      · rw [if_pos c4] at h
        refine tm_aload_n dX11_store_24 rfl rfl ?_
        refine tm_get kX11 rfl (j := 44) (by decide) wfX11_117 dX11_store_25 (v := tr 1244 0) rfl ?_
        refine tm_iload_n dX11_store_28 rfl rfl ?_
        obtain ⟨b5, h⟩ := chk_some h
        refine tm_iald rfl dX11_store_29 (inb_vp b5) ?_
        obtain rfl := Option.some.inj h
        exact tm_iret rfl dX11_store_30
      · rw [if_neg c4] at h
        refine tm_bipush (v := (-9)) dX11_store_19 (by decide) ?_
        refine tm_goto (tgt := 30) dX11_store_21 (by decide) ?_
        obtain rfl := Option.some.inj h
        exact tm_iret rfl dX11_store_30
    · rw [if_pos c3] at h
      refine tm_iconst (v := (-1)) dX11_store_8 (by decide) ?_
      refine tm_goto (tgt := 30) dX11_store_9 (by decide) ?_
      obtain rfl := Option.some.inj h
      exact tm_iret rfl dX11_store_30
  exact TMet.of (by decide) (Nat.le_of_ble_eq_true rfl) key
abbrev iX11_marking : tY := (RX11, cX11_marking, 5, some .int, "marking")
abbrev rmX11_marking : Room := { frames := 4, cells := 0, slots := 0, locals := 124 }
def fX11_marking_l45 (z1 : Int32) (z2 : Int32) : Nat → Int32 → tM → Option (tM)
  | 0, _, _ => none
  | n + 1, y4, M =>
    if z1 ≤ y4 then (
    some M
    ) else (
    chk (inb y4 (mN M 1242 0)) <|
    (fX11_fireMark (mI M 1242 0 (y4.toNatClampNeg)) M).bind fun M16 =>
    bnd (y4 + 1) fun x17 =>
    fX11_marking_l45 z1 z2 n x17 M16
    )
def fX11_marking (a1 : Int32) (a2 : Int32) (M : tM) : Option (Int32 × tM) :=
  (fX11_isLine a2 M).bind fun x1 =>
  if x1 = 0 then (
  some (((-1), M))
  ) else (
  if (mI M 11 0 43) < 0 then (
  some (((-9), M))
  ) else (
  (fX11_in a1 0 (mI M 11 0 43) M).bind fun x5 =>
  if x5 = 0 then (
  some (((-9), M))
  ) else (
  (fX11_balance M).bind fun (x8, M10) =>
  (fX11_markFirst 0 M10).bind fun M12 =>
  Option.bind (fX11_marking_l45 a1 a2 FU 0 M12) fun M20 =>
  chk (inb a2 (mN M20 1238 0)) <|
  some ((mI M20 1238 0 (a2.toNatClampNeg), M20))
  )
  )
  )
set_option maxHeartbeats 4000000 in
set_option maxRecDepth 100000 in
theorem okX11_marking_l45 {g : tG} (z1 : Int32) (z2 : Int32) {r : Option tV} {Mz : tM} : ∀ (n : Nat) (y4 : Int32) (M : tM) (w : tM), fX11_marking_l45 z1 z2 n y4 M = some w → (∀ (Mw : tM), Mw = w → TW g iX11_marking rmX11_marking 0 0 r Mz 0 0 68 [(0, tr 11 0), (2, ti z2)] [] Mw) → TW g iX11_marking rmX11_marking 0 0 r Mz 0 0 45 [(0, tr 11 0), (1, ti z1), (2, ti z2), (4, ti y4)] [] M := by
  intro n
  induction n with
  | zero => intro y4 M w h; cases h
  | succ n ih =>
    intro y4 M w h J
    rw [fX11_marking_l45] at h
    refine tm_iload dX11_marking_45 rfl ?_
    refine tm_iload_n dX11_marking_47 rfl rfl ?_
    refine tm_icmp_ge (tgt := 68) dX11_marking_48 (by decide) (fun c13 => ?_) (fun c13 => ?_)
    · rw [if_pos c13] at h
      obtain rfl := Option.some.inj h
      refine tm_lcp [0, 2] rfl ?_
      exact J _ rfl
    · rw [if_neg c13] at h
      refine tm_aload_n dX11_marking_51 rfl rfl ?_
      refine tm_aload_n dX11_marking_52 rfl rfl ?_
      refine tm_get kX11 rfl (j := 42) (by decide) wfX11_110 dX11_marking_53 (v := tr 1242 0) rfl ?_
      refine tm_iload dX11_marking_56 rfl ?_
      obtain ⟨b14, h⟩ := chk_some h
      refine tm_iald rfl dX11_marking_58 (inb_vp b14) ?_
      obtain ⟨M16, hc15, h⟩ := obind_some h
      refine tm_callV kX11 rfl (avs := [ti (mI M 1242 0 (y4.toNatClampNeg))]) (st := []) (okX11_fireMark hc15) wcX11_293.1 wcX11_293.2.1 wcX11_293.2.2.1 wcX11_293.2.2.2 ⟨rfl, rfl, Nat.le_of_ble_eq_true rfl, Nat.le_of_ble_eq_true rfl⟩ rfl (Nat.le_of_ble_eq_true rfl) ⟨Nat.zero_le _, Nat.zero_le _⟩ dX11_marking_59 ?_
      obtain ⟨x17, ex17, h⟩ := bnd_some h
      refine tm_iinc (v := x17) (lc' := [(4, ti x17), (0, tr 11 0), (1, ti z1), (2, ti z2)]) dX11_marking_62 rfl (by rw [ex17]; rfl) (by decide) rfl ?_
      refine tm_goto (tgt := 45) dX11_marking_65 (by decide) ?_
      refine tm_lcp [0, 1, 2, 4] rfl ?_
      exact ih x17 M16 _ h J
set_option maxHeartbeats 4000000 in
set_option maxRecDepth 100000 in
theorem okX11_marking {g : tG} {a1 : Int32} {a2 : Int32} {M : tM} {v : Int32} {Mz : tM} (h : fX11_marking a1 a2 M = some ((v, Mz))) : TMet g yX11_marking (Cond.code yX11_marking cX11_marking 5 (some .int) :: tgd) rmX11_marking [tr 11 0, ti a1, ti a2] M (some (ti v)) Mz 0 0 := by
  have key : TW g iX11_marking rmX11_marking 0 0 (some (ti v)) Mz 0 0 0 [(0, tr 11 0), (1, ti a1), (2, ti a2)] [] M := by
    rw [fX11_marking] at h
    refine tm_aload_n dX11_marking_0 rfl rfl ?_
    refine tm_iload_n dX11_marking_1 rfl rfl ?_
    obtain ⟨x1, hc2, h⟩ := obind_some h
    refine tm_callV kX11 rfl (avs := [ti a2]) (st := []) (okX11_isLine hc2) wcX11_232.1 wcX11_232.2.1 wcX11_232.2.2.1 wcX11_232.2.2.2 ⟨rfl, rfl, Nat.le_of_ble_eq_true rfl, Nat.le_of_ble_eq_true rfl⟩ rfl (Nat.le_of_ble_eq_true rfl) ⟨Nat.zero_le _, Nat.zero_le _⟩ dX11_marking_2 ?_
    refine tm_if_ne (tgt := 10) dX11_marking_5 (by decide) (fun c3 => ?_) (fun c3 => ?_)
    · rw [if_neg c3] at h
      refine tm_aload_n dX11_marking_10 rfl rfl ?_
      refine tm_get kX11 rfl (j := 43) (by decide) wfX11_113 dX11_marking_11 (v := ti (mI M 11 0 43)) rfl ?_
      refine tm_if_lt (tgt := 29) dX11_marking_14 (by decide) (fun c4 => ?_) (fun c4 => ?_)
      · rw [if_pos c4] at h
        refine tm_bipush (v := (-9)) dX11_marking_29 (by decide) ?_
        obtain ⟨rfl, rfl⟩ := pj2 h
        exact tm_iret rfl dX11_marking_31
      · rw [if_neg c4] at h
        refine tm_iload_n dX11_marking_17 rfl rfl ?_
        refine tm_iconst (v := 0) dX11_marking_18 (by decide) ?_
        refine tm_aload_n dX11_marking_19 rfl rfl ?_
        refine tm_get kX11 rfl (j := 43) (by decide) wfX11_113 dX11_marking_20 (v := ti (mI M 11 0 43)) rfl ?_
        obtain ⟨x5, hc6, h⟩ := obind_some h
        refine tm_callS (avs := [ti a1, ti 0, ti (mI M 11 0 43)]) (st := []) (okX11_in hc6) wcX11_205.1 wcX11_205.2.1 wcX11_205.2.2 ⟨rfl, rfl, Nat.le_of_ble_eq_true rfl, Nat.le_of_ble_eq_true rfl⟩ rfl (Nat.le_of_ble_eq_true rfl) ⟨Nat.zero_le _, Nat.zero_le _⟩ dX11_marking_23 ?_
        refine tm_if_ne (tgt := 32) dX11_marking_26 (by decide) (fun c7 => ?_) (fun c7 => ?_)
        · rw [if_neg c7] at h
          refine tm_aload_n dX11_marking_32 rfl rfl ?_
          obtain ⟨⟨x8, M10⟩, hc9, h⟩ := obind_some h
          dsimp only at h
          refine tm_callV kX11 rfl (avs := []) (st := []) (okX11_balance hc9) wcX11_280.1 wcX11_280.2.1 wcX11_280.2.2.1 wcX11_280.2.2.2 ⟨rfl, rfl, Nat.le_of_ble_eq_true rfl, Nat.le_of_ble_eq_true rfl⟩ rfl (Nat.le_of_ble_eq_true rfl) ⟨Nat.zero_le _, Nat.zero_le _⟩ dX11_marking_33 ?_
          refine tm_istore_n (lc' := [(3, ti x8), (0, tr 11 0), (1, ti a1), (2, ti a2)]) dX11_marking_36 rfl (by decide) rfl ?_
          refine tm_aload_n dX11_marking_37 rfl rfl ?_
          refine tm_iconst (v := 0) dX11_marking_38 (by decide) ?_
          obtain ⟨M12, hc11, h⟩ := obind_some h
          refine tm_callV kX11 rfl (avs := [ti 0]) (st := []) (okX11_markFirst hc11) wcX11_286.1 wcX11_286.2.1 wcX11_286.2.2.1 wcX11_286.2.2.2 ⟨rfl, rfl, Nat.le_of_ble_eq_true rfl, Nat.le_of_ble_eq_true rfl⟩ rfl (Nat.le_of_ble_eq_true rfl) ⟨Nat.zero_le _, Nat.zero_le _⟩ dX11_marking_39 ?_
          refine tm_iconst (v := 0) dX11_marking_42 (by decide) ?_
          refine tm_istore (lc' := [(4, ti 0), (3, ti x8), (0, tr 11 0), (1, ti a1), (2, ti a2)]) dX11_marking_43 (by decide) rfl ?_
          obtain ⟨w18, hE19, h⟩ := obind_some h
          refine tm_lcp [0, 1, 2, 4] rfl ?_
          refine okX11_marking_l45 a1 a2 FU 0 M12 _ hE19 (fun M20 e => ?_)
          subst e
          refine tm_aload_n dX11_marking_68 rfl rfl ?_
          refine tm_get kX11 rfl (j := 38) (by decide) wfX11_98 dX11_marking_69 (v := tr 1238 0) rfl ?_
          refine tm_iload_n dX11_marking_72 rfl rfl ?_
          obtain ⟨b21, h⟩ := chk_some h
          refine tm_iald rfl dX11_marking_73 (inb_vp b21) ?_
          obtain ⟨rfl, rfl⟩ := pj2 h
          exact tm_iret rfl dX11_marking_74
        · rw [if_pos c7] at h
          refine tm_bipush (v := (-9)) dX11_marking_29 (by decide) ?_
          obtain ⟨rfl, rfl⟩ := pj2 h
          exact tm_iret rfl dX11_marking_31
    · rw [if_pos c3] at h
      refine tm_iconst (v := (-1)) dX11_marking_8 (by decide) ?_
      obtain ⟨rfl, rfl⟩ := pj2 h
      exact tm_iret rfl dX11_marking_9
  exact TMet.of (by decide) (Nat.le_of_ble_eq_true rfl) key
theorem wfX11_175 : Cond.fieldLink RX11 175 "EvenFlowModel" "drafted" "[I" ∈ tgd := (tgd_t 1289 (by decide +kernel) (by decide +kernel))
theorem wfX11_365 : Cond.fieldLink RX11 365 "EvenFlowModel" "draftMany" "I" ∈ tgd := (tgd_t 1290 (by decide +kernel) (by decide +kernel))
abbrev iX11_draft : tY := (RX11, cX11_draft, 2, some .int, "draft")
abbrev rmX11_draft : Room := { frames := 2, cells := 0, slots := 0, locals := 43 }
def fX11_draft (a1 : Int32) (M : tM) : Option (Int32 × tM) :=
  (fX11_isPart a1 M).bind fun x1 =>
  if x1 = 0 then (
  some (((-1), M))
  ) else (
  if (mI M 11 0 65) = 200 then (
  some (((-2), M))
  ) else (
  chk (inb (mI M 11 0 65) (mN M 1264 0)) <|
  bnd (sI M 1264 0 ((mI M 11 0 65).toNatClampNeg) a1) fun M6 =>
  bnd (sI M6 11 0 65 ((mI M6 11 0 65) + 1)) fun M7 =>
  some ((mI M7 11 0 65, M7))
  )
  )
set_option maxHeartbeats 4000000 in
set_option maxRecDepth 100000 in
theorem okX11_draft {g : tG} {a1 : Int32} {M : tM} {v : Int32} {Mz : tM} (h : fX11_draft a1 M = some ((v, Mz))) : TMet g yX11_draft (Cond.code yX11_draft cX11_draft 2 (some .int) :: tgd) rmX11_draft [tr 11 0, ti a1] M (some (ti v)) Mz 0 0 := by
  have key : TW g iX11_draft rmX11_draft 0 0 (some (ti v)) Mz 0 0 0 [(0, tr 11 0), (1, ti a1)] [] M := by
    rw [fX11_draft] at h
    refine tm_aload_n dX11_draft_0 rfl rfl ?_
    refine tm_iload_n dX11_draft_1 rfl rfl ?_
    obtain ⟨x1, hc2, h⟩ := obind_some h
    refine tm_callV kX11 rfl (avs := [ti a1]) (st := []) (okX11_isPart hc2) wcX11_228.1 wcX11_228.2.1 wcX11_228.2.2.1 wcX11_228.2.2.2 ⟨rfl, rfl, Nat.le_of_ble_eq_true rfl, Nat.le_of_ble_eq_true rfl⟩ rfl (Nat.le_of_ble_eq_true rfl) ⟨Nat.zero_le _, Nat.zero_le _⟩ dX11_draft_2 ?_
    refine tm_if_ne (tgt := 10) dX11_draft_5 (by decide) (fun c3 => ?_) (fun c3 => ?_)
    · rw [if_neg c3] at h
      refine tm_aload_n dX11_draft_10 rfl rfl ?_
      refine tm_get kX11 rfl (j := 65) (by decide) wfX11_365 dX11_draft_11 (v := ti (mI M 11 0 65)) rfl ?_
      refine tm_sipush (v := 200) dX11_draft_14 (by decide) ?_
      refine tm_icmp_ne (tgt := 23) dX11_draft_17 (by decide) (fun c4 => ?_) (fun c4 => ?_)
      · rw [if_neg c4] at h
        refine tm_aload_n dX11_draft_23 rfl rfl ?_
        refine tm_get kX11 rfl (j := 64) (by decide) wfX11_175 dX11_draft_24 (v := tr 1264 0) rfl ?_
        refine tm_aload_n dX11_draft_27 rfl rfl ?_
        refine tm_get kX11 rfl (j := 65) (by decide) wfX11_365 dX11_draft_28 (v := ti (mI M 11 0 65)) rfl ?_
        refine tm_iload_n dX11_draft_31 rfl rfl ?_
        obtain ⟨b5, h⟩ := chk_some h
        obtain ⟨M6, eM6, h⟩ := bnd_some h
        refine tm_iast rfl dX11_draft_32 (inb_vp b5) ?_
        refine tm_nmM eM6 ?_
        refine tm_aload_n dX11_draft_33 rfl rfl ?_
        refine tm_dup dX11_draft_34 rfl ?_
        refine tm_get kX11 rfl (j := 65) (by decide) wfX11_365 dX11_draft_35 (v := ti (mI M6 11 0 65)) rfl ?_
        refine tm_iconst (v := 1) dX11_draft_38 (by decide) ?_
        refine tm_iadd dX11_draft_39 ?_
        obtain ⟨M7, eM7, h⟩ := bnd_some h
        refine tm_put kX11 rfl (j := 65) (by decide) wfX11_365 rfl dX11_draft_40 (fun _ => ⟨rfl, rfl⟩) (tPut_I ((mI M6 11 0 65) + 1) rfl) ?_
        refine tm_nmM eM7 ?_
        refine tm_aload_n dX11_draft_43 rfl rfl ?_
        refine tm_get kX11 rfl (j := 65) (by decide) wfX11_365 dX11_draft_44 (v := ti (mI M7 11 0 65)) rfl ?_
        obtain ⟨rfl, rfl⟩ := pj2 h
        exact tm_iret rfl dX11_draft_47
      · rw [if_pos c4] at h
        refine tm_bipush (v := (-2)) dX11_draft_20 (by decide) ?_
        obtain ⟨rfl, rfl⟩ := pj2 h
        exact tm_iret rfl dX11_draft_22
    · rw [if_pos c3] at h
      refine tm_iconst (v := (-1)) dX11_draft_8 (by decide) ?_
      obtain ⟨rfl, rfl⟩ := pj2 h
      exact tm_iret rfl dX11_draft_9
  exact TMet.of (by decide) (Nat.le_of_ble_eq_true rfl) key
abbrev iX11_check : tY := (RX11, cX11_check, 5, some .int, "check")
abbrev rmX11_check : Room := { frames := 5, cells := 0, slots := 0, locals := 146 }
def fX11_check_l33 (z1 : Int32) : Nat → Int32 → tM → Option ((Int32 × tM) ⊕ (tM))
  | 0, _, _ => none
  | n + 1, y3, M =>
    if z1 ≤ y3 then (
    some (Sum.inr M)
    ) else (
    chk (inb y3 (mN M 1264 0)) <|
    bnd (mI M 1264 0 (y3.toNatClampNeg)) fun x13 =>
    chk (inb x13 (mN M 1240 0)) <|
    if (mI M 1240 0 (x13.toNatClampNeg)) = 0 then (
    some (Sum.inl (((-10) - y3, M)))
    ) else (
    (fX11_mayMark x13 M).bind fun x16 =>
    if x16 = 0 then (
    some (Sum.inl (((-10) - y3, M)))
    ) else (
    (fX11_fireMark x13 M).bind fun M20 =>
    (fX11_storeMore M20).bind fun M22 =>
    chk (inb y3 (mN M22 1245 0)) <|
    bnd (sI M22 1245 0 (y3.toNatClampNeg) x13) fun M24 =>
    bnd (y3 + 1) fun x25 =>
    fX11_check_l33 z1 n x25 M24
    )
    )
    )
def fX11_check  (M : tM) : Option (Int32 × tM) :=
  bnd (mI M 11 0 65) fun x1 =>
  bnd (sI M 11 0 65 0) fun M2 =>
  (fX11_barred 0 M2).bind fun (x3, M5) =>
  if 0 ≤ x3 then (
  (fX11_markFirst 0 M5).bind fun M8 =>
  (fX11_storeFirst M8).bind fun M10 =>
  Option.bind (fX11_check_l33 x1 FU 0 M10) fun w26 => match w26 with
  | Sum.inl q35 => some q35
  | Sum.inr M28 =>
    (fX11_leastLeft M28).bind fun x29 =>
    if x29 < 0 then (
    (fX11_settle x1 M28).bind fun (x32, M34) =>
    some ((x32, M34))
    ) else (
    some (((-10) - x1, M28))
    )
  ) else (
  some ((x3, M5))
  )
set_option maxHeartbeats 4000000 in
set_option maxRecDepth 100000 in
theorem okX11_check_l33 {g : tG} (z1 : Int32) {r : Option tV} {Mz : tM} : ∀ (n : Nat) (y3 : Int32) (M : tM) (w : (Int32 × tM) ⊕ (tM)), fX11_check_l33 z1 n y3 M = some w → (∀ (Mw : tM), Sum.inr Mw = w → TW g iX11_check rmX11_check 0 0 r Mz 0 0 94 [(0, tr 11 0), (1, ti z1)] [] Mw) → (∀ (v : Int32) (Mv : tM), Sum.inl ((v, Mv)) = w → r = (some (ti v)) ∧ Mz = Mv) → TW g iX11_check rmX11_check 0 0 r Mz 0 0 33 [(0, tr 11 0), (1, ti z1), (3, ti y3)] [] M := by
  intro n
  induction n with
  | zero => intro y3 M w h; cases h
  | succ n ih =>
    intro y3 M w h J JR
    rw [fX11_check_l33] at h
    refine tm_iload_n dX11_check_33 rfl rfl ?_
    refine tm_iload_n dX11_check_34 rfl rfl ?_
    refine tm_icmp_ge (tgt := 94) dX11_check_35 (by decide) (fun c11 => ?_) (fun c11 => ?_)
    · rw [if_pos c11] at h
      obtain rfl := Option.some.inj h
      refine tm_lcp [0, 1] rfl ?_
      exact J _ rfl
    · rw [if_neg c11] at h
      refine tm_aload_n dX11_check_38 rfl rfl ?_
      refine tm_get kX11 rfl (j := 64) (by decide) wfX11_175 dX11_check_39 (v := tr 1264 0) rfl ?_
      refine tm_iload_n dX11_check_42 rfl rfl ?_
      obtain ⟨b12, h⟩ := chk_some h
      refine tm_iald rfl dX11_check_43 (inb_vp b12) ?_
      obtain ⟨x13, ex13, h⟩ := bnd_some h
      refine tm_nmI ex13 ?_
      refine tm_istore (lc' := [(4, ti x13), (0, tr 11 0), (1, ti z1), (3, ti y3)]) dX11_check_44 (by decide) rfl ?_
      refine tm_aload_n dX11_check_46 rfl rfl ?_
      refine tm_get kX11 rfl (j := 40) (by decide) wfX11_104 dX11_check_47 (v := tr 1240 0) rfl ?_
      refine tm_iload dX11_check_50 rfl ?_
      obtain ⟨b14, h⟩ := chk_some h
      refine tm_iald rfl dX11_check_52 (inb_vp b14) ?_
      refine tm_if_eq (tgt := 65) dX11_check_53 (by decide) (fun c15 => ?_) (fun c15 => ?_)
      · rw [if_pos c15] at h
        refine tm_bipush (v := (-10)) dX11_check_65 (by decide) ?_
        refine tm_iload_n dX11_check_67 rfl rfl ?_
        refine tm_isub dX11_check_68 ?_
        obtain rfl := Option.some.inj h
        obtain ⟨rfl, rfl⟩ := JR _ _ rfl
        exact tm_iret rfl dX11_check_69
      · rw [if_neg c15] at h
        refine tm_aload_n dX11_check_56 rfl rfl ?_
        refine tm_iload dX11_check_57 rfl ?_
        obtain ⟨x16, hc17, h⟩ := obind_some h
        refine tm_callV kX11 rfl (avs := [ti x13]) (st := []) (okX11_mayMark hc17) wcX11_283.1 wcX11_283.2.1 wcX11_283.2.2.1 wcX11_283.2.2.2 ⟨rfl, rfl, Nat.le_of_ble_eq_true rfl, Nat.le_of_ble_eq_true rfl⟩ rfl (Nat.le_of_ble_eq_true rfl) ⟨Nat.zero_le _, Nat.zero_le _⟩ dX11_check_59 ?_
        refine tm_if_ne (tgt := 70) dX11_check_62 (by decide) (fun c18 => ?_) (fun c18 => ?_)
        · rw [if_neg c18] at h
          refine tm_aload_n dX11_check_70 rfl rfl ?_
          refine tm_iload dX11_check_71 rfl ?_
          obtain ⟨M20, hc19, h⟩ := obind_some h
          refine tm_callV kX11 rfl (avs := [ti x13]) (st := []) (okX11_fireMark hc19) wcX11_293.1 wcX11_293.2.1 wcX11_293.2.2.1 wcX11_293.2.2.2 ⟨rfl, rfl, Nat.le_of_ble_eq_true rfl, Nat.le_of_ble_eq_true rfl⟩ rfl (Nat.le_of_ble_eq_true rfl) ⟨Nat.zero_le _, Nat.zero_le _⟩ dX11_check_73 ?_
          refine tm_aload_n dX11_check_76 rfl rfl ?_
          obtain ⟨M22, hc21, h⟩ := obind_some h
          refine tm_callV kX11 rfl (avs := []) (st := []) (okX11_storeMore hc21) wcX11_323.1 wcX11_323.2.1 wcX11_323.2.2.1 wcX11_323.2.2.2 ⟨rfl, rfl, Nat.le_of_ble_eq_true rfl, Nat.le_of_ble_eq_true rfl⟩ rfl (Nat.le_of_ble_eq_true rfl) ⟨Nat.zero_le _, Nat.zero_le _⟩ dX11_check_77 ?_
          refine tm_aload_n dX11_check_80 rfl rfl ?_
          refine tm_get kX11 rfl (j := 45) (by decide) wfX11_120 dX11_check_81 (v := tr 1245 0) rfl ?_
          refine tm_iload_n dX11_check_84 rfl rfl ?_
          refine tm_iload dX11_check_85 rfl ?_
          obtain ⟨b23, h⟩ := chk_some h
          obtain ⟨M24, eM24, h⟩ := bnd_some h
          refine tm_iast rfl dX11_check_87 (inb_vp b23) ?_
          refine tm_nmM eM24 ?_
          obtain ⟨x25, ex25, h⟩ := bnd_some h
          refine tm_iinc (v := x25) (lc' := [(3, ti x25), (4, ti x13), (0, tr 11 0), (1, ti z1)]) dX11_check_88 rfl (by rw [ex25]; rfl) (by decide) rfl ?_
          refine tm_goto (tgt := 33) dX11_check_91 (by decide) ?_
          refine tm_lcp [0, 1, 3] rfl ?_
          exact ih x25 M24 _ h J JR
        · rw [if_pos c18] at h
          refine tm_bipush (v := (-10)) dX11_check_65 (by decide) ?_
          refine tm_iload_n dX11_check_67 rfl rfl ?_
          refine tm_isub dX11_check_68 ?_
          obtain rfl := Option.some.inj h
          obtain ⟨rfl, rfl⟩ := JR _ _ rfl
          exact tm_iret rfl dX11_check_69
set_option maxHeartbeats 4000000 in
set_option maxRecDepth 100000 in
theorem okX11_check {g : tG}  {M : tM} {v : Int32} {Mz : tM} (h : fX11_check  M = some ((v, Mz))) : TMet g yX11_check (Cond.code yX11_check cX11_check 5 (some .int) :: tgd) rmX11_check [tr 11 0] M (some (ti v)) Mz 0 0 := by
  have key : TW g iX11_check rmX11_check 0 0 (some (ti v)) Mz 0 0 0 [(0, tr 11 0)] [] M := by
    rw [fX11_check] at h
    refine tm_aload_n dX11_check_0 rfl rfl ?_
    refine tm_get kX11 rfl (j := 65) (by decide) wfX11_365 dX11_check_1 (v := ti (mI M 11 0 65)) rfl ?_
    obtain ⟨x1, ex1, h⟩ := bnd_some h
    refine tm_nmI ex1 ?_
    refine tm_istore_n (lc' := [(1, ti x1), (0, tr 11 0)]) dX11_check_4 rfl (by decide) rfl ?_
    refine tm_aload_n dX11_check_5 rfl rfl ?_
    refine tm_iconst (v := 0) dX11_check_6 (by decide) ?_
    obtain ⟨M2, eM2, h⟩ := bnd_some h
    refine tm_put kX11 rfl (j := 65) (by decide) wfX11_365 rfl dX11_check_7 (fun _ => ⟨rfl, rfl⟩) (tPut_I 0 rfl) ?_
    refine tm_nmM eM2 ?_
    refine tm_aload_n dX11_check_10 rfl rfl ?_
    refine tm_iconst (v := 0) dX11_check_11 (by decide) ?_
    obtain ⟨⟨x3, M5⟩, hc4, h⟩ := obind_some h
    dsimp only at h
    refine tm_callV kX11 rfl (avs := [ti 0]) (st := []) (okX11_barred hc4) wcX11_304.1 wcX11_304.2.1 wcX11_304.2.2.1 wcX11_304.2.2.2 ⟨rfl, rfl, Nat.le_of_ble_eq_true rfl, Nat.le_of_ble_eq_true rfl⟩ rfl (Nat.le_of_ble_eq_true rfl) ⟨Nat.zero_le _, Nat.zero_le _⟩ dX11_check_12 ?_
    refine tm_istore_n (lc' := [(2, ti x3), (1, ti x1), (0, tr 11 0)]) dX11_check_15 rfl (by decide) rfl ?_
    refine tm_iload_n dX11_check_16 rfl rfl ?_
    refine tm_if_ge (tgt := 22) dX11_check_17 (by decide) (fun c6 => ?_) (fun c6 => ?_)
    · rw [if_pos c6] at h
      refine tm_aload_n dX11_check_22 rfl rfl ?_
      refine tm_iconst (v := 0) dX11_check_23 (by decide) ?_
      obtain ⟨M8, hc7, h⟩ := obind_some h
      refine tm_callV kX11 rfl (avs := [ti 0]) (st := []) (okX11_markFirst hc7) wcX11_286.1 wcX11_286.2.1 wcX11_286.2.2.1 wcX11_286.2.2.2 ⟨rfl, rfl, Nat.le_of_ble_eq_true rfl, Nat.le_of_ble_eq_true rfl⟩ rfl (Nat.le_of_ble_eq_true rfl) ⟨Nat.zero_le _, Nat.zero_le _⟩ dX11_check_24 ?_
      refine tm_aload_n dX11_check_27 rfl rfl ?_
      obtain ⟨M10, hc9, h⟩ := obind_some h
      refine tm_callV kX11 rfl (avs := []) (st := []) (okX11_storeFirst hc9) wcX11_317.1 wcX11_317.2.1 wcX11_317.2.2.1 wcX11_317.2.2.2 ⟨rfl, rfl, Nat.le_of_ble_eq_true rfl, Nat.le_of_ble_eq_true rfl⟩ rfl (Nat.le_of_ble_eq_true rfl) ⟨Nat.zero_le _, Nat.zero_le _⟩ dX11_check_28 ?_
      refine tm_iconst (v := 0) dX11_check_31 (by decide) ?_
      refine tm_istore_n (lc' := [(3, ti 0), (2, ti x3), (1, ti x1), (0, tr 11 0)]) dX11_check_32 rfl (by decide) rfl ?_
      obtain ⟨w26, hE27, h⟩ := obind_some h
      refine tm_lcp [0, 1, 3] rfl ?_
      refine okX11_check_l33 x1 FU 0 M10 _ hE27 (fun M28 e => ?_) (fun v36 Mv37 e => ?_)
      · subst e
        dsimp only at h
        refine tm_aload_n dX11_check_94 rfl rfl ?_
        obtain ⟨x29, hc30, h⟩ := obind_some h
        refine tm_callV kX11 rfl (avs := []) (st := []) (okX11_leastLeft hc30) wcX11_297.1 wcX11_297.2.1 wcX11_297.2.2.1 wcX11_297.2.2.2 ⟨rfl, rfl, Nat.le_of_ble_eq_true rfl, Nat.le_of_ble_eq_true rfl⟩ rfl (Nat.le_of_ble_eq_true rfl) ⟨Nat.zero_le _, Nat.zero_le _⟩ dX11_check_95 ?_
        refine tm_if_lt (tgt := 108) dX11_check_98 (by decide) (fun c31 => ?_) (fun c31 => ?_)
        · rw [if_pos c31] at h
          refine tm_aload_n dX11_check_108 rfl rfl ?_
          refine tm_iload_n dX11_check_109 rfl rfl ?_
          obtain ⟨⟨x32, M34⟩, hc33, h⟩ := obind_some h
          dsimp only at h
          refine tm_callV kX11 rfl (avs := [ti x1]) (st := []) (okX11_settle hc33) wcX11_326.1 wcX11_326.2.1 wcX11_326.2.2.1 wcX11_326.2.2.2 ⟨rfl, rfl, Nat.le_of_ble_eq_true rfl, Nat.le_of_ble_eq_true rfl⟩ rfl (Nat.le_of_ble_eq_true rfl) ⟨Nat.zero_le _, Nat.zero_le _⟩ dX11_check_110 ?_
          obtain ⟨rfl, rfl⟩ := pj2 h
          exact tm_iret rfl dX11_check_113
        · rw [if_neg c31] at h
          refine tm_bipush (v := (-10)) dX11_check_101 (by decide) ?_
          refine tm_iload_n dX11_check_103 rfl rfl ?_
          refine tm_isub dX11_check_104 ?_
          refine tm_goto (tgt := 113) dX11_check_105 (by decide) ?_
          obtain ⟨rfl, rfl⟩ := pj2 h
          exact tm_iret rfl dX11_check_113
      · subst e
        obtain ⟨rfl, rfl⟩ := pj2 h
        exact ⟨rfl, rfl⟩
    · rw [if_neg c6] at h
      refine tm_iload_n dX11_check_20 rfl rfl ?_
      obtain ⟨rfl, rfl⟩ := pj2 h
      exact tm_iret rfl dX11_check_21
  exact TMet.of (by decide) (Nat.le_of_ble_eq_true rfl) key
abbrev iX11_time : tY := (RX11, cX11_time, 4, some .int, "time")
abbrev rmX11_time : Room := { frames := 2, cells := 0, slots := 0, locals := 43 }
def fX11_time (a1 : Int32) (a2 : Int32) (M : tM) : Option (Int32 × tM) :=
  (fX11_isPart a1 M).bind fun x1 =>
  if x1 = 0 then (
  some (((-1), M))
  ) else (
  (fX11_in a2 0 1000 M).bind fun x4 =>
  if x4 = 0 then (
  some (((-1), M))
  ) else (
  chk (inb a1 (mN M 1210 0)) <|
  bnd (mI M 1210 0 (a1.toNatClampNeg)) fun x8 =>
  chk (inb a1 (mN M 1210 0)) <|
  bnd (sI M 1210 0 (a1.toNatClampNeg) a2) fun M10 =>
  some ((x8, M10))
  )
  )
set_option maxHeartbeats 4000000 in
set_option maxRecDepth 100000 in
theorem okX11_time {g : tG} {a1 : Int32} {a2 : Int32} {M : tM} {v : Int32} {Mz : tM} (h : fX11_time a1 a2 M = some ((v, Mz))) : TMet g yX11_time (Cond.code yX11_time cX11_time 4 (some .int) :: tgd) rmX11_time [tr 11 0, ti a1, ti a2] M (some (ti v)) Mz 0 0 := by
  have key : TW g iX11_time rmX11_time 0 0 (some (ti v)) Mz 0 0 0 [(0, tr 11 0), (1, ti a1), (2, ti a2)] [] M := by
    rw [fX11_time] at h
    refine tm_aload_n dX11_time_0 rfl rfl ?_
    refine tm_iload_n dX11_time_1 rfl rfl ?_
    obtain ⟨x1, hc2, h⟩ := obind_some h
    refine tm_callV kX11 rfl (avs := [ti a1]) (st := []) (okX11_isPart hc2) wcX11_228.1 wcX11_228.2.1 wcX11_228.2.2.1 wcX11_228.2.2.2 ⟨rfl, rfl, Nat.le_of_ble_eq_true rfl, Nat.le_of_ble_eq_true rfl⟩ rfl (Nat.le_of_ble_eq_true rfl) ⟨Nat.zero_le _, Nat.zero_le _⟩ dX11_time_2 ?_
    refine tm_if_eq (tgt := 19) dX11_time_5 (by decide) (fun c3 => ?_) (fun c3 => ?_)
    · rw [if_pos c3] at h
      refine tm_iconst (v := (-1)) dX11_time_19 (by decide) ?_
      obtain ⟨rfl, rfl⟩ := pj2 h
      exact tm_iret rfl dX11_time_20
    · rw [if_neg c3] at h
      refine tm_iload_n dX11_time_8 rfl rfl ?_
      refine tm_iconst (v := 0) dX11_time_9 (by decide) ?_
      refine tm_sipush (v := 1000) dX11_time_10 (by decide) ?_
      obtain ⟨x4, hc5, h⟩ := obind_some h
      refine tm_callS (avs := [ti a2, ti 0, ti 1000]) (st := []) (okX11_in hc5) wcX11_205.1 wcX11_205.2.1 wcX11_205.2.2 ⟨rfl, rfl, Nat.le_of_ble_eq_true rfl, Nat.le_of_ble_eq_true rfl⟩ rfl (Nat.le_of_ble_eq_true rfl) ⟨Nat.zero_le _, Nat.zero_le _⟩ dX11_time_13 ?_
      refine tm_if_ne (tgt := 21) dX11_time_16 (by decide) (fun c6 => ?_) (fun c6 => ?_)
      · rw [if_neg c6] at h
        refine tm_aload_n dX11_time_21 rfl rfl ?_
        refine tm_get kX11 rfl (j := 10) (by decide) wfX11_35 dX11_time_22 (v := tr 1210 0) rfl ?_
        refine tm_iload_n dX11_time_25 rfl rfl ?_
        obtain ⟨b7, h⟩ := chk_some h
        refine tm_iald rfl dX11_time_26 (inb_vp b7) ?_
        obtain ⟨x8, ex8, h⟩ := bnd_some h
        refine tm_nmI ex8 ?_
        refine tm_istore_n (lc' := [(3, ti x8), (0, tr 11 0), (1, ti a1), (2, ti a2)]) dX11_time_27 rfl (by decide) rfl ?_
        refine tm_aload_n dX11_time_28 rfl rfl ?_
        refine tm_get kX11 rfl (j := 10) (by decide) wfX11_35 dX11_time_29 (v := tr 1210 0) rfl ?_
        refine tm_iload_n dX11_time_32 rfl rfl ?_
        refine tm_iload_n dX11_time_33 rfl rfl ?_
        obtain ⟨b9, h⟩ := chk_some h
        obtain ⟨M10, eM10, h⟩ := bnd_some h
        refine tm_iast rfl dX11_time_34 (inb_vp b9) ?_
        refine tm_nmM eM10 ?_
        refine tm_iload_n dX11_time_35 rfl rfl ?_
        obtain ⟨rfl, rfl⟩ := pj2 h
        exact tm_iret rfl dX11_time_36
      · rw [if_pos c6] at h
        refine tm_iconst (v := (-1)) dX11_time_19 (by decide) ?_
        obtain ⟨rfl, rfl⟩ := pj2 h
        exact tm_iret rfl dX11_time_20
  exact TMet.of (by decide) (Nat.le_of_ble_eq_true rfl) key
