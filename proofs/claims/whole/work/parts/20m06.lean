theorem wcX11_311 : tCB RX11 311 yX11_stored cX11_stored 3 (some .int) 0 ∧ Cond.methodLink RX11 311 yX11_stored ∈ tgd ∧ Cond.instanceMethod yX11_stored ∈ tgd ∧ Cond.selects RX11 yX11_stored yX11_stored ∈ tgd := ⟨⟨(tgd_t 1648 (by decide +kernel) (by decide +kernel)), (tgd_t 10 (by decide +kernel) (by decide +kernel)), by decide, by decide +kernel⟩, (tgd_t 1645 (by decide +kernel) (by decide +kernel)), (tgd_t 1647 (by decide +kernel) (by decide +kernel)), (tgd_p 80 (by decide +kernel) (by decide +kernel))⟩
theorem wfX11_110 : Cond.fieldLink RX11 110 "EvenFlowModel" "order" "[I" ∈ tgd := (tgd_t 1267 (by decide +kernel) (by decide +kernel))
theorem wfX11_117 : Cond.fieldLink RX11 117 "EvenFlowModel" "stores" "[I" ∈ tgd := (tgd_t 1269 (by decide +kernel) (by decide +kernel))
theorem wfX11_120 : Cond.fieldLink RX11 120 "EvenFlowModel" "trial" "[I" ∈ tgd := (tgd_t 1270 (by decide +kernel) (by decide +kernel))
abbrev iX11_settle : tY := (RX11, cX11_settle, 3, some .int, "settle")
abbrev rmX11_settle : Room := { frames := 1, cells := 0, slots := 0, locals := 22 }
def fX11_settle_l7 (z1 : Int32) : Nat → Int32 → tM → Option (tM)
  | 0, _, _ => none
  | n + 1, y2, M =>
    if z1 ≤ y2 then (
    some M
    ) else (
    chk (inb y2 (mN M 1245 0)) <|
    chk (inb y2 (mN M 1242 0)) <|
    bnd (sI M 1242 0 (y2.toNatClampNeg) (mI M 1245 0 (y2.toNatClampNeg))) fun M5 =>
    bnd (y2 + 1) fun x6 =>
    fX11_settle_l7 z1 n x6 M5
    )
def fX11_settle_l32  : Nat → Int32 → tM → Option (tM)
  | 0, _, _ => none
  | n + 1, y2, M =>
    if (mI M 11 0 12) ≤ y2 then (
    some M
    ) else (
    chk (inb y2 (mN M 1246 0)) <|
    chk (inb y2 (mN M 1244 0)) <|
    bnd (sI M 1244 0 (y2.toNatClampNeg) (mI M 1246 0 (y2.toNatClampNeg))) fun M13 =>
    bnd (y2 + 1) fun x14 =>
    fX11_settle_l32 n x14 M13
    )
def fX11_settle (a1 : Int32) (M : tM) : Option (Int32 × tM) :=
  bnd (sI M 11 0 43 a1) fun M1 =>
  Option.bind (fX11_settle_l7 a1 FU 0 M1) fun M9 =>
  Option.bind (fX11_settle_l32 FU 0 M9) fun M17 =>
  (fX11_threadsBegin M17).bind fun M19 =>
  (fX11_stored M19).bind fun x20 =>
  some ((x20, M19))
set_option maxHeartbeats 4000000 in
set_option maxRecDepth 100000 in
theorem okX11_settle_l7 {g : tG} (z1 : Int32) {r : Option tV} {Mz : tM} : ∀ (n : Nat) (y2 : Int32) (M : tM) (w : tM), fX11_settle_l7 z1 n y2 M = some w → (∀ (Mw : tM), Mw = w → TW g iX11_settle rmX11_settle 0 0 r Mz 0 0 30 [(0, tr 11 0)] [] Mw) → TW g iX11_settle rmX11_settle 0 0 r Mz 0 0 7 [(0, tr 11 0), (1, ti z1), (2, ti y2)] [] M := by
  intro n
  induction n with
  | zero => intro y2 M w h; cases h
  | succ n ih =>
    intro y2 M w h J
    rw [fX11_settle_l7] at h
    refine tm_iload_n dX11_settle_7 rfl rfl ?_
    refine tm_iload_n dX11_settle_8 rfl rfl ?_
    refine tm_icmp_ge (tgt := 30) dX11_settle_9 (by decide) (fun c2 => ?_) (fun c2 => ?_)
    · rw [if_pos c2] at h
      obtain rfl := Option.some.inj h
      refine tm_lcp [0] rfl ?_
      exact J _ rfl
    · rw [if_neg c2] at h
      refine tm_aload_n dX11_settle_12 rfl rfl ?_
      refine tm_get kX11 rfl (j := 42) (by decide) wfX11_110 dX11_settle_13 (v := tr 1242 0) rfl ?_
      refine tm_iload_n dX11_settle_16 rfl rfl ?_
      refine tm_aload_n dX11_settle_17 rfl rfl ?_
      refine tm_get kX11 rfl (j := 45) (by decide) wfX11_120 dX11_settle_18 (v := tr 1245 0) rfl ?_
      refine tm_iload_n dX11_settle_21 rfl rfl ?_
      obtain ⟨b3, h⟩ := chk_some h
      refine tm_iald rfl dX11_settle_22 (inb_vp b3) ?_
      obtain ⟨b4, h⟩ := chk_some h
      obtain ⟨M5, eM5, h⟩ := bnd_some h
      refine tm_iast rfl dX11_settle_23 (inb_vp b4) ?_
      refine tm_nmM eM5 ?_
      obtain ⟨x6, ex6, h⟩ := bnd_some h
      refine tm_iinc (v := x6) (lc' := [(2, ti x6), (0, tr 11 0), (1, ti z1)]) dX11_settle_24 rfl (by rw [ex6]; rfl) (by decide) rfl ?_
      refine tm_goto (tgt := 7) dX11_settle_27 (by decide) ?_
      refine tm_lcp [0, 1, 2] rfl ?_
      exact ih x6 M5 _ h J
set_option maxHeartbeats 4000000 in
set_option maxRecDepth 100000 in
theorem okX11_settle_l32 {g : tG}  {r : Option tV} {Mz : tM} : ∀ (n : Nat) (y2 : Int32) (M : tM) (w : tM), fX11_settle_l32 n y2 M = some w → (∀ (Mw : tM), Mw = w → TW g iX11_settle rmX11_settle 0 0 r Mz 0 0 58 [(0, tr 11 0)] [] Mw) → TW g iX11_settle rmX11_settle 0 0 r Mz 0 0 32 [(0, tr 11 0), (2, ti y2)] [] M := by
  intro n
  induction n with
  | zero => intro y2 M w h; cases h
  | succ n ih =>
    intro y2 M w h J
    rw [fX11_settle_l32] at h
    refine tm_iload_n dX11_settle_32 rfl rfl ?_
    refine tm_aload_n dX11_settle_33 rfl rfl ?_
    refine tm_get kX11 rfl (j := 12) (by decide) wfX11_209 dX11_settle_34 (v := ti (mI M 11 0 12)) rfl ?_
    refine tm_icmp_ge (tgt := 58) dX11_settle_37 (by decide) (fun c10 => ?_) (fun c10 => ?_)
    · rw [if_pos c10] at h
      obtain rfl := Option.some.inj h
      refine tm_lcp [0] rfl ?_
      exact J _ rfl
    · rw [if_neg c10] at h
      refine tm_aload_n dX11_settle_40 rfl rfl ?_
      refine tm_get kX11 rfl (j := 44) (by decide) wfX11_117 dX11_settle_41 (v := tr 1244 0) rfl ?_
      refine tm_iload_n dX11_settle_44 rfl rfl ?_
      refine tm_aload_n dX11_settle_45 rfl rfl ?_
      refine tm_get kX11 rfl (j := 46) (by decide) wfX11_123 dX11_settle_46 (v := tr 1246 0) rfl ?_
      refine tm_iload_n dX11_settle_49 rfl rfl ?_
      obtain ⟨b11, h⟩ := chk_some h
      refine tm_iald rfl dX11_settle_50 (inb_vp b11) ?_
      obtain ⟨b12, h⟩ := chk_some h
      obtain ⟨M13, eM13, h⟩ := bnd_some h
      refine tm_iast rfl dX11_settle_51 (inb_vp b12) ?_
      refine tm_nmM eM13 ?_
      obtain ⟨x14, ex14, h⟩ := bnd_some h
      refine tm_iinc (v := x14) (lc' := [(2, ti x14), (0, tr 11 0)]) dX11_settle_52 rfl (by rw [ex14]; rfl) (by decide) rfl ?_
      refine tm_goto (tgt := 32) dX11_settle_55 (by decide) ?_
      refine tm_lcp [0, 2] rfl ?_
      exact ih x14 M13 _ h J
set_option maxHeartbeats 4000000 in
set_option maxRecDepth 100000 in
theorem okX11_settle {g : tG} {a1 : Int32} {M : tM} {v : Int32} {Mz : tM} (h : fX11_settle a1 M = some ((v, Mz))) : TMet g yX11_settle (Cond.code yX11_settle cX11_settle 3 (some .int) :: tgd) rmX11_settle [tr 11 0, ti a1] M (some (ti v)) Mz 0 0 := by
  have key : TW g iX11_settle rmX11_settle 0 0 (some (ti v)) Mz 0 0 0 [(0, tr 11 0), (1, ti a1)] [] M := by
    rw [fX11_settle] at h
    refine tm_aload_n dX11_settle_0 rfl rfl ?_
    refine tm_iload_n dX11_settle_1 rfl rfl ?_
    obtain ⟨M1, eM1, h⟩ := bnd_some h
    refine tm_put kX11 rfl (j := 43) (by decide) wfX11_113 rfl dX11_settle_2 (fun _ => ⟨rfl, rfl⟩) (tPut_I a1 rfl) ?_
    refine tm_nmM eM1 ?_
    refine tm_iconst (v := 0) dX11_settle_5 (by decide) ?_
    refine tm_istore_n (lc' := [(2, ti 0), (0, tr 11 0), (1, ti a1)]) dX11_settle_6 rfl (by decide) rfl ?_
    obtain ⟨w7, hE8, h⟩ := obind_some h
    refine tm_lcp [0, 1, 2] rfl ?_
    refine okX11_settle_l7 a1 FU 0 M1 _ hE8 (fun M9 e => ?_)
    subst e
    refine tm_iconst (v := 0) dX11_settle_30 (by decide) ?_
    refine tm_istore_n (lc' := [(2, ti 0), (0, tr 11 0)]) dX11_settle_31 rfl (by decide) rfl ?_
    obtain ⟨w15, hE16, h⟩ := obind_some h
    refine tm_lcp [0, 2] rfl ?_
    refine okX11_settle_l32  FU 0 M9 _ hE16 (fun M17 e => ?_)
    subst e
    refine tm_aload_n dX11_settle_58 rfl rfl ?_
    obtain ⟨M19, hc18, h⟩ := obind_some h
    refine tm_callV kX11 rfl (avs := []) (st := []) (okX11_threadsBegin hc18) wcX11_215.1 wcX11_215.2.1 wcX11_215.2.2.1 wcX11_215.2.2.2 ⟨rfl, rfl, Nat.le_of_ble_eq_true rfl, Nat.le_of_ble_eq_true rfl⟩ rfl (Nat.le_of_ble_eq_true rfl) ⟨Nat.zero_le _, Nat.zero_le _⟩ dX11_settle_59 ?_
    refine tm_aload_n dX11_settle_62 rfl rfl ?_
    obtain ⟨x20, hc21, h⟩ := obind_some h
    refine tm_callV kX11 rfl (avs := []) (st := []) (okX11_stored hc21) wcX11_311.1 wcX11_311.2.1 wcX11_311.2.2.1 wcX11_311.2.2.2 ⟨rfl, rfl, Nat.le_of_ble_eq_true rfl, Nat.le_of_ble_eq_true rfl⟩ rfl (Nat.le_of_ble_eq_true rfl) ⟨Nat.zero_le _, Nat.zero_le _⟩ dX11_settle_63 ?_
    obtain ⟨rfl, rfl⟩ := pj2 h
    exact tm_iret rfl dX11_settle_66
  exact TMet.of (by decide) (Nat.le_of_ble_eq_true rfl) key
abbrev iX11_growth : tY := (RX11, cX11_growth, 4, some .int, "growth")
abbrev rmX11_growth : Room := { frames := 0, cells := 0, slots := 0, locals := 0 }
def fX11_growth_l4 (z1 : Int32) (M : tM) : Nat → Int32 → Int32 → Option (Int32)
  | 0, _, _ => none
  | n + 1, y2, y3 =>
    if (mI M 11 0 12) ≤ y3 then (
    some y2
    ) else (
    chk (inb y3 (mN M 1213 0)) <|
    Option.bind (α := Int32) (
    if (mI M 1213 0 (y3.toNatClampNeg)) = z1 then (
    chk (inb z1 (mN M 1239 0)) <|
    chk (inb ((4 * y3) + (mI M 1239 0 (z1.toNatClampNeg))) (mN M 1215 0)) <|
    some (mI M 1215 0 (((4 * y3) + (mI M 1239 0 (z1.toNatClampNeg))).toNatClampNeg))
    ) else (
    some 0
    )
    ) fun x4 =>
    chk (inb y3 (mN M 1214 0)) <|
    Option.bind (α := Int32) (
    if (mI M 1214 0 (y3.toNatClampNeg)) = z1 then (
    chk (inb z1 (mN M 1239 0)) <|
    chk (inb ((4 * y3) + (mI M 1239 0 (z1.toNatClampNeg))) (mN M 1216 0)) <|
    some (mI M 1216 0 (((4 * y3) + (mI M 1239 0 (z1.toNatClampNeg))).toNatClampNeg))
    ) else (
    some 0
    )
    ) fun x9 =>
    bnd (y2 + (x4 - x9)) fun x12 =>
    bnd (y3 + 1) fun x13 =>
    fX11_growth_l4 z1 M n x12 x13
    )
def fX11_growth (a1 : Int32) (M : tM) : Option (Int32) :=
  Option.bind (fX11_growth_l4 a1 M FU 0 0) fun x16 =>
  some x16
set_option maxHeartbeats 4000000 in
set_option maxRecDepth 100000 in
theorem okX11_growth_l4 {g : tG} (z1 : Int32) (M : tM) {r : Option tV} {Mz : tM} : ∀ (n : Nat) (y2 : Int32) (y3 : Int32) (w : Int32), fX11_growth_l4 z1 M n y2 y3 = some w → (∀ (w2 : Int32), w2 = w → TW g iX11_growth rmX11_growth 0 0 r Mz 0 0 80 [(2, ti w2)] [] M) → TW g iX11_growth rmX11_growth 0 0 r Mz 0 0 4 [(0, tr 11 0), (1, ti z1), (2, ti y2), (3, ti y3)] [] M := by
  intro n
  induction n with
  | zero => intro y2 y3 w h; cases h
  | succ n ih =>
    intro y2 y3 w h J
    rw [fX11_growth_l4] at h
    refine tm_iload_n dX11_growth_4 rfl rfl ?_
    refine tm_aload_n dX11_growth_5 rfl rfl ?_
    refine tm_get kX11 rfl (j := 12) (by decide) wfX11_209 dX11_growth_6 (v := ti (mI M 11 0 12)) rfl ?_
    refine tm_icmp_ge (tgt := 80) dX11_growth_9 (by decide) (fun c1 => ?_) (fun c1 => ?_)
    · rw [if_pos c1] at h
      obtain rfl := Option.some.inj h
      refine tm_lcp [2] rfl ?_
      exact J _ rfl
    · rw [if_neg c1] at h
      refine tm_iload_n dX11_growth_12 rfl rfl ?_
      refine tm_aload_n dX11_growth_13 rfl rfl ?_
      refine tm_get kX11 rfl (j := 13) (by decide) wfX11_41 dX11_growth_14 (v := tr 1213 0) rfl ?_
      refine tm_iload_n dX11_growth_17 rfl rfl ?_
      obtain ⟨b2, h⟩ := chk_some h
      refine tm_iald rfl dX11_growth_18 (inb_vp b2) ?_
      refine tm_iload_n dX11_growth_19 rfl rfl ?_
      obtain ⟨x4, hE5, h⟩ := obind_some h
      have J6 : TW g iX11_growth rmX11_growth 0 0 r Mz 0 0 42 [(0, tr 11 0), (1, ti z1), (3, ti y3)] [ti x4, ti y2] M := by
        refine tm_aload_n dX11_growth_42 rfl rfl ?_
        refine tm_get kX11 rfl (j := 14) (by decide) wfX11_44 dX11_growth_43 (v := tr 1214 0) rfl ?_
        refine tm_iload_n dX11_growth_46 rfl rfl ?_
        obtain ⟨b7, h⟩ := chk_some h
        refine tm_iald rfl dX11_growth_47 (inb_vp b7) ?_
        refine tm_iload_n dX11_growth_48 rfl rfl ?_
        obtain ⟨x9, hE10, h⟩ := obind_some h
        have J11 : TW g iX11_growth rmX11_growth 0 0 r Mz 0 0 71 [(0, tr 11 0), (1, ti z1), (3, ti y3)] [ti x9, ti x4, ti y2] M := by
          refine tm_isub dX11_growth_71 ?_
          refine tm_iadd dX11_growth_72 ?_
          obtain ⟨x12, ex12, h⟩ := bnd_some h
          refine tm_nmI ex12 ?_
          refine tm_istore_n (lc' := [(2, ti x12), (0, tr 11 0), (1, ti z1), (3, ti y3)]) dX11_growth_73 rfl (by decide) rfl ?_
          obtain ⟨x13, ex13, h⟩ := bnd_some h
          refine tm_iinc (v := x13) (lc' := [(3, ti x13), (2, ti x12), (0, tr 11 0), (1, ti z1)]) dX11_growth_74 rfl (by rw [ex13]; rfl) (by decide) rfl ?_
          refine tm_goto (tgt := 4) dX11_growth_77 (by decide) ?_
          refine tm_lcp [0, 1, 2, 3] rfl ?_
          exact ih x12 x13 _ h J
        refine tm_icmp_ne (tgt := 70) dX11_growth_49 (by decide) (fun c8 => ?_) (fun c8 => ?_)
        · rw [if_neg c8] at hE10
          refine tm_iconst (v := 0) dX11_growth_70 (by decide) ?_
          obtain rfl := Option.some.inj hE10
          refine tm_lcp [0, 1, 3] rfl ?_
          exact J11
        · rw [if_pos c8] at hE10
          refine tm_aload_n dX11_growth_52 rfl rfl ?_
          refine tm_get kX11 rfl (j := 16) (by decide) wfX11_50 dX11_growth_53 (v := tr 1216 0) rfl ?_
          refine tm_iconst (v := 4) dX11_growth_56 (by decide) ?_
          refine tm_iload_n dX11_growth_57 rfl rfl ?_
          refine tm_imul dX11_growth_58 ?_
          refine tm_aload_n dX11_growth_59 rfl rfl ?_
          refine tm_get kX11 rfl (j := 39) (by decide) wfX11_101 dX11_growth_60 (v := tr 1239 0) rfl ?_
          refine tm_iload_n dX11_growth_63 rfl rfl ?_
          obtain ⟨b9, hE10⟩ := chk_some hE10
          refine tm_iald rfl dX11_growth_64 (inb_vp b9) ?_
          refine tm_iadd dX11_growth_65 ?_
          obtain ⟨b10, hE10⟩ := chk_some hE10
          refine tm_iald rfl dX11_growth_66 (inb_vp b10) ?_
          refine tm_goto (tgt := 71) dX11_growth_67 (by decide) ?_
          obtain rfl := Option.some.inj hE10
          refine tm_lcp [0, 1, 3] rfl ?_
          exact J11
      refine tm_icmp_ne (tgt := 41) dX11_growth_20 (by decide) (fun c3 => ?_) (fun c3 => ?_)
      · rw [if_neg c3] at hE5
        refine tm_iconst (v := 0) dX11_growth_41 (by decide) ?_
        obtain rfl := Option.some.inj hE5
        refine tm_lcp [0, 1, 3] rfl ?_
        exact J6
      · rw [if_pos c3] at hE5
        refine tm_aload_n dX11_growth_23 rfl rfl ?_
        refine tm_get kX11 rfl (j := 15) (by decide) wfX11_47 dX11_growth_24 (v := tr 1215 0) rfl ?_
        refine tm_iconst (v := 4) dX11_growth_27 (by decide) ?_
        refine tm_iload_n dX11_growth_28 rfl rfl ?_
        refine tm_imul dX11_growth_29 ?_
        refine tm_aload_n dX11_growth_30 rfl rfl ?_
        refine tm_get kX11 rfl (j := 39) (by decide) wfX11_101 dX11_growth_31 (v := tr 1239 0) rfl ?_
        refine tm_iload_n dX11_growth_34 rfl rfl ?_
        obtain ⟨b4, hE5⟩ := chk_some hE5
        refine tm_iald rfl dX11_growth_35 (inb_vp b4) ?_
        refine tm_iadd dX11_growth_36 ?_
        obtain ⟨b5, hE5⟩ := chk_some hE5
        refine tm_iald rfl dX11_growth_37 (inb_vp b5) ?_
        refine tm_goto (tgt := 42) dX11_growth_38 (by decide) ?_
        obtain rfl := Option.some.inj hE5
        refine tm_lcp [0, 1, 3] rfl ?_
        exact J6
set_option maxHeartbeats 4000000 in
set_option maxRecDepth 100000 in
theorem okX11_growth {g : tG} {a1 : Int32} {M : tM} {v : Int32} (h : fX11_growth a1 M = some v) : TMet g yX11_growth (Cond.code yX11_growth cX11_growth 4 (some .int) :: tgd) rmX11_growth [tr 11 0, ti a1] M (some (ti v)) M 0 0 := by
  have key : TW g iX11_growth rmX11_growth 0 0 (some (ti v)) M 0 0 0 [(0, tr 11 0), (1, ti a1)] [] M := by
    rw [fX11_growth] at h
    refine tm_iconst (v := 0) dX11_growth_0 (by decide) ?_
    refine tm_istore_n (lc' := [(2, ti 0), (0, tr 11 0), (1, ti a1)]) dX11_growth_1 rfl (by decide) rfl ?_
    refine tm_iconst (v := 0) dX11_growth_2 (by decide) ?_
    refine tm_istore_n (lc' := [(3, ti 0), (2, ti 0), (0, tr 11 0), (1, ti a1)]) dX11_growth_3 rfl (by decide) rfl ?_
    obtain ⟨w14, hE15, h⟩ := obind_some h
    refine tm_lcp [0, 1, 2, 3] rfl ?_
    refine okX11_growth_l4 a1 M FU 0 0 _ hE15 (fun x16 e => ?_)
    subst e
    refine tm_iload_n dX11_growth_80 rfl rfl ?_
    obtain rfl := Option.some.inj h
    exact tm_iret rfl dX11_growth_81
  exact TMet.of (by decide) (Nat.le_of_ble_eq_true rfl) key
theorem wcX11_314 : tCB RX11 314 yX11_growth cX11_growth 4 (some .int) 1 ∧ Cond.methodLink RX11 314 yX11_growth ∈ tgd ∧ Cond.instanceMethod yX11_growth ∈ tgd ∧ Cond.selects RX11 yX11_growth yX11_growth ∈ tgd := ⟨⟨(tgd_t 1636 (by decide +kernel) (by decide +kernel)), (tgd_t 10 (by decide +kernel) (by decide +kernel)), by decide, by decide +kernel⟩, (tgd_t 1633 (by decide +kernel) (by decide +kernel)), (tgd_t 1635 (by decide +kernel) (by decide +kernel)), (tgd_p 77 (by decide +kernel) (by decide +kernel))⟩
theorem wfX11_126 : Cond.fieldLink RX11 126 "EvenFlowModel" "last" "[I" ∈ tgd := (tgd_t 1272 (by decide +kernel) (by decide +kernel))
abbrev iX11_chosen : tY := (RX11, cX11_chosen, 5, some .int, "chosen")
abbrev rmX11_chosen : Room := { frames := 1, cells := 0, slots := 0, locals := 23 }
def fX11_chosen_l5 (z1 : Int32) (M : tM) : Nat → Int32 → Int32 → Option (Int32)
  | 0, _, _ => none
  | n + 1, y2, y3 =>
    if (mI M 11 0 2) ≤ y3 then (
    some y2
    ) else (
    chk (inb y3 (mN M 1240 0)) <|
    Option.bind (α := Int32) (
    if (mI M 1240 0 (y3.toNatClampNeg)) ≤ 0 then (
    some y2
    ) else (
    (fX11_mayMark y3 M).bind fun x4 =>
    if x4 = 0 then (
    some y2
    ) else (
    Option.bind (α := Int32) (
    if y2 < 0 then (
    some 1
    ) else (
    if z1 = 1 then (
    (fX11_growth y3 M).bind fun x13 =>
    (fX11_growth y2 M).bind fun x15 =>
    if x13 < x15 then (
    some 1
    ) else (
    if z1 = 2 then (
    chk (inb y3 (mN M 1247 0)) <|
    chk (inb y2 (mN M 1247 0)) <|
    if (mI M 1247 0 (y2.toNatClampNeg)) ≤ (mI M 1247 0 (y3.toNatClampNeg)) then (
    some 0
    ) else (
    some 1
    )
    ) else (
    some 0
    )
    )
    ) else (
    if z1 = 2 then (
    chk (inb y3 (mN M 1247 0)) <|
    chk (inb y2 (mN M 1247 0)) <|
    if (mI M 1247 0 (y2.toNatClampNeg)) ≤ (mI M 1247 0 (y3.toNatClampNeg)) then (
    some 0
    ) else (
    some 1
    )
    ) else (
    some 0
    )
    )
    )
    ) fun x8 =>
    Option.bind (α := Int32) (
    if x8 = 0 then (
    some y2
    ) else (
    some y3
    )
    ) fun x23 =>
    some x23
    )
    )
    ) fun x4 =>
    bnd (y3 + 1) fun x26 =>
    fX11_chosen_l5 z1 M n x4 x26
    )
def fX11_chosen (a1 : Int32) (M : tM) : Option (Int32) :=
  Option.bind (fX11_chosen_l5 a1 M FU (-9) 0) fun x29 =>
  some x29
set_option maxHeartbeats 4000000 in
set_option maxRecDepth 100000 in
theorem okX11_chosen_l5 {g : tG} (z1 : Int32) (M : tM) {r : Option tV} {Mz : tM} : ∀ (n : Nat) (y2 : Int32) (y3 : Int32) (w : Int32), fX11_chosen_l5 z1 M n y2 y3 = some w → (∀ (w2 : Int32), w2 = w → TW g iX11_chosen rmX11_chosen 0 0 r Mz 0 0 96 [(2, ti w2)] [] M) → TW g iX11_chosen rmX11_chosen 0 0 r Mz 0 0 5 [(0, tr 11 0), (1, ti z1), (2, ti y2), (3, ti y3)] [] M := by
  intro n
  induction n with
  | zero => intro y2 y3 w h; cases h
  | succ n ih =>
    intro y2 y3 w h J
    rw [fX11_chosen_l5] at h
    refine tm_iload_n dX11_chosen_5 rfl rfl ?_
    refine tm_aload_n dX11_chosen_6 rfl rfl ?_
    refine tm_get kX11 rfl (j := 2) (by decide) wfX11_202 dX11_chosen_7 (v := ti (mI M 11 0 2)) rfl ?_
    refine tm_icmp_ge (tgt := 96) dX11_chosen_10 (by decide) (fun c1 => ?_) (fun c1 => ?_)
    · rw [if_pos c1] at h
      obtain rfl := Option.some.inj h
      refine tm_lcp [2] rfl ?_
      exact J _ rfl
    · rw [if_neg c1] at h
      refine tm_aload_n dX11_chosen_13 rfl rfl ?_
      refine tm_get kX11 rfl (j := 40) (by decide) wfX11_104 dX11_chosen_14 (v := tr 1240 0) rfl ?_
      refine tm_iload_n dX11_chosen_17 rfl rfl ?_
      obtain ⟨b2, h⟩ := chk_some h
      refine tm_iald rfl dX11_chosen_18 (inb_vp b2) ?_
      obtain ⟨x4, hE5, h⟩ := obind_some h
      have J6 : TW g iX11_chosen rmX11_chosen 0 0 r Mz 0 0 90 [(0, tr 11 0), (1, ti z1), (2, ti x4), (3, ti y3)] [] M := by
        obtain ⟨x26, ex26, h⟩ := bnd_some h
        refine tm_iinc (v := x26) (lc' := [(3, ti x26), (0, tr 11 0), (1, ti z1), (2, ti x4)]) dX11_chosen_90 rfl (by rw [ex26]; rfl) (by decide) rfl ?_
        refine tm_goto (tgt := 5) dX11_chosen_93 (by decide) ?_
        refine tm_lcp [0, 1, 2, 3] rfl ?_
        exact ih x4 x26 _ h J
      refine tm_if_le (tgt := 90) dX11_chosen_19 (by decide) (fun c3 => ?_) (fun c3 => ?_)
      · rw [if_pos c3] at hE5
        obtain rfl := Option.some.inj hE5
        refine tm_lcp [0, 1, 2, 3] rfl ?_
        exact J6
      · rw [if_neg c3] at hE5
        refine tm_aload_n dX11_chosen_22 rfl rfl ?_
        refine tm_iload_n dX11_chosen_23 rfl rfl ?_
        obtain ⟨x4, hc5, hE5⟩ := obind_some hE5
        refine tm_callV kX11 rfl (avs := [ti y3]) (st := []) (okX11_mayMark hc5) wcX11_283.1 wcX11_283.2.1 wcX11_283.2.2.1 wcX11_283.2.2.2 ⟨rfl, rfl, Nat.le_of_ble_eq_true rfl, Nat.le_of_ble_eq_true rfl⟩ rfl (Nat.le_of_ble_eq_true rfl) ⟨Nat.zero_le _, Nat.zero_le _⟩ dX11_chosen_24 ?_
        refine tm_if_eq (tgt := 90) dX11_chosen_27 (by decide) (fun c6 => ?_) (fun c6 => ?_)
        · rw [if_pos c6] at hE5
          obtain rfl := Option.some.inj hE5
          refine tm_lcp [0, 1, 2, 3] rfl ?_
          exact J6
        · rw [if_neg c6] at hE5
          refine tm_iload_n dX11_chosen_30 rfl rfl ?_
          obtain ⟨x8, hE9, hE5⟩ := obind_some hE5
          have J10 : TW g iX11_chosen rmX11_chosen 0 0 r Mz 0 0 77 [(0, tr 11 0), (1, ti z1), (2, ti y2), (3, ti y3)] [ti x8] M := by
            refine tm_istore (lc' := [(4, ti x8), (0, tr 11 0), (1, ti z1), (2, ti y2), (3, ti y3)]) dX11_chosen_77 (by decide) rfl ?_
            refine tm_iload dX11_chosen_79 rfl ?_
            obtain ⟨x23, hE24, hE5⟩ := obind_some hE5
            have J25 : TW g iX11_chosen rmX11_chosen 0 0 r Mz 0 0 89 [(0, tr 11 0), (1, ti z1), (3, ti y3)] [ti x23] M := by
              refine tm_istore_n (lc' := [(2, ti x23), (0, tr 11 0), (1, ti z1), (3, ti y3)]) dX11_chosen_89 rfl (by decide) rfl ?_
              obtain rfl := Option.some.inj hE5
              refine tm_lcp [0, 1, 2, 3] rfl ?_
              exact J6
            refine tm_if_eq (tgt := 88) dX11_chosen_81 (by decide) (fun c22 => ?_) (fun c22 => ?_)
            · rw [if_pos c22] at hE24
              refine tm_iload_n dX11_chosen_88 rfl rfl ?_
              obtain rfl := Option.some.inj hE24
              refine tm_lcp [0, 1, 3] rfl ?_
              exact J25
            · rw [if_neg c22] at hE24
              refine tm_iload_n dX11_chosen_84 rfl rfl ?_
              refine tm_goto (tgt := 89) dX11_chosen_85 (by decide) ?_
              obtain rfl := Option.some.inj hE24
              refine tm_lcp [0, 1, 3] rfl ?_
              exact J25
          refine tm_if_lt (tgt := 72) dX11_chosen_31 (by decide) (fun c7 => ?_) (fun c7 => ?_)
          · rw [if_pos c7] at hE9
            refine tm_iconst (v := 1) dX11_chosen_72 (by decide) ?_
            refine tm_goto (tgt := 77) dX11_chosen_73 (by decide) ?_
            obtain rfl := Option.some.inj hE9
            refine tm_lcp [0, 1, 2, 3] rfl ?_
            exact J10
          · rw [if_neg c7] at hE9
            refine tm_iload_n dX11_chosen_34 rfl rfl ?_
            refine tm_iconst (v := 1) dX11_chosen_35 (by decide) ?_
            refine tm_icmp_ne (tgt := 52) dX11_chosen_36 (by decide) (fun c8 => ?_) (fun c8 => ?_)
            · rw [if_neg c8] at hE9
              refine tm_iload_n dX11_chosen_52 rfl rfl ?_
              refine tm_iconst (v := 2) dX11_chosen_53 (by decide) ?_
              refine tm_icmp_ne (tgt := 76) dX11_chosen_54 (by decide) (fun c9 => ?_) (fun c9 => ?_)
              · rw [if_neg c9] at hE9
                refine tm_iconst (v := 0) dX11_chosen_76 (by decide) ?_
                obtain rfl := Option.some.inj hE9
                refine tm_lcp [0, 1, 2, 3] rfl ?_
                exact J10
              · rw [if_pos c9] at hE9
                refine tm_aload_n dX11_chosen_57 rfl rfl ?_
                refine tm_get kX11 rfl (j := 47) (by decide) wfX11_126 dX11_chosen_58 (v := tr 1247 0) rfl ?_
                refine tm_iload_n dX11_chosen_61 rfl rfl ?_
                obtain ⟨b10, hE9⟩ := chk_some hE9
                refine tm_iald rfl dX11_chosen_62 (inb_vp b10) ?_
                refine tm_aload_n dX11_chosen_63 rfl rfl ?_
                refine tm_get kX11 rfl (j := 47) (by decide) wfX11_126 dX11_chosen_64 (v := tr 1247 0) rfl ?_
                refine tm_iload_n dX11_chosen_67 rfl rfl ?_
                obtain ⟨b11, hE9⟩ := chk_some hE9
                refine tm_iald rfl dX11_chosen_68 (inb_vp b11) ?_
                refine tm_icmp_ge (tgt := 76) dX11_chosen_69 (by decide) (fun c12 => ?_) (fun c12 => ?_)
                · rw [if_pos c12] at hE9
                  refine tm_iconst (v := 0) dX11_chosen_76 (by decide) ?_
                  obtain rfl := Option.some.inj hE9
                  refine tm_lcp [0, 1, 2, 3] rfl ?_
                  exact J10
                · rw [if_neg c12] at hE9
                  refine tm_iconst (v := 1) dX11_chosen_72 (by decide) ?_
                  refine tm_goto (tgt := 77) dX11_chosen_73 (by decide) ?_
                  obtain rfl := Option.some.inj hE9
                  refine tm_lcp [0, 1, 2, 3] rfl ?_
                  exact J10
            · rw [if_pos c8] at hE9
              refine tm_aload_n dX11_chosen_39 rfl rfl ?_
              refine tm_iload_n dX11_chosen_40 rfl rfl ?_
              obtain ⟨x13, hc14, hE9⟩ := obind_some hE9
              refine tm_callV kX11 rfl (avs := [ti y3]) (st := []) (okX11_growth hc14) wcX11_314.1 wcX11_314.2.1 wcX11_314.2.2.1 wcX11_314.2.2.2 ⟨rfl, rfl, Nat.le_of_ble_eq_true rfl, Nat.le_of_ble_eq_true rfl⟩ rfl (Nat.le_of_ble_eq_true rfl) ⟨Nat.zero_le _, Nat.zero_le _⟩ dX11_chosen_41 ?_
              refine tm_aload_n dX11_chosen_44 rfl rfl ?_
              refine tm_iload_n dX11_chosen_45 rfl rfl ?_
              obtain ⟨x15, hc16, hE9⟩ := obind_some hE9
              refine tm_callV kX11 rfl (avs := [ti y2]) (st := [ti x13]) (okX11_growth hc16) wcX11_314.1 wcX11_314.2.1 wcX11_314.2.2.1 wcX11_314.2.2.2 ⟨rfl, rfl, Nat.le_of_ble_eq_true rfl, Nat.le_of_ble_eq_true rfl⟩ rfl (Nat.le_of_ble_eq_true rfl) ⟨Nat.zero_le _, Nat.zero_le _⟩ dX11_chosen_46 ?_
              refine tm_icmp_lt (tgt := 72) dX11_chosen_49 (by decide) (fun c17 => ?_) (fun c17 => ?_)
              · rw [if_pos c17] at hE9
                refine tm_iconst (v := 1) dX11_chosen_72 (by decide) ?_
                refine tm_goto (tgt := 77) dX11_chosen_73 (by decide) ?_
                obtain rfl := Option.some.inj hE9
                refine tm_lcp [0, 1, 2, 3] rfl ?_
                exact J10
              · rw [if_neg c17] at hE9
                refine tm_iload_n dX11_chosen_52 rfl rfl ?_
                refine tm_iconst (v := 2) dX11_chosen_53 (by decide) ?_
                refine tm_icmp_ne (tgt := 76) dX11_chosen_54 (by decide) (fun c18 => ?_) (fun c18 => ?_)
                · rw [if_neg c18] at hE9
                  refine tm_iconst (v := 0) dX11_chosen_76 (by decide) ?_
                  obtain rfl := Option.some.inj hE9
                  refine tm_lcp [0, 1, 2, 3] rfl ?_
                  exact J10
                · rw [if_pos c18] at hE9
                  refine tm_aload_n dX11_chosen_57 rfl rfl ?_
                  refine tm_get kX11 rfl (j := 47) (by decide) wfX11_126 dX11_chosen_58 (v := tr 1247 0) rfl ?_
                  refine tm_iload_n dX11_chosen_61 rfl rfl ?_
                  obtain ⟨b19, hE9⟩ := chk_some hE9
                  refine tm_iald rfl dX11_chosen_62 (inb_vp b19) ?_
                  refine tm_aload_n dX11_chosen_63 rfl rfl ?_
                  refine tm_get kX11 rfl (j := 47) (by decide) wfX11_126 dX11_chosen_64 (v := tr 1247 0) rfl ?_
                  refine tm_iload_n dX11_chosen_67 rfl rfl ?_
                  obtain ⟨b20, hE9⟩ := chk_some hE9
                  refine tm_iald rfl dX11_chosen_68 (inb_vp b20) ?_
                  refine tm_icmp_ge (tgt := 76) dX11_chosen_69 (by decide) (fun c21 => ?_) (fun c21 => ?_)
                  · rw [if_pos c21] at hE9
                    refine tm_iconst (v := 0) dX11_chosen_76 (by decide) ?_
                    obtain rfl := Option.some.inj hE9
                    refine tm_lcp [0, 1, 2, 3] rfl ?_
                    exact J10
                  · rw [if_neg c21] at hE9
                    refine tm_iconst (v := 1) dX11_chosen_72 (by decide) ?_
                    refine tm_goto (tgt := 77) dX11_chosen_73 (by decide) ?_
                    obtain rfl := Option.some.inj hE9
                    refine tm_lcp [0, 1, 2, 3] rfl ?_
                    exact J10
set_option maxHeartbeats 4000000 in
set_option maxRecDepth 100000 in
theorem okX11_chosen {g : tG} {a1 : Int32} {M : tM} {v : Int32} (h : fX11_chosen a1 M = some v) : TMet g yX11_chosen (Cond.code yX11_chosen cX11_chosen 5 (some .int) :: tgd) rmX11_chosen [tr 11 0, ti a1] M (some (ti v)) M 0 0 := by
  have key : TW g iX11_chosen rmX11_chosen 0 0 (some (ti v)) M 0 0 0 [(0, tr 11 0), (1, ti a1)] [] M := by
    rw [fX11_chosen] at h
    refine tm_bipush (v := (-9)) dX11_chosen_0 (by decide) ?_
    refine tm_istore_n (lc' := [(2, ti (-9)), (0, tr 11 0), (1, ti a1)]) dX11_chosen_2 rfl (by decide) rfl ?_
    refine tm_iconst (v := 0) dX11_chosen_3 (by decide) ?_
    refine tm_istore_n (lc' := [(3, ti 0), (2, ti (-9)), (0, tr 11 0), (1, ti a1)]) dX11_chosen_4 rfl (by decide) rfl ?_
    obtain ⟨w27, hE28, h⟩ := obind_some h
    refine tm_lcp [0, 1, 2, 3] rfl ?_
    refine okX11_chosen_l5 a1 M FU (-9) 0 _ hE28 (fun x29 e => ?_)
    subst e
    refine tm_iload_n dX11_chosen_96 rfl rfl ?_
    obtain rfl := Option.some.inj h
    exact tm_iret rfl dX11_chosen_97
  exact TMet.of (by decide) (Nat.le_of_ble_eq_true rfl) key
theorem wcX11_317 : tCB RX11 317 yX11_storeFirst cX11_storeFirst 2 (none) 0 ∧ Cond.methodLink RX11 317 yX11_storeFirst ∈ tgd ∧ Cond.instanceMethod yX11_storeFirst ∈ tgd ∧ Cond.selects RX11 yX11_storeFirst yX11_storeFirst ∈ tgd := ⟨⟨(tgd_t 1628 (by decide +kernel) (by decide +kernel)), (tgd_t 10 (by decide +kernel) (by decide +kernel)), by decide, by decide +kernel⟩, (tgd_t 1625 (by decide +kernel) (by decide +kernel)), (tgd_t 1627 (by decide +kernel) (by decide +kernel)), (tgd_p 75 (by decide +kernel) (by decide +kernel))⟩
theorem wcX11_320 : tCB RX11 320 yX11_chosen cX11_chosen 5 (some .int) 1 ∧ Cond.methodLink RX11 320 yX11_chosen ∈ tgd ∧ Cond.instanceMethod yX11_chosen ∈ tgd ∧ Cond.selects RX11 yX11_chosen yX11_chosen ∈ tgd := ⟨⟨(tgd_t 1632 (by decide +kernel) (by decide +kernel)), (tgd_t 10 (by decide +kernel) (by decide +kernel)), by decide, by decide +kernel⟩, (tgd_t 1629 (by decide +kernel) (by decide +kernel)), (tgd_t 1631 (by decide +kernel) (by decide +kernel)), (tgd_p 76 (by decide +kernel) (by decide +kernel))⟩
theorem wcX11_323 : tCB RX11 323 yX11_storeMore cX11_storeMore 2 (none) 0 ∧ Cond.methodLink RX11 323 yX11_storeMore ∈ tgd ∧ Cond.instanceMethod yX11_storeMore ∈ tgd ∧ Cond.selects RX11 yX11_storeMore yX11_storeMore ∈ tgd := ⟨⟨(tgd_t 1640 (by decide +kernel) (by decide +kernel)), (tgd_t 10 (by decide +kernel) (by decide +kernel)), by decide, by decide +kernel⟩, (tgd_t 1637 (by decide +kernel) (by decide +kernel)), (tgd_t 1639 (by decide +kernel) (by decide +kernel)), (tgd_p 78 (by decide +kernel) (by decide +kernel))⟩
theorem wcX11_326 : tCB RX11 326 yX11_settle cX11_settle 3 (some .int) 1 ∧ Cond.methodLink RX11 326 yX11_settle ∈ tgd ∧ Cond.instanceMethod yX11_settle ∈ tgd ∧ Cond.selects RX11 yX11_settle yX11_settle ∈ tgd := ⟨⟨(tgd_t 1644 (by decide +kernel) (by decide +kernel)), (tgd_t 10 (by decide +kernel) (by decide +kernel)), by decide, by decide +kernel⟩, (tgd_t 1641 (by decide +kernel) (by decide +kernel)), (tgd_t 1643 (by decide +kernel) (by decide +kernel)), (tgd_p 79 (by decide +kernel) (by decide +kernel))⟩
abbrev iX11_schedule : tY := (RX11, cX11_schedule, 5, some .int, "schedule")
abbrev rmX11_schedule : Room := { frames := 5, cells := 0, slots := 0, locals := 146 }
def fX11_schedule_l34 (z1 : Int32) : Nat → Int32 → tM → Option (tM)
  | 0, _, _ => none
  | n + 1, y3, M =>
    if (mI M 11 0 2) ≤ y3 then (
    some M
    ) else (
    chk (inb y3 (mN M 1247 0)) <|
    bnd (sI M 1247 0 (y3.toNatClampNeg) (-1)) fun M14 =>
    bnd (y3 + 1) fun x15 =>
    fX11_schedule_l34 z1 n x15 M14
    )
def fX11_schedule_l57 (z1 : Int32) : Nat → Int32 → tM → Option (tM)
  | 0, _, _ => none
  | n + 1, y3, M =>
    if (mI M 11 0 36) ≤ y3 then (
    some M
    ) else (
    (fX11_chosen z1 M).bind fun x20 =>
    (fX11_fireMark x20 M).bind fun M23 =>
    chk (inb x20 (mN M23 1247 0)) <|
    bnd (sI M23 1247 0 (x20.toNatClampNeg) y3) fun M25 =>
    chk (inb y3 (mN M25 1245 0)) <|
    bnd (sI M25 1245 0 (y3.toNatClampNeg) x20) fun M27 =>
    (fX11_storeMore M27).bind fun M29 =>
    bnd (y3 + 1) fun x30 =>
    fX11_schedule_l57 z1 n x30 M29
    )
def fX11_schedule (a1 : Int32) (M : tM) : Option (Int32 × tM) :=
  (fX11_in a1 0 2 M).bind fun x1 =>
  if x1 = 0 then (
  some (((-1), M))
  ) else (
  (fX11_barred 1 M).bind fun (x4, M6) =>
  if 0 ≤ x4 then (
  (fX11_markFirst 0 M6).bind fun M9 =>
  (fX11_storeFirst M9).bind fun M11 =>
  Option.bind (fX11_schedule_l34 a1 FU 0 M11) fun M18 =>
  Option.bind (fX11_schedule_l57 a1 FU 0 M18) fun M33 =>
  (fX11_settle (mI M33 11 0 36) M33).bind fun (x34, M36) =>
  some ((x34, M36))
  ) else (
  some ((x4, M6))
  )
  )
set_option maxHeartbeats 4000000 in
set_option maxRecDepth 100000 in
theorem okX11_schedule_l34 {g : tG} (z1 : Int32) {r : Option tV} {Mz : tM} : ∀ (n : Nat) (y3 : Int32) (M : tM) (w : tM), fX11_schedule_l34 z1 n y3 M = some w → (∀ (Mw : tM), Mw = w → TW g iX11_schedule rmX11_schedule 0 0 r Mz 0 0 55 [(0, tr 11 0), (1, ti z1)] [] Mw) → TW g iX11_schedule rmX11_schedule 0 0 r Mz 0 0 34 [(0, tr 11 0), (1, ti z1), (3, ti y3)] [] M := by
  intro n
  induction n with
  | zero => intro y3 M w h; cases h
  | succ n ih =>
    intro y3 M w h J
    rw [fX11_schedule_l34] at h
    refine tm_iload_n dX11_schedule_34 rfl rfl ?_
    refine tm_aload_n dX11_schedule_35 rfl rfl ?_
    refine tm_get kX11 rfl (j := 2) (by decide) wfX11_202 dX11_schedule_36 (v := ti (mI M 11 0 2)) rfl ?_
    refine tm_icmp_ge (tgt := 55) dX11_schedule_39 (by decide) (fun c12 => ?_) (fun c12 => ?_)
    · rw [if_pos c12] at h
      obtain rfl := Option.some.inj h
      refine tm_lcp [0, 1] rfl ?_
      exact J _ rfl
    · rw [if_neg c12] at h
      refine tm_aload_n dX11_schedule_42 rfl rfl ?_
      refine tm_get kX11 rfl (j := 47) (by decide) wfX11_126 dX11_schedule_43 (v := tr 1247 0) rfl ?_
      refine tm_iload_n dX11_schedule_46 rfl rfl ?_
      refine tm_iconst (v := (-1)) dX11_schedule_47 (by decide) ?_
      obtain ⟨b13, h⟩ := chk_some h
      obtain ⟨M14, eM14, h⟩ := bnd_some h
      refine tm_iast rfl dX11_schedule_48 (inb_vp b13) ?_
      refine tm_nmM eM14 ?_
      obtain ⟨x15, ex15, h⟩ := bnd_some h
      refine tm_iinc (v := x15) (lc' := [(3, ti x15), (0, tr 11 0), (1, ti z1)]) dX11_schedule_49 rfl (by rw [ex15]; rfl) (by decide) rfl ?_
      refine tm_goto (tgt := 34) dX11_schedule_52 (by decide) ?_
      refine tm_lcp [0, 1, 3] rfl ?_
      exact ih x15 M14 _ h J
set_option maxHeartbeats 4000000 in
set_option maxRecDepth 100000 in
theorem okX11_schedule_l57 {g : tG} (z1 : Int32) {r : Option tV} {Mz : tM} : ∀ (n : Nat) (y3 : Int32) (M : tM) (w : tM), fX11_schedule_l57 z1 n y3 M = some w → (∀ (Mw : tM), Mw = w → TW g iX11_schedule rmX11_schedule 0 0 r Mz 0 0 104 [(0, tr 11 0)] [] Mw) → TW g iX11_schedule rmX11_schedule 0 0 r Mz 0 0 57 [(0, tr 11 0), (1, ti z1), (3, ti y3)] [] M := by
  intro n
  induction n with
  | zero => intro y3 M w h; cases h
  | succ n ih =>
    intro y3 M w h J
    rw [fX11_schedule_l57] at h
    refine tm_iload_n dX11_schedule_57 rfl rfl ?_
    refine tm_aload_n dX11_schedule_58 rfl rfl ?_
    refine tm_get kX11 rfl (j := 36) (by decide) wfX11_273 dX11_schedule_59 (v := ti (mI M 11 0 36)) rfl ?_
    refine tm_icmp_ge (tgt := 104) dX11_schedule_62 (by decide) (fun c19 => ?_) (fun c19 => ?_)
    · rw [if_pos c19] at h
      obtain rfl := Option.some.inj h
      refine tm_lcp [0] rfl ?_
      exact J _ rfl
    · rw [if_neg c19] at h
      refine tm_aload_n dX11_schedule_65 rfl rfl ?_
      refine tm_iload_n dX11_schedule_66 rfl rfl ?_
      obtain ⟨x20, hc21, h⟩ := obind_some h
      refine tm_callV kX11 rfl (avs := [ti z1]) (st := []) (okX11_chosen hc21) wcX11_320.1 wcX11_320.2.1 wcX11_320.2.2.1 wcX11_320.2.2.2 ⟨rfl, rfl, Nat.le_of_ble_eq_true rfl, Nat.le_of_ble_eq_true rfl⟩ rfl (Nat.le_of_ble_eq_true rfl) ⟨Nat.zero_le _, Nat.zero_le _⟩ dX11_schedule_67 ?_
      refine tm_istore (lc' := [(4, ti x20), (0, tr 11 0), (1, ti z1), (3, ti y3)]) dX11_schedule_70 (by decide) rfl ?_
      refine tm_aload_n dX11_schedule_72 rfl rfl ?_
      refine tm_iload dX11_schedule_73 rfl ?_
      obtain ⟨M23, hc22, h⟩ := obind_some h
      refine tm_callV kX11 rfl (avs := [ti x20]) (st := []) (okX11_fireMark hc22) wcX11_293.1 wcX11_293.2.1 wcX11_293.2.2.1 wcX11_293.2.2.2 ⟨rfl, rfl, Nat.le_of_ble_eq_true rfl, Nat.le_of_ble_eq_true rfl⟩ rfl (Nat.le_of_ble_eq_true rfl) ⟨Nat.zero_le _, Nat.zero_le _⟩ dX11_schedule_75 ?_
      refine tm_aload_n dX11_schedule_78 rfl rfl ?_
      refine tm_get kX11 rfl (j := 47) (by decide) wfX11_126 dX11_schedule_79 (v := tr 1247 0) rfl ?_
      refine tm_iload dX11_schedule_82 rfl ?_
      refine tm_iload_n dX11_schedule_84 rfl rfl ?_
      obtain ⟨b24, h⟩ := chk_some h
      obtain ⟨M25, eM25, h⟩ := bnd_some h
      refine tm_iast rfl dX11_schedule_85 (inb_vp b24) ?_
      refine tm_nmM eM25 ?_
      refine tm_aload_n dX11_schedule_86 rfl rfl ?_
      refine tm_get kX11 rfl (j := 45) (by decide) wfX11_120 dX11_schedule_87 (v := tr 1245 0) rfl ?_
      refine tm_iload_n dX11_schedule_90 rfl rfl ?_
      refine tm_iload dX11_schedule_91 rfl ?_
      obtain ⟨b26, h⟩ := chk_some h
      obtain ⟨M27, eM27, h⟩ := bnd_some h
      refine tm_iast rfl dX11_schedule_93 (inb_vp b26) ?_
      refine tm_nmM eM27 ?_
      refine tm_aload_n dX11_schedule_94 rfl rfl ?_
      obtain ⟨M29, hc28, h⟩ := obind_some h
      refine tm_callV kX11 rfl (avs := []) (st := []) (okX11_storeMore hc28) wcX11_323.1 wcX11_323.2.1 wcX11_323.2.2.1 wcX11_323.2.2.2 ⟨rfl, rfl, Nat.le_of_ble_eq_true rfl, Nat.le_of_ble_eq_true rfl⟩ rfl (Nat.le_of_ble_eq_true rfl) ⟨Nat.zero_le _, Nat.zero_le _⟩ dX11_schedule_95 ?_
      obtain ⟨x30, ex30, h⟩ := bnd_some h
      refine tm_iinc (v := x30) (lc' := [(3, ti x30), (4, ti x20), (0, tr 11 0), (1, ti z1)]) dX11_schedule_98 rfl (by rw [ex30]; rfl) (by decide) rfl ?_
      refine tm_goto (tgt := 57) dX11_schedule_101 (by decide) ?_
      refine tm_lcp [0, 1, 3] rfl ?_
      exact ih x30 M29 _ h J
set_option maxHeartbeats 4000000 in
set_option maxRecDepth 100000 in
theorem okX11_schedule {g : tG} {a1 : Int32} {M : tM} {v : Int32} {Mz : tM} (h : fX11_schedule a1 M = some ((v, Mz))) : TMet g yX11_schedule (Cond.code yX11_schedule cX11_schedule 5 (some .int) :: tgd) rmX11_schedule [tr 11 0, ti a1] M (some (ti v)) Mz 0 0 := by
  have key : TW g iX11_schedule rmX11_schedule 0 0 (some (ti v)) Mz 0 0 0 [(0, tr 11 0), (1, ti a1)] [] M := by
    rw [fX11_schedule] at h
    refine tm_iload_n dX11_schedule_0 rfl rfl ?_
    refine tm_iconst (v := 0) dX11_schedule_1 (by decide) ?_
    refine tm_iconst (v := 2) dX11_schedule_2 (by decide) ?_
    obtain ⟨x1, hc2, h⟩ := obind_some h
    refine tm_callS (avs := [ti a1, ti 0, ti 2]) (st := []) (okX11_in hc2) wcX11_205.1 wcX11_205.2.1 wcX11_205.2.2 ⟨rfl, rfl, Nat.le_of_ble_eq_true rfl, Nat.le_of_ble_eq_true rfl⟩ rfl (Nat.le_of_ble_eq_true rfl) ⟨Nat.zero_le _, Nat.zero_le _⟩ dX11_schedule_3 ?_
    refine tm_if_ne (tgt := 11) dX11_schedule_6 (by decide) (fun c3 => ?_) (fun c3 => ?_)
    · rw [if_neg c3] at h
      refine tm_aload_n dX11_schedule_11 rfl rfl ?_
      refine tm_iconst (v := 1) dX11_schedule_12 (by decide) ?_
      obtain ⟨⟨x4, M6⟩, hc5, h⟩ := obind_some h
      dsimp only at h
      refine tm_callV kX11 rfl (avs := [ti 1]) (st := []) (okX11_barred hc5) wcX11_304.1 wcX11_304.2.1 wcX11_304.2.2.1 wcX11_304.2.2.2 ⟨rfl, rfl, Nat.le_of_ble_eq_true rfl, Nat.le_of_ble_eq_true rfl⟩ rfl (Nat.le_of_ble_eq_true rfl) ⟨Nat.zero_le _, Nat.zero_le _⟩ dX11_schedule_13 ?_
      refine tm_istore_n (lc' := [(2, ti x4), (0, tr 11 0), (1, ti a1)]) dX11_schedule_16 rfl (by decide) rfl ?_
      refine tm_iload_n dX11_schedule_17 rfl rfl ?_
      refine tm_if_ge (tgt := 23) dX11_schedule_18 (by decide) (fun c7 => ?_) (fun c7 => ?_)
      · rw [if_pos c7] at h
        refine tm_aload_n dX11_schedule_23 rfl rfl ?_
        refine tm_iconst (v := 0) dX11_schedule_24 (by decide) ?_
        obtain ⟨M9, hc8, h⟩ := obind_some h
        refine tm_callV kX11 rfl (avs := [ti 0]) (st := []) (okX11_markFirst hc8) wcX11_286.1 wcX11_286.2.1 wcX11_286.2.2.1 wcX11_286.2.2.2 ⟨rfl, rfl, Nat.le_of_ble_eq_true rfl, Nat.le_of_ble_eq_true rfl⟩ rfl (Nat.le_of_ble_eq_true rfl) ⟨Nat.zero_le _, Nat.zero_le _⟩ dX11_schedule_25 ?_
        refine tm_aload_n dX11_schedule_28 rfl rfl ?_
        obtain ⟨M11, hc10, h⟩ := obind_some h
        refine tm_callV kX11 rfl (avs := []) (st := []) (okX11_storeFirst hc10) wcX11_317.1 wcX11_317.2.1 wcX11_317.2.2.1 wcX11_317.2.2.2 ⟨rfl, rfl, Nat.le_of_ble_eq_true rfl, Nat.le_of_ble_eq_true rfl⟩ rfl (Nat.le_of_ble_eq_true rfl) ⟨Nat.zero_le _, Nat.zero_le _⟩ dX11_schedule_29 ?_
        refine tm_iconst (v := 0) dX11_schedule_32 (by decide) ?_
        refine tm_istore_n (lc' := [(3, ti 0), (2, ti x4), (0, tr 11 0), (1, ti a1)]) dX11_schedule_33 rfl (by decide) rfl ?_
        obtain ⟨w16, hE17, h⟩ := obind_some h
        refine tm_lcp [0, 1, 3] rfl ?_
        refine okX11_schedule_l34 a1 FU 0 M11 _ hE17 (fun M18 e => ?_)
        subst e
        refine tm_iconst (v := 0) dX11_schedule_55 (by decide) ?_
        refine tm_istore_n (lc' := [(3, ti 0), (0, tr 11 0), (1, ti a1)]) dX11_schedule_56 rfl (by decide) rfl ?_
        obtain ⟨w31, hE32, h⟩ := obind_some h
        refine tm_lcp [0, 1, 3] rfl ?_
        refine okX11_schedule_l57 a1 FU 0 M18 _ hE32 (fun M33 e => ?_)
        subst e
        refine tm_aload_n dX11_schedule_104 rfl rfl ?_
        refine tm_aload_n dX11_schedule_105 rfl rfl ?_
        refine tm_get kX11 rfl (j := 36) (by decide) wfX11_273 dX11_schedule_106 (v := ti (mI M33 11 0 36)) rfl ?_
        obtain ⟨⟨x34, M36⟩, hc35, h⟩ := obind_some h
        dsimp only at h
        refine tm_callV kX11 rfl (avs := [ti (mI M33 11 0 36)]) (st := []) (okX11_settle hc35) wcX11_326.1 wcX11_326.2.1 wcX11_326.2.2.1 wcX11_326.2.2.2 ⟨rfl, rfl, Nat.le_of_ble_eq_true rfl, Nat.le_of_ble_eq_true rfl⟩ rfl (Nat.le_of_ble_eq_true rfl) ⟨Nat.zero_le _, Nat.zero_le _⟩ dX11_schedule_109 ?_
        obtain ⟨rfl, rfl⟩ := pj2 h
        exact tm_iret rfl dX11_schedule_112
      · rw [if_neg c7] at h
        refine tm_iload_n dX11_schedule_21 rfl rfl ?_
        obtain ⟨rfl, rfl⟩ := pj2 h
        exact tm_iret rfl dX11_schedule_22
    · rw [if_pos c3] at h
      refine tm_iconst (v := (-1)) dX11_schedule_9 (by decide) ?_
      obtain ⟨rfl, rfl⟩ := pj2 h
      exact tm_iret rfl dX11_schedule_10
  exact TMet.of (by decide) (Nat.le_of_ble_eq_true rfl) key
theorem wfX11_135 : Cond.fieldLink RX11 135 "EvenFlowModel" "storesBefore" "[I" ∈ tgd := (tgd_t 1276 (by decide +kernel) (by decide +kernel))
abbrev iX11_bringStores : tY := (RX11, cX11_bringStores, 3, none, "bringStores")
abbrev rmX11_bringStores : Room := { frames := 0, cells := 0, slots := 0, locals := 0 }
def fX11_bringStores_l2 (z1 : Int32) : Nat → Int32 → tM → Option (tM)
  | 0, _, _ => none
  | n + 1, y2, M =>
    if (mI M 11 0 12) ≤ y2 then (
    some M
    ) else (
    chk (inb ((20 * z1) + y2) (mN M 1251 0)) <|
    chk (inb y2 (mN M 1246 0)) <|
    bnd (sI M 1246 0 (y2.toNatClampNeg) (mI M 1251 0 (((20 * z1) + y2).toNatClampNeg))) fun M4 =>
    bnd (y2 + 1) fun x5 =>
    fX11_bringStores_l2 z1 n x5 M4
    )
def fX11_bringStores (a1 : Int32) (M : tM) : Option (tM) :=
  Option.bind (fX11_bringStores_l2 a1 FU 0 M) fun M8 =>
  some M8
set_option maxHeartbeats 4000000 in
set_option maxRecDepth 100000 in
theorem okX11_bringStores_l2 {g : tG} (z1 : Int32) {r : Option tV} {Mz : tM} : ∀ (n : Nat) (y2 : Int32) (M : tM) (w : tM), fX11_bringStores_l2 z1 n y2 M = some w → (∀ (Mw : tM), Mw = w → TW g iX11_bringStores rmX11_bringStores 0 0 r Mz 0 0 33 [] [] Mw) → TW g iX11_bringStores rmX11_bringStores 0 0 r Mz 0 0 2 [(0, tr 11 0), (1, ti z1), (2, ti y2)] [] M := by
  intro n
  induction n with
  | zero => intro y2 M w h; cases h
  | succ n ih =>
    intro y2 M w h J
    rw [fX11_bringStores_l2] at h
    refine tm_iload_n dX11_bringStores_2 rfl rfl ?_
    refine tm_aload_n dX11_bringStores_3 rfl rfl ?_
    refine tm_get kX11 rfl (j := 12) (by decide) wfX11_209 dX11_bringStores_4 (v := ti (mI M 11 0 12)) rfl ?_
    refine tm_icmp_ge (tgt := 33) dX11_bringStores_7 (by decide) (fun c1 => ?_) (fun c1 => ?_)
    · rw [if_pos c1] at h
      obtain rfl := Option.some.inj h
      refine tm_lcp [] rfl ?_
      exact J _ rfl
    · rw [if_neg c1] at h
      refine tm_aload_n dX11_bringStores_10 rfl rfl ?_
      refine tm_get kX11 rfl (j := 46) (by decide) wfX11_123 dX11_bringStores_11 (v := tr 1246 0) rfl ?_
      refine tm_iload_n dX11_bringStores_14 rfl rfl ?_
      refine tm_aload_n dX11_bringStores_15 rfl rfl ?_
      refine tm_get kX11 rfl (j := 51) (by decide) wfX11_135 dX11_bringStores_16 (v := tr 1251 0) rfl ?_
      refine tm_bipush (v := 20) dX11_bringStores_19 (by decide) ?_
      refine tm_iload_n dX11_bringStores_21 rfl rfl ?_
      refine tm_imul dX11_bringStores_22 ?_
      refine tm_iload_n dX11_bringStores_23 rfl rfl ?_
      refine tm_iadd dX11_bringStores_24 ?_
      obtain ⟨b2, h⟩ := chk_some h
      refine tm_iald rfl dX11_bringStores_25 (inb_vp b2) ?_
      obtain ⟨b3, h⟩ := chk_some h
      obtain ⟨M4, eM4, h⟩ := bnd_some h
      refine tm_iast rfl dX11_bringStores_26 (inb_vp b3) ?_
      refine tm_nmM eM4 ?_
      obtain ⟨x5, ex5, h⟩ := bnd_some h
      refine tm_iinc (v := x5) (lc' := [(2, ti x5), (0, tr 11 0), (1, ti z1)]) dX11_bringStores_27 rfl (by rw [ex5]; rfl) (by decide) rfl ?_
      refine tm_goto (tgt := 2) dX11_bringStores_30 (by decide) ?_
      refine tm_lcp [0, 1, 2] rfl ?_
      exact ih x5 M4 _ h J
set_option maxHeartbeats 4000000 in
set_option maxRecDepth 100000 in
theorem okX11_bringStores {g : tG} {a1 : Int32} {M : tM} {Mz : tM} (h : fX11_bringStores a1 M = some Mz) : TMet g yX11_bringStores (Cond.code yX11_bringStores cX11_bringStores 3 (none) :: tgd) rmX11_bringStores [tr 11 0, ti a1] M none Mz 0 0 := by
  have key : TW g iX11_bringStores rmX11_bringStores 0 0 none Mz 0 0 0 [(0, tr 11 0), (1, ti a1)] [] M := by
    rw [fX11_bringStores] at h
    refine tm_iconst (v := 0) dX11_bringStores_0 (by decide) ?_
    refine tm_istore_n (lc' := [(2, ti 0), (0, tr 11 0), (1, ti a1)]) dX11_bringStores_1 rfl (by decide) rfl ?_
    obtain ⟨w6, hE7, h⟩ := obind_some h
    refine tm_lcp [0, 1, 2] rfl ?_
    refine okX11_bringStores_l2 a1 FU 0 M _ hE7 (fun M8 e => ?_)
    subst e
    obtain rfl := Option.some.inj h
    exact tm_vret rfl dX11_bringStores_33
  exact TMet.of (by decide) (Nat.le_of_ble_eq_true rfl) key
abbrev iX11_keepStores : tY := (RX11, cX11_keepStores, 3, none, "keepStores")
abbrev rmX11_keepStores : Room := { frames := 0, cells := 0, slots := 0, locals := 0 }
def fX11_keepStores_l2 (z1 : Int32) : Nat → Int32 → tM → Option (tM)
  | 0, _, _ => none
  | n + 1, y2, M =>
    if (mI M 11 0 12) ≤ y2 then (
    some M
    ) else (
    chk (inb y2 (mN M 1246 0)) <|
    chk (inb ((20 * z1) + y2) (mN M 1251 0)) <|
    bnd (sI M 1251 0 (((20 * z1) + y2).toNatClampNeg) (mI M 1246 0 (y2.toNatClampNeg))) fun M4 =>
    bnd (y2 + 1) fun x5 =>
    fX11_keepStores_l2 z1 n x5 M4
    )
def fX11_keepStores (a1 : Int32) (M : tM) : Option (tM) :=
  Option.bind (fX11_keepStores_l2 a1 FU 0 M) fun M8 =>
  some M8
set_option maxHeartbeats 4000000 in
set_option maxRecDepth 100000 in
theorem okX11_keepStores_l2 {g : tG} (z1 : Int32) {r : Option tV} {Mz : tM} : ∀ (n : Nat) (y2 : Int32) (M : tM) (w : tM), fX11_keepStores_l2 z1 n y2 M = some w → (∀ (Mw : tM), Mw = w → TW g iX11_keepStores rmX11_keepStores 0 0 r Mz 0 0 33 [] [] Mw) → TW g iX11_keepStores rmX11_keepStores 0 0 r Mz 0 0 2 [(0, tr 11 0), (1, ti z1), (2, ti y2)] [] M := by
  intro n
  induction n with
  | zero => intro y2 M w h; cases h
  | succ n ih =>
    intro y2 M w h J
    rw [fX11_keepStores_l2] at h
    refine tm_iload_n dX11_keepStores_2 rfl rfl ?_
    refine tm_aload_n dX11_keepStores_3 rfl rfl ?_
    refine tm_get kX11 rfl (j := 12) (by decide) wfX11_209 dX11_keepStores_4 (v := ti (mI M 11 0 12)) rfl ?_
    refine tm_icmp_ge (tgt := 33) dX11_keepStores_7 (by decide) (fun c1 => ?_) (fun c1 => ?_)
    · rw [if_pos c1] at h
      obtain rfl := Option.some.inj h
      refine tm_lcp [] rfl ?_
      exact J _ rfl
    · rw [if_neg c1] at h
      refine tm_aload_n dX11_keepStores_10 rfl rfl ?_
      refine tm_get kX11 rfl (j := 51) (by decide) wfX11_135 dX11_keepStores_11 (v := tr 1251 0) rfl ?_
      refine tm_bipush (v := 20) dX11_keepStores_14 (by decide) ?_
      refine tm_iload_n dX11_keepStores_16 rfl rfl ?_
      refine tm_imul dX11_keepStores_17 ?_
      refine tm_iload_n dX11_keepStores_18 rfl rfl ?_
      refine tm_iadd dX11_keepStores_19 ?_
      refine tm_aload_n dX11_keepStores_20 rfl rfl ?_
      refine tm_get kX11 rfl (j := 46) (by decide) wfX11_123 dX11_keepStores_21 (v := tr 1246 0) rfl ?_
      refine tm_iload_n dX11_keepStores_24 rfl rfl ?_
      obtain ⟨b2, h⟩ := chk_some h
      refine tm_iald rfl dX11_keepStores_25 (inb_vp b2) ?_
      obtain ⟨b3, h⟩ := chk_some h
      obtain ⟨M4, eM4, h⟩ := bnd_some h
      refine tm_iast rfl dX11_keepStores_26 (inb_vp b3) ?_
      refine tm_nmM eM4 ?_
      obtain ⟨x5, ex5, h⟩ := bnd_some h
      refine tm_iinc (v := x5) (lc' := [(2, ti x5), (0, tr 11 0), (1, ti z1)]) dX11_keepStores_27 rfl (by rw [ex5]; rfl) (by decide) rfl ?_
      refine tm_goto (tgt := 2) dX11_keepStores_30 (by decide) ?_
      refine tm_lcp [0, 1, 2] rfl ?_
      exact ih x5 M4 _ h J
set_option maxHeartbeats 4000000 in
set_option maxRecDepth 100000 in
theorem okX11_keepStores {g : tG} {a1 : Int32} {M : tM} {Mz : tM} (h : fX11_keepStores a1 M = some Mz) : TMet g yX11_keepStores (Cond.code yX11_keepStores cX11_keepStores 3 (none) :: tgd) rmX11_keepStores [tr 11 0, ti a1] M none Mz 0 0 := by
  have key : TW g iX11_keepStores rmX11_keepStores 0 0 none Mz 0 0 0 [(0, tr 11 0), (1, ti a1)] [] M := by
    rw [fX11_keepStores] at h
    refine tm_iconst (v := 0) dX11_keepStores_0 (by decide) ?_
    refine tm_istore_n (lc' := [(2, ti 0), (0, tr 11 0), (1, ti a1)]) dX11_keepStores_1 rfl (by decide) rfl ?_
    obtain ⟨w6, hE7, h⟩ := obind_some h
    refine tm_lcp [0, 1, 2] rfl ?_
    refine okX11_keepStores_l2 a1 FU 0 M _ hE7 (fun M8 e => ?_)
    subst e
    obtain rfl := Option.some.inj h
    exact tm_vret rfl dX11_keepStores_33
  exact TMet.of (by decide) (Nat.le_of_ble_eq_true rfl) key
theorem wfX11_132 : Cond.fieldLink RX11 132 "EvenFlowModel" "path" "[I" ∈ tgd := (tgd_t 1275 (by decide +kernel) (by decide +kernel))
theorem wfX11_138 : Cond.fieldLink RX11 138 "EvenFlowModel" "best" "[I" ∈ tgd := (tgd_t 1277 (by decide +kernel) (by decide +kernel))
theorem wfX11_141 : Cond.fieldLink RX11 141 "EvenFlowModel" "bestStores" "[I" ∈ tgd := (tgd_t 1278 (by decide +kernel) (by decide +kernel))
abbrev iX11_keepBest : tY := (RX11, cX11_keepBest, 2, none, "keepBest")
abbrev rmX11_keepBest : Room := { frames := 0, cells := 0, slots := 0, locals := 0 }
def fX11_keepBest_l2  : Nat → Int32 → tM → Option (tM)
  | 0, _, _ => none
  | n + 1, y1, M =>
    if (mI M 11 0 36) ≤ y1 then (
    some M
    ) else (
    chk (inb y1 (mN M 1250 0)) <|
    chk (inb y1 (mN M 1252 0)) <|
    bnd (sI M 1252 0 (y1.toNatClampNeg) (mI M 1250 0 (y1.toNatClampNeg))) fun M4 =>
    bnd (y1 + 1) fun x5 =>
    fX11_keepBest_l2 n x5 M4
    )
def fX11_keepBest_l30  : Nat → Int32 → tM → Option (tM)
  | 0, _, _ => none
  | n + 1, y1, M =>
    if (mI M 11 0 12) ≤ y1 then (
    some M
    ) else (
    chk (inb y1 (mN M 1246 0)) <|
    chk (inb y1 (mN M 1253 0)) <|
    bnd (sI M 1253 0 (y1.toNatClampNeg) (mI M 1246 0 (y1.toNatClampNeg))) fun M12 =>
    bnd (y1 + 1) fun x13 =>
    fX11_keepBest_l30 n x13 M12
    )
def fX11_keepBest  (M : tM) : Option (tM) :=
  Option.bind (fX11_keepBest_l2 FU 0 M) fun M8 =>
  Option.bind (fX11_keepBest_l30 FU 0 M8) fun M16 =>
  some M16
set_option maxHeartbeats 4000000 in
set_option maxRecDepth 100000 in
theorem okX11_keepBest_l2 {g : tG}  {r : Option tV} {Mz : tM} : ∀ (n : Nat) (y1 : Int32) (M : tM) (w : tM), fX11_keepBest_l2 n y1 M = some w → (∀ (Mw : tM), Mw = w → TW g iX11_keepBest rmX11_keepBest 0 0 r Mz 0 0 28 [(0, tr 11 0)] [] Mw) → TW g iX11_keepBest rmX11_keepBest 0 0 r Mz 0 0 2 [(0, tr 11 0), (1, ti y1)] [] M := by
  intro n
  induction n with
  | zero => intro y1 M w h; cases h
  | succ n ih =>
    intro y1 M w h J
    rw [fX11_keepBest_l2] at h
    refine tm_iload_n dX11_keepBest_2 rfl rfl ?_
    refine tm_aload_n dX11_keepBest_3 rfl rfl ?_
    refine tm_get kX11 rfl (j := 36) (by decide) wfX11_273 dX11_keepBest_4 (v := ti (mI M 11 0 36)) rfl ?_
    refine tm_icmp_ge (tgt := 28) dX11_keepBest_7 (by decide) (fun c1 => ?_) (fun c1 => ?_)
    · rw [if_pos c1] at h
      obtain rfl := Option.some.inj h
      refine tm_lcp [0] rfl ?_
      exact J _ rfl
    · rw [if_neg c1] at h
      refine tm_aload_n dX11_keepBest_10 rfl rfl ?_
      refine tm_get kX11 rfl (j := 52) (by decide) wfX11_138 dX11_keepBest_11 (v := tr 1252 0) rfl ?_
      refine tm_iload_n dX11_keepBest_14 rfl rfl ?_
      refine tm_aload_n dX11_keepBest_15 rfl rfl ?_
      refine tm_get kX11 rfl (j := 50) (by decide) wfX11_132 dX11_keepBest_16 (v := tr 1250 0) rfl ?_
      refine tm_iload_n dX11_keepBest_19 rfl rfl ?_
      obtain ⟨b2, h⟩ := chk_some h
      refine tm_iald rfl dX11_keepBest_20 (inb_vp b2) ?_
      obtain ⟨b3, h⟩ := chk_some h
      obtain ⟨M4, eM4, h⟩ := bnd_some h
      refine tm_iast rfl dX11_keepBest_21 (inb_vp b3) ?_
      refine tm_nmM eM4 ?_
      obtain ⟨x5, ex5, h⟩ := bnd_some h
      refine tm_iinc (v := x5) (lc' := [(1, ti x5), (0, tr 11 0)]) dX11_keepBest_22 rfl (by rw [ex5]; rfl) (by decide) rfl ?_
      refine tm_goto (tgt := 2) dX11_keepBest_25 (by decide) ?_
      refine tm_lcp [0, 1] rfl ?_
      exact ih x5 M4 _ h J
set_option maxHeartbeats 4000000 in
set_option maxRecDepth 100000 in
theorem okX11_keepBest_l30 {g : tG}  {r : Option tV} {Mz : tM} : ∀ (n : Nat) (y1 : Int32) (M : tM) (w : tM), fX11_keepBest_l30 n y1 M = some w → (∀ (Mw : tM), Mw = w → TW g iX11_keepBest rmX11_keepBest 0 0 r Mz 0 0 56 [] [] Mw) → TW g iX11_keepBest rmX11_keepBest 0 0 r Mz 0 0 30 [(0, tr 11 0), (1, ti y1)] [] M := by
  intro n
  induction n with
  | zero => intro y1 M w h; cases h
  | succ n ih =>
    intro y1 M w h J
    rw [fX11_keepBest_l30] at h
    refine tm_iload_n dX11_keepBest_30 rfl rfl ?_
    refine tm_aload_n dX11_keepBest_31 rfl rfl ?_
    refine tm_get kX11 rfl (j := 12) (by decide) wfX11_209 dX11_keepBest_32 (v := ti (mI M 11 0 12)) rfl ?_
    refine tm_icmp_ge (tgt := 56) dX11_keepBest_35 (by decide) (fun c9 => ?_) (fun c9 => ?_)
    · rw [if_pos c9] at h
      obtain rfl := Option.some.inj h
      refine tm_lcp [] rfl ?_
      exact J _ rfl
    · rw [if_neg c9] at h
      refine tm_aload_n dX11_keepBest_38 rfl rfl ?_
      refine tm_get kX11 rfl (j := 53) (by decide) wfX11_141 dX11_keepBest_39 (v := tr 1253 0) rfl ?_
      refine tm_iload_n dX11_keepBest_42 rfl rfl ?_
      refine tm_aload_n dX11_keepBest_43 rfl rfl ?_
      refine tm_get kX11 rfl (j := 46) (by decide) wfX11_123 dX11_keepBest_44 (v := tr 1246 0) rfl ?_
      refine tm_iload_n dX11_keepBest_47 rfl rfl ?_
      obtain ⟨b10, h⟩ := chk_some h
      refine tm_iald rfl dX11_keepBest_48 (inb_vp b10) ?_
      obtain ⟨b11, h⟩ := chk_some h
      obtain ⟨M12, eM12, h⟩ := bnd_some h
      refine tm_iast rfl dX11_keepBest_49 (inb_vp b11) ?_
      refine tm_nmM eM12 ?_
      obtain ⟨x13, ex13, h⟩ := bnd_some h
      refine tm_iinc (v := x13) (lc' := [(1, ti x13), (0, tr 11 0)]) dX11_keepBest_50 rfl (by rw [ex13]; rfl) (by decide) rfl ?_
      refine tm_goto (tgt := 30) dX11_keepBest_53 (by decide) ?_
      refine tm_lcp [0, 1] rfl ?_
      exact ih x13 M12 _ h J
set_option maxHeartbeats 4000000 in
set_option maxRecDepth 100000 in
theorem okX11_keepBest {g : tG}  {M : tM} {Mz : tM} (h : fX11_keepBest  M = some Mz) : TMet g yX11_keepBest (Cond.code yX11_keepBest cX11_keepBest 2 (none) :: tgd) rmX11_keepBest [tr 11 0] M none Mz 0 0 := by
  have key : TW g iX11_keepBest rmX11_keepBest 0 0 none Mz 0 0 0 [(0, tr 11 0)] [] M := by
    rw [fX11_keepBest] at h
    refine tm_iconst (v := 0) dX11_keepBest_0 (by decide) ?_
    refine tm_istore_n (lc' := [(1, ti 0), (0, tr 11 0)]) dX11_keepBest_1 rfl (by decide) rfl ?_
    obtain ⟨w6, hE7, h⟩ := obind_some h
    refine tm_lcp [0, 1] rfl ?_
    refine okX11_keepBest_l2  FU 0 M _ hE7 (fun M8 e => ?_)
    subst e
    refine tm_iconst (v := 0) dX11_keepBest_28 (by decide) ?_
    refine tm_istore_n (lc' := [(1, ti 0), (0, tr 11 0)]) dX11_keepBest_29 rfl (by decide) rfl ?_
    obtain ⟨w14, hE15, h⟩ := obind_some h
    refine tm_lcp [0, 1] rfl ?_
    refine okX11_keepBest_l30  FU 0 M8 _ hE15 (fun M16 e => ?_)
    subst e
    obtain rfl := Option.some.inj h
    exact tm_vret rfl dX11_keepBest_56
  exact TMet.of (by decide) (Nat.le_of_ble_eq_true rfl) key
