theorem woiX8_3 : Cond.methodLink RX8 3 objectInit ∈ tgd ∧ Cond.instanceMethod objectInit ∈ tgd ∧ Cond.code objectInit ⟨#[0xb1]⟩ 1 none ∈ tgd := ⟨(tgd_t 145 (by decide +kernel) (by decide +kernel)), (tgd_t 22 (by decide +kernel) (by decide +kernel)), (tgd_t 23 (by decide +kernel) (by decide +kernel))⟩
abbrev iX8_init : tY := (RX8, cX8_init, 3, none, "<init>")
abbrev rmX8_init : Room := { frames := 1, cells := 3, slots := 2024, locals := 20 }
def fX8_init  (M : tM) : Option (tM) :=
  chk (!mE M 902 0) <|
  bnd (mA M 902 0 ((2000 : Int32).toNatClampNeg)) fun M2 =>
  chk (!mE M2 8 0) <|
  bnd (sR M2 20 0 2 (some 0)) fun M4 =>
  chk (!mE M4 904 0) <|
  bnd (mA M4 904 0 ((20 : Int32).toNatClampNeg)) fun M6 =>
  chk (!mE M6 8 0) <|
  bnd (sR M6 20 0 4 (some 0)) fun M8 =>
  chk (!mE M8 905 0) <|
  bnd (mA M8 905 0 ((4 : Int32).toNatClampNeg)) fun M10 =>
  chk (!mE M10 8 0) <|
  bnd (sR M10 20 0 5 (some 0)) fun M12 =>
  chk (!mE M12 8 0) <|
  bnd (sR M12 20 0 0 (some 0)) fun M14 =>
  chk (!mE M14 8 0) <|
  bnd (sR M14 20 0 1 (some 0)) fun M16 =>
  some M16
set_option maxHeartbeats 4000000 in
set_option maxRecDepth 100000 in
theorem okX8_init {g : tG}  {M : tM} {Mz : tM} (h : fX8_init  M = some Mz) : TMet g yX8_init (Cond.code yX8_init cX8_init 3 (none) :: tgd) rmX8_init [tr 20 0, tr 1 0, tr 5 0] M none Mz 3 2024 := by
  have key : TW g iX8_init rmX8_init 3 2024 none Mz 0 0 0 [(0, tr 20 0), (1, tr 1 0), (2, tr 5 0)] [] M := by
    rw [fX8_init] at h
    refine tm_aload_n dX8_init_0 rfl rfl ?_
    refine tm_objInit woiX8_3.1 woiX8_3.2.1 woiX8_3.2.2 ⟨by decide, by decide⟩ dX8_init_1 ?_
    refine tm_aload_n dX8_init_4 rfl rfl ?_
    refine tm_sipush (v := 2000) dX8_init_5 (by decide) ?_
    replace h := chk_some h
    obtain ⟨b1, h⟩ := h
    replace h := bnd_some h
    obtain ⟨M2, eM2, h⟩ := h
    refine tm_newa (k := 902) (i := 0) ⟨rfl, rfl⟩ rfl (fun _ _ => rfl) wac_int (nt_of b1) (fun _ => Or.inl rfl) (by decide) (by decide) (by decide +kernel) ⟨Nat.le_of_ble_eq_true rfl, by decide +kernel⟩ (fun _ _ h => h) dX8_init_8 ?_
    refine tm_nmM eM2 ?_
    refine tm_widen (c2 := 1) (s2 := 2000) (Nat.le_refl _) (by decide +kernel) ?_
    replace h := chk_some h
    obtain ⟨b3, h⟩ := h
    replace h := bnd_some h
    obtain ⟨M4, eM4, h⟩ := h
    refine tm_putF (y := iX8_init) (idx := 9) kX8 rfl (j := 2) (by decide) wfX8_9 rfl rfl rfl dX8_init_10 (fun _ => ⟨rfl, rfl⟩) (tPut_R (k2 := 902) (some 0) rfl) (hgh := tgh_of (k := 8) rfl b3) ?_
    refine tm_nmM eM4 ?_
    refine tm_aload_n dX8_init_13 rfl rfl ?_
    refine tm_bipush (v := 20) dX8_init_14 (by decide) ?_
    replace h := chk_some h
    obtain ⟨b5, h⟩ := h
    replace h := bnd_some h
    obtain ⟨M6, eM6, h⟩ := h
    refine tm_newa (k := 904) (i := 0) ⟨rfl, rfl⟩ rfl (fun _ _ => rfl) wac_int (nt_of b5) (fun _ => Or.inl rfl) (by decide) (by decide) (by decide +kernel) ⟨Nat.le_of_ble_eq_true rfl, by decide +kernel⟩ (fun _ _ h => h) dX8_init_16 ?_
    refine tm_nmM eM6 ?_
    refine tm_widen (c2 := 2) (s2 := 2020) (Nat.le_refl _) (by decide +kernel) ?_
    replace h := chk_some h
    obtain ⟨b7, h⟩ := h
    replace h := bnd_some h
    obtain ⟨M8, eM8, h⟩ := h
    refine tm_putF (y := iX8_init) (idx := 15) kX8 rfl (j := 4) (by decide) wfX8_15 rfl rfl rfl dX8_init_18 (fun _ => ⟨rfl, rfl⟩) (tPut_R (k2 := 904) (some 0) rfl) (hgh := tgh_of (k := 8) rfl b7) ?_
    refine tm_nmM eM8 ?_
    refine tm_aload_n dX8_init_21 rfl rfl ?_
    refine tm_iconst (v := 4) dX8_init_22 (by decide) ?_
    replace h := chk_some h
    obtain ⟨b9, h⟩ := h
    replace h := bnd_some h
    obtain ⟨M10, eM10, h⟩ := h
    refine tm_newa (k := 905) (i := 0) ⟨rfl, rfl⟩ rfl (fun _ _ => rfl) wac_int (nt_of b9) (fun _ => Or.inl rfl) (by decide) (by decide) (by decide +kernel) ⟨Nat.le_of_ble_eq_true rfl, by decide +kernel⟩ (fun _ _ h => h) dX8_init_23 ?_
    refine tm_nmM eM10 ?_
    refine tm_widen (c2 := 3) (s2 := 2024) (Nat.le_refl _) (by decide +kernel) ?_
    replace h := chk_some h
    obtain ⟨b11, h⟩ := h
    replace h := bnd_some h
    obtain ⟨M12, eM12, h⟩ := h
    refine tm_putF (y := iX8_init) (idx := 18) kX8 rfl (j := 5) (by decide) wfX8_18 rfl rfl rfl dX8_init_25 (fun _ => ⟨rfl, rfl⟩) (tPut_R (k2 := 905) (some 0) rfl) (hgh := tgh_of (k := 8) rfl b11) ?_
    refine tm_nmM eM12 ?_
    refine tm_aload_n dX8_init_28 rfl rfl ?_
    refine tm_aload_n dX8_init_29 rfl rfl ?_
    replace h := chk_some h
    obtain ⟨b13, h⟩ := h
    replace h := bnd_some h
    obtain ⟨M14, eM14, h⟩ := h
    refine tm_putF (y := iX8_init) (idx := 21) kX8 rfl (j := 0) (by decide) wfX8_21 rfl rfl rfl dX8_init_30 (fun _ => ⟨rfl, rfl⟩) (tPut_R (k2 := 1) (some 0) rfl) (hgh := tgh_of (k := 8) rfl b13) ?_
    refine tm_nmM eM14 ?_
    refine tm_aload_n dX8_init_33 rfl rfl ?_
    refine tm_aload_n dX8_init_34 rfl rfl ?_
    replace h := chk_some h
    obtain ⟨b15, h⟩ := h
    replace h := bnd_some h
    obtain ⟨M16, eM16, h⟩ := h
    refine tm_putF (y := iX8_init) (idx := 25) kX8 rfl (j := 1) (by decide) wfX8_25 rfl rfl rfl dX8_init_35 (fun _ => ⟨rfl, rfl⟩) (tPut_R (k2 := 5) (some 0) rfl) (hgh := tgh_of (k := 8) rfl b15) ?_
    refine tm_nmM eM16 ?_
    obtain rfl := Option.some.inj h
    exact tm_vret rfl dX8_init_38
  exact TMet.of (by decide) (Nat.le_of_ble_eq_true rfl) key
theorem woiX9_3 : Cond.methodLink RX9 3 objectInit ∈ tgd ∧ Cond.instanceMethod objectInit ∈ tgd ∧ Cond.code objectInit ⟨#[0xb1]⟩ 1 none ∈ tgd := ⟨(tgd_t 317 (by decide +kernel) (by decide +kernel)), (tgd_t 22 (by decide +kernel) (by decide +kernel)), (tgd_t 23 (by decide +kernel) (by decide +kernel))⟩
abbrev iX9_init : tY := (RX9, cX9_init, 2, none, "<init>")
abbrev rmX9_init : Room := { frames := 1, cells := 1, slots := 3, locals := 20 }
def fX9_init  (M : tM) : Option (tM) :=
  chk (!mE M 1005 0) <|
  bnd (mA M 1005 0 ((3 : Int32).toNatClampNeg)) fun M2 =>
  chk (!mE M2 9 0) <|
  bnd (sR M2 21 0 5 (some 0)) fun M4 =>
  chk (!mE M4 9 0) <|
  bnd (sR M4 21 0 0 (some 0)) fun M6 =>
  some M6
set_option maxHeartbeats 4000000 in
set_option maxRecDepth 100000 in
theorem okX9_init {g : tG}  {M : tM} {Mz : tM} (h : fX9_init  M = some Mz) : TMet g yX9_init (Cond.code yX9_init cX9_init 2 (none) :: tgd) rmX9_init [tr 21 0, tr 1 0] M none Mz 1 3 := by
  have key : TW g iX9_init rmX9_init 1 3 none Mz 0 0 0 [(0, tr 21 0), (1, tr 1 0)] [] M := by
    rw [fX9_init] at h
    refine tm_aload_n dX9_init_0 rfl rfl ?_
    refine tm_objInit woiX9_3.1 woiX9_3.2.1 woiX9_3.2.2 ⟨by decide, by decide⟩ dX9_init_1 ?_
    refine tm_aload_n dX9_init_4 rfl rfl ?_
    refine tm_iconst (v := 3) dX9_init_5 (by decide) ?_
    replace h := chk_some h
    obtain ⟨b1, h⟩ := h
    replace h := bnd_some h
    obtain ⟨M2, eM2, h⟩ := h
    refine tm_newa (k := 1005) (i := 0) ⟨rfl, rfl⟩ rfl (fun _ _ => rfl) wac_int (nt_of b1) (fun _ => Or.inl rfl) (by decide) (by decide) (by decide +kernel) ⟨Nat.le_of_ble_eq_true rfl, by decide +kernel⟩ (fun _ _ h => h) dX9_init_6 ?_
    refine tm_nmM eM2 ?_
    refine tm_widen (c2 := 1) (s2 := 3) (Nat.le_refl _) (by decide +kernel) ?_
    replace h := chk_some h
    obtain ⟨b3, h⟩ := h
    replace h := bnd_some h
    obtain ⟨M4, eM4, h⟩ := h
    refine tm_putF (y := iX9_init) (idx := 11) kX9 rfl (j := 5) (by decide) wfX9_11 rfl rfl rfl dX9_init_8 (fun _ => ⟨rfl, rfl⟩) (tPut_R (k2 := 1005) (some 0) rfl) (hgh := tgh_of (k := 9) rfl b3) ?_
    refine tm_nmM eM4 ?_
    refine tm_aload_n dX9_init_11 rfl rfl ?_
    refine tm_aload_n dX9_init_12 rfl rfl ?_
    replace h := chk_some h
    obtain ⟨b5, h⟩ := h
    replace h := bnd_some h
    obtain ⟨M6, eM6, h⟩ := h
    refine tm_putF (y := iX9_init) (idx := 15) kX9 rfl (j := 0) (by decide) wfX9_15 rfl rfl rfl dX9_init_13 (fun _ => ⟨rfl, rfl⟩) (tPut_R (k2 := 1) (some 0) rfl) (hgh := tgh_of (k := 9) rfl b5) ?_
    refine tm_nmM eM6 ?_
    obtain rfl := Option.some.inj h
    exact tm_vret rfl dX9_init_16
  exact TMet.of (by decide) (Nat.le_of_ble_eq_true rfl) key
theorem wcX10_9 : tCB RX10 9 yX1_init cX1_init 1 (none) 0 ∧ (RX10, 9, yX1_init, "EvenFlow") ∈ tNest ∧ Cond.instanceMethod yX1_init ∈ tgd := ⟨⟨(tgd_t 28 (by decide +kernel) (by decide +kernel)), (tgd_t 2 (by decide +kernel) (by decide +kernel)), by decide, by decide +kernel⟩, (by decide +kernel), (tgd_t 27 (by decide +kernel) (by decide +kernel))⟩
theorem wcX10_18 : tCB RX10 18 yX5_init cX5_init 2 (none) 1 ∧ Cond.methodLink RX10 18 yX5_init ∈ tgd ∧ Cond.instanceMethod yX5_init ∈ tgd := ⟨⟨(tgd_t 100 (by decide +kernel) (by decide +kernel)), (tgd_t 3 (by decide +kernel) (by decide +kernel)), by decide, by decide +kernel⟩, (tgd_t 98 (by decide +kernel) (by decide +kernel)), (tgd_t 99 (by decide +kernel) (by decide +kernel))⟩
theorem wcX10_23 : tCB RX10 23 yX8_init cX8_init 3 (none) 2 ∧ Cond.methodLink RX10 23 yX8_init ∈ tgd ∧ Cond.instanceMethod yX8_init ∈ tgd := ⟨⟨(tgd_t 144 (by decide +kernel) (by decide +kernel)), (tgd_t 4 (by decide +kernel) (by decide +kernel)), by decide, by decide +kernel⟩, (tgd_t 142 (by decide +kernel) (by decide +kernel)), (tgd_t 143 (by decide +kernel) (by decide +kernel))⟩
theorem wcX10_32 : tCB RX10 32 yX2_init cX2_init 3 (none) 2 ∧ Cond.methodLink RX10 32 yX2_init ∈ tgd ∧ Cond.instanceMethod yX2_init ∈ tgd := ⟨⟨(tgd_t 173 (by decide +kernel) (by decide +kernel)), (tgd_t 5 (by decide +kernel) (by decide +kernel)), by decide, by decide +kernel⟩, (tgd_t 171 (by decide +kernel) (by decide +kernel)), (tgd_t 172 (by decide +kernel) (by decide +kernel))⟩
theorem wcX10_39 : tCB RX10 39 yX3_init cX3_init 3 (none) 2 ∧ Cond.methodLink RX10 39 yX3_init ∈ tgd ∧ Cond.instanceMethod yX3_init ∈ tgd := ⟨⟨(tgd_t 198 (by decide +kernel) (by decide +kernel)), (tgd_t 6 (by decide +kernel) (by decide +kernel)), by decide, by decide +kernel⟩, (tgd_t 196 (by decide +kernel) (by decide +kernel)), (tgd_t 197 (by decide +kernel) (by decide +kernel))⟩
theorem wcX10_46 : tCB RX10 46 yX6_init cX6_init 2 (none) 1 ∧ Cond.methodLink RX10 46 yX6_init ∈ tgd ∧ Cond.instanceMethod yX6_init ∈ tgd := ⟨⟨(tgd_t 234 (by decide +kernel) (by decide +kernel)), (tgd_t 7 (by decide +kernel) (by decide +kernel)), by decide, by decide +kernel⟩, (tgd_t 232 (by decide +kernel) (by decide +kernel)), (tgd_t 233 (by decide +kernel) (by decide +kernel))⟩
theorem wcX10_53 : tCB RX10 53 yX0_init cX0_init 2 (none) 1 ∧ Cond.methodLink RX10 53 yX0_init ∈ tgd ∧ Cond.instanceMethod yX0_init ∈ tgd := ⟨⟨(tgd_t 268 (by decide +kernel) (by decide +kernel)), (tgd_t 8 (by decide +kernel) (by decide +kernel)), by decide, by decide +kernel⟩, (tgd_t 266 (by decide +kernel) (by decide +kernel)), (tgd_t 267 (by decide +kernel) (by decide +kernel))⟩
theorem wcX10_60 : tCB RX10 60 yX9_init cX9_init 2 (none) 1 ∧ Cond.methodLink RX10 60 yX9_init ∈ tgd ∧ Cond.instanceMethod yX9_init ∈ tgd := ⟨⟨(tgd_t 316 (by decide +kernel) (by decide +kernel)), (tgd_t 9 (by decide +kernel) (by decide +kernel)), by decide, by decide +kernel⟩, (tgd_t 314 (by decide +kernel) (by decide +kernel)), (tgd_t 315 (by decide +kernel) (by decide +kernel))⟩
theorem wclX10_7 : Cond.classLink RX10 7 "EvenFlow$Graph" ∈ tgd := (tgd_t 24 (by decide +kernel) (by decide +kernel))
theorem wclX10_16 : Cond.classLink RX10 16 "EvenFlow$Marking" ∈ tgd := (tgd_t 96 (by decide +kernel) (by decide +kernel))
theorem wclX10_21 : Cond.classLink RX10 21 "EvenFlow$Plan" ∈ tgd := (tgd_t 140 (by decide +kernel) (by decide +kernel))
theorem wclX10_30 : Cond.classLink RX10 30 "EvenFlow$Lack" ∈ tgd := (tgd_t 169 (by decide +kernel) (by decide +kernel))
theorem wclX10_37 : Cond.classLink RX10 37 "EvenFlow$Least" ∈ tgd := (tgd_t 194 (by decide +kernel) (by decide +kernel))
theorem wclX10_44 : Cond.classLink RX10 44 "EvenFlow$Once" ∈ tgd := (tgd_t 230 (by decide +kernel) (by decide +kernel))
theorem wclX10_51 : Cond.classLink RX10 51 "EvenFlow$Beat" ∈ tgd := (tgd_t 264 (by decide +kernel) (by decide +kernel))
theorem wclX10_58 : Cond.classLink RX10 58 "EvenFlow$Works" ∈ tgd := (tgd_t 312 (by decide +kernel) (by decide +kernel))
theorem wniX0_0 : Cond.instantiable RX0 13 ∈ tgd ∧ Cond.initialized RX0 ∈ tgd := ⟨(tgd_t 265 (by decide +kernel) (by decide +kernel)), (tgd_t 8 (by decide +kernel) (by decide +kernel))⟩
theorem wniX1_0 : Cond.instantiable RX1 10 ∈ tgd ∧ Cond.initialized RX1 ∈ tgd := ⟨(tgd_t 25 (by decide +kernel) (by decide +kernel)), (tgd_t 2 (by decide +kernel) (by decide +kernel))⟩
theorem wniX2_0 : Cond.instantiable RX2 6 ∈ tgd ∧ Cond.initialized RX2 ∈ tgd := ⟨(tgd_t 170 (by decide +kernel) (by decide +kernel)), (tgd_t 5 (by decide +kernel) (by decide +kernel))⟩
theorem wniX3_0 : Cond.instantiable RX3 9 ∈ tgd ∧ Cond.initialized RX3 ∈ tgd := ⟨(tgd_t 195 (by decide +kernel) (by decide +kernel)), (tgd_t 6 (by decide +kernel) (by decide +kernel))⟩
theorem wniX5_0 : Cond.instantiable RX5 9 ∈ tgd ∧ Cond.initialized RX5 ∈ tgd := ⟨(tgd_t 97 (by decide +kernel) (by decide +kernel)), (tgd_t 3 (by decide +kernel) (by decide +kernel))⟩
theorem wniX6_0 : Cond.instantiable RX6 9 ∈ tgd ∧ Cond.initialized RX6 ∈ tgd := ⟨(tgd_t 231 (by decide +kernel) (by decide +kernel)), (tgd_t 7 (by decide +kernel) (by decide +kernel))⟩
theorem wniX8_0 : Cond.instantiable RX8 6 ∈ tgd ∧ Cond.initialized RX8 ∈ tgd := ⟨(tgd_t 141 (by decide +kernel) (by decide +kernel)), (tgd_t 4 (by decide +kernel) (by decide +kernel))⟩
theorem wniX9_0 : Cond.instantiable RX9 7 ∈ tgd ∧ Cond.initialized RX9 ∈ tgd := ⟨(tgd_t 313 (by decide +kernel) (by decide +kernel)), (tgd_t 9 (by decide +kernel) (by decide +kernel))⟩
theorem woiX10_1 : Cond.methodLink RX10 1 objectInit ∈ tgd ∧ Cond.instanceMethod objectInit ∈ tgd ∧ Cond.code objectInit ⟨#[0xb1]⟩ 1 none ∈ tgd := ⟨(tgd_t 21 (by decide +kernel) (by decide +kernel)), (tgd_t 22 (by decide +kernel) (by decide +kernel)), (tgd_t 23 (by decide +kernel) (by decide +kernel))⟩
abbrev iX10_init : tY := (RX10, cX10_init, 2, none, "<init>")
abbrev rmX10_init : Room := { frames := 2, cells := 40, slots := 7954, locals := 42 }
def fX10_init  (M : tM) : Option (tM) :=
  chk (!mE M 13 0) <|
  bnd (mA M 13 0 10) fun M2 =>
  (fX1_init M2).bind fun M4 =>
  chk (!mE M4 1 0) <|
  chk (tfix M4 13 1 0) <|
  bnd (mF M4 13 1 0) fun M7 =>
  chk (!mE M7 10 0) <|
  bnd (sR M7 22 0 0 (some 0)) fun M9 =>
  chk (!mE M9 17 0) <|
  bnd (mA M9 17 0 9) fun M11 =>
  chk (!mE M11 10 0) <|
  bnd (mR M11 22 0 0) fun r13 =>
  chk (decide (r13 = some 0)) <|
  (fX5_init M11).bind fun M17 =>
  chk (!mE M17 5 0) <|
  chk (tfix M17 17 5 0) <|
  bnd (mF M17 17 5 0) fun M20 =>
  chk (!mE M20 20 0) <|
  bnd (mA M20 20 0 6) fun M22 =>
  chk (!mE M22 10 0) <|
  bnd (mR M22 22 0 0) fun r24 =>
  chk (decide (r24 = some 0)) <|
  (fX8_init M22).bind fun M28 =>
  chk (!mE M28 8 0) <|
  chk (tfix M28 20 8 0) <|
  bnd (mF M28 20 8 0) fun M31 =>
  chk (!mE M31 10 0) <|
  bnd (sR M31 22 0 1 (some 0)) fun M33 =>
  chk (!mE M33 14 0) <|
  bnd (mA M33 14 0 6) fun M35 =>
  chk (!mE M35 10 0) <|
  bnd (mR M35 22 0 0) fun r37 =>
  chk (decide (r37 = some 0)) <|
  (fX2_init M35).bind fun M41 =>
  chk (!mE M41 2 0) <|
  chk (tfix M41 14 2 0) <|
  bnd (mF M41 14 2 0) fun M44 =>
  chk (!mE M44 10 0) <|
  bnd (sR M44 22 0 2 (some 0)) fun M46 =>
  chk (!mE M46 15 0) <|
  bnd (mA M46 15 0 9) fun M48 =>
  chk (!mE M48 10 0) <|
  bnd (mR M48 22 0 0) fun r50 =>
  chk (decide (r50 = some 0)) <|
  (fX3_init M48).bind fun M54 =>
  chk (!mE M54 3 0) <|
  chk (tfix M54 15 3 0) <|
  bnd (mF M54 15 3 0) fun M57 =>
  chk (!mE M57 10 0) <|
  bnd (sR M57 22 0 3 (some 0)) fun M59 =>
  chk (!mE M59 18 0) <|
  bnd (mA M59 18 0 9) fun M61 =>
  chk (!mE M61 10 0) <|
  bnd (mR M61 22 0 0) fun r63 =>
  chk (decide (r63 = some 0)) <|
  (fX6_init M61).bind fun M67 =>
  chk (!mE M67 6 0) <|
  chk (tfix M67 18 6 0) <|
  bnd (mF M67 18 6 0) fun M70 =>
  chk (!mE M70 10 0) <|
  bnd (sR M70 22 0 4 (some 0)) fun M72 =>
  chk (!mE M72 12 0) <|
  bnd (mA M72 12 0 13) fun M74 =>
  chk (!mE M74 10 0) <|
  bnd (mR M74 22 0 0) fun r76 =>
  chk (decide (r76 = some 0)) <|
  (fX0_init M74).bind fun M80 =>
  chk (!mE M80 0 0) <|
  chk (tfix M80 12 0 0) <|
  bnd (mF M80 12 0 0) fun M83 =>
  chk (!mE M83 10 0) <|
  bnd (sR M83 22 0 5 (some 0)) fun M85 =>
  chk (!mE M85 21 0) <|
  bnd (mA M85 21 0 7) fun M87 =>
  chk (!mE M87 10 0) <|
  bnd (mR M87 22 0 0) fun r89 =>
  chk (decide (r89 = some 0)) <|
  (fX9_init M87).bind fun M93 =>
  chk (!mE M93 9 0) <|
  chk (tfix M93 21 9 0) <|
  bnd (mF M93 21 9 0) fun M96 =>
  chk (!mE M96 10 0) <|
  bnd (sR M96 22 0 6 (some 0)) fun M98 =>
  chk (!mE M98 1107 0) <|
  bnd (mA M98 1107 0 ((200 : Int32).toNatClampNeg)) fun M100 =>
  chk (!mE M100 10 0) <|
  bnd (sR M100 22 0 7 (some 0)) fun M102 =>
  chk (!mE M102 1110 0) <|
  bnd (mA M102 1110 0 ((6 : Int32).toNatClampNeg)) fun M104 =>
  chk (!mE M104 10 0) <|
  bnd (sR M104 22 0 10 (some 0)) fun M106 =>
  some M106
set_option maxHeartbeats 4000000 in
set_option maxRecDepth 100000 in
theorem okX10_init {g : tG}  {M : tM} {Mz : tM} (h : fX10_init  M = some Mz) : TMet g yX10_init (Cond.code yX10_init cX10_init 2 (none) :: tgd) rmX10_init [tr 22 0] M none Mz 40 7954 := by
  have key : TW g iX10_init rmX10_init 40 7954 none Mz 0 0 0 [(0, tr 22 0)] [] M := by
    rw [fX10_init] at h
    refine tm_aload_n dX10_init_0 rfl rfl ?_
    refine tm_objInit woiX10_1.1 woiX10_1.2.1 woiX10_1.2.2 ⟨by decide, by decide⟩ dX10_init_1 ?_
    refine tm_aload_n dX10_init_4 rfl rfl ?_
    replace h := chk_some h
    obtain ⟨b1, h⟩ := h
    replace h := bnd_some h
    obtain ⟨M2, eM2, h⟩ := h
    refine tm_new kX1 (k := 13) (i := 0) rfl dfX1 wclX10_7 wniX1_0.1 wniX1_0.2 (nt_of b1) rwX1 (by decide) ⟨Nat.le_of_ble_eq_true rfl, Nat.le_of_ble_eq_true rfl⟩ dX10_init_5 ?_
    refine tm_nmM eM2 ?_
    refine tm_dup dX10_init_8 rfl ?_
    replace h := obind_some h
    obtain ⟨M4, hc3, h⟩ := h
    refine tm_callIN (avs := []) (st := [tr 13 0, tr 22 0]) (okX1_init hc3) wcX10_9.1 wcX10_9.2.1 wcX10_9.2.2 rfl ⟨rfl, rfl, Nat.le_of_ble_eq_true rfl, Nat.le_of_ble_eq_true rfl⟩ rfl (Nat.le_of_ble_eq_true rfl) ⟨Nat.le_of_ble_eq_true rfl, Nat.le_of_ble_eq_true rfl⟩ dX10_init_9 ?_
    replace h := chk_some h
    obtain ⟨b5, h⟩ := h
    replace h := chk_some h
    obtain ⟨b6, h⟩ := h
    replace h := bnd_some h
    obtain ⟨M7, eM7, h⟩ := h
    refine tm_fin (kc := 13) (k := 1) rfl (by decide) rfl rfl finX1 b5 b6 ?_
    refine tm_nmM eM7 ?_
    replace h := chk_some h
    obtain ⟨b8, h⟩ := h
    replace h := bnd_some h
    obtain ⟨M9, eM9, h⟩ := h
    refine tm_putF (y := iX10_init) (idx := 10) kX10 rfl (j := 0) (by decide) wfX10_10 rfl rfl rfl dX10_init_12 (fun _ => ⟨rfl, rfl⟩) (tPut_R (k2 := 1) (some 0) rfl) (hgh := tgh_of (k := 10) rfl b8) ?_
    refine tm_nmM eM9 ?_
    replace h := chk_some h
    obtain ⟨b10, h⟩ := h
    replace h := bnd_some h
    obtain ⟨M11, eM11, h⟩ := h
    refine tm_new kX5 (k := 17) (i := 0) rfl dfX5 wclX10_16 wniX5_0.1 wniX5_0.2 (nt_of b10) rwX5 (by decide) ⟨Nat.le_of_ble_eq_true rfl, Nat.le_of_ble_eq_true rfl⟩ dX10_init_15 ?_
    refine tm_nmM eM11 ?_
    refine tm_dup dX10_init_18 rfl ?_
    refine tm_aload_n dX10_init_19 rfl rfl ?_
    replace h := chk_some h
    obtain ⟨b12, h⟩ := h
    refine tm_get kX10 rfl (j := 0) (by decide) wfX10_10 dX10_init_20 (hgh := tgh_of (k := 10) rfl b12) (v := tq 1 (mR M11 22 0 0)) rfl ?_
    replace h := bnd_some h
    obtain ⟨r13, er13, h⟩ := h
    refine tm_nmQ er13 ?_
    replace h := chk_some h
    obtain ⟨b14, h⟩ := h
    have hq15 := of_decide_eq_true b14
    subst hq15
    replace h := obind_some h
    obtain ⟨M17, hc16, h⟩ := h
    refine tm_callI (avs := [tr 1 0]) (st := [tr 17 0]) (okX5_init hc16) wcX10_18.1 wcX10_18.2.1 wcX10_18.2.2 rfl ⟨rfl, rfl, Nat.le_of_ble_eq_true rfl, Nat.le_of_ble_eq_true rfl⟩ rfl (Nat.le_of_ble_eq_true rfl) ⟨Nat.le_of_ble_eq_true rfl, Nat.le_of_ble_eq_true rfl⟩ dX10_init_23 ?_
    replace h := chk_some h
    obtain ⟨b18, h⟩ := h
    replace h := chk_some h
    obtain ⟨b19, h⟩ := h
    replace h := bnd_some h
    obtain ⟨M20, eM20, h⟩ := h
    refine tm_fin (kc := 17) (k := 5) rfl (by decide) rfl rfl finX5 b18 b19 ?_
    refine tm_nmM eM20 ?_
    refine tm_astore_n (lc' := [(1, tr 5 0), (0, tr 22 0)]) dX10_init_26 rfl (by decide) rfl ?_
    refine tm_aload_n dX10_init_27 rfl rfl ?_
    replace h := chk_some h
    obtain ⟨b21, h⟩ := h
    replace h := bnd_some h
    obtain ⟨M22, eM22, h⟩ := h
    refine tm_new kX8 (k := 20) (i := 0) rfl dfX8 wclX10_21 wniX8_0.1 wniX8_0.2 (nt_of b21) rwX8 (by decide) ⟨Nat.le_of_ble_eq_true rfl, Nat.le_of_ble_eq_true rfl⟩ dX10_init_28 ?_
    refine tm_nmM eM22 ?_
    refine tm_dup dX10_init_31 rfl ?_
    refine tm_aload_n dX10_init_32 rfl rfl ?_
    replace h := chk_some h
    obtain ⟨b23, h⟩ := h
    refine tm_get kX10 rfl (j := 0) (by decide) wfX10_10 dX10_init_33 (hgh := tgh_of (k := 10) rfl b23) (v := tq 1 (mR M22 22 0 0)) rfl ?_
    replace h := bnd_some h
    obtain ⟨r24, er24, h⟩ := h
    refine tm_nmQ er24 ?_
    refine tm_aload_n dX10_init_36 rfl rfl ?_
    replace h := chk_some h
    obtain ⟨b25, h⟩ := h
    have hq26 := of_decide_eq_true b25
    subst hq26
    replace h := obind_some h
    obtain ⟨M28, hc27, h⟩ := h
    refine tm_callI (avs := [tr 1 0, tr 5 0]) (st := [tr 20 0, tr 22 0]) (okX8_init hc27) wcX10_23.1 wcX10_23.2.1 wcX10_23.2.2 rfl ⟨rfl, rfl, Nat.le_of_ble_eq_true rfl, Nat.le_of_ble_eq_true rfl⟩ rfl (Nat.le_of_ble_eq_true rfl) ⟨Nat.le_of_ble_eq_true rfl, Nat.le_of_ble_eq_true rfl⟩ dX10_init_37 ?_
    replace h := chk_some h
    obtain ⟨b29, h⟩ := h
    replace h := chk_some h
    obtain ⟨b30, h⟩ := h
    replace h := bnd_some h
    obtain ⟨M31, eM31, h⟩ := h
    refine tm_fin (kc := 20) (k := 8) rfl (by decide) rfl rfl finX8 b29 b30 ?_
    refine tm_nmM eM31 ?_
    replace h := chk_some h
    obtain ⟨b32, h⟩ := h
    replace h := bnd_some h
    obtain ⟨M33, eM33, h⟩ := h
    refine tm_putF (y := iX10_init) (idx := 26) kX10 rfl (j := 1) (by decide) wfX10_26 rfl rfl rfl dX10_init_40 (fun _ => ⟨rfl, rfl⟩) (tPut_R (k2 := 8) (some 0) rfl) (hgh := tgh_of (k := 10) rfl b32) ?_
    refine tm_nmM eM33 ?_
    refine tm_aload_n dX10_init_43 rfl rfl ?_
    replace h := chk_some h
    obtain ⟨b34, h⟩ := h
    replace h := bnd_some h
    obtain ⟨M35, eM35, h⟩ := h
    refine tm_new kX2 (k := 14) (i := 0) rfl dfX2 wclX10_30 wniX2_0.1 wniX2_0.2 (nt_of b34) rwX2 (by decide) ⟨Nat.le_of_ble_eq_true rfl, Nat.le_of_ble_eq_true rfl⟩ dX10_init_44 ?_
    refine tm_nmM eM35 ?_
    refine tm_dup dX10_init_47 rfl ?_
    refine tm_aload_n dX10_init_48 rfl rfl ?_
    replace h := chk_some h
    obtain ⟨b36, h⟩ := h
    refine tm_get kX10 rfl (j := 0) (by decide) wfX10_10 dX10_init_49 (hgh := tgh_of (k := 10) rfl b36) (v := tq 1 (mR M35 22 0 0)) rfl ?_
    replace h := bnd_some h
    obtain ⟨r37, er37, h⟩ := h
    refine tm_nmQ er37 ?_
    refine tm_aload_n dX10_init_52 rfl rfl ?_
    replace h := chk_some h
    obtain ⟨b38, h⟩ := h
    have hq39 := of_decide_eq_true b38
    subst hq39
    replace h := obind_some h
    obtain ⟨M41, hc40, h⟩ := h
    refine tm_callI (avs := [tr 1 0, tr 5 0]) (st := [tr 14 0, tr 22 0]) (okX2_init hc40) wcX10_32.1 wcX10_32.2.1 wcX10_32.2.2 rfl ⟨rfl, rfl, Nat.le_of_ble_eq_true rfl, Nat.le_of_ble_eq_true rfl⟩ rfl (Nat.le_of_ble_eq_true rfl) ⟨Nat.le_of_ble_eq_true rfl, Nat.le_of_ble_eq_true rfl⟩ dX10_init_53 ?_
    replace h := chk_some h
    obtain ⟨b42, h⟩ := h
    replace h := chk_some h
    obtain ⟨b43, h⟩ := h
    replace h := bnd_some h
    obtain ⟨M44, eM44, h⟩ := h
    refine tm_fin (kc := 14) (k := 2) rfl (by decide) rfl rfl finX2 b42 b43 ?_
    refine tm_nmM eM44 ?_
    replace h := chk_some h
    obtain ⟨b45, h⟩ := h
    replace h := bnd_some h
    obtain ⟨M46, eM46, h⟩ := h
    refine tm_putF (y := iX10_init) (idx := 33) kX10 rfl (j := 2) (by decide) wfX10_33 rfl rfl rfl dX10_init_56 (fun _ => ⟨rfl, rfl⟩) (tPut_R (k2 := 2) (some 0) rfl) (hgh := tgh_of (k := 10) rfl b45) ?_
    refine tm_nmM eM46 ?_
    refine tm_aload_n dX10_init_59 rfl rfl ?_
    replace h := chk_some h
    obtain ⟨b47, h⟩ := h
    replace h := bnd_some h
    obtain ⟨M48, eM48, h⟩ := h
    refine tm_new kX3 (k := 15) (i := 0) rfl dfX3 wclX10_37 wniX3_0.1 wniX3_0.2 (nt_of b47) rwX3 (by decide) ⟨Nat.le_of_ble_eq_true rfl, Nat.le_of_ble_eq_true rfl⟩ dX10_init_60 ?_
    refine tm_nmM eM48 ?_
    refine tm_dup dX10_init_63 rfl ?_
    refine tm_aload_n dX10_init_64 rfl rfl ?_
    replace h := chk_some h
    obtain ⟨b49, h⟩ := h
    refine tm_get kX10 rfl (j := 0) (by decide) wfX10_10 dX10_init_65 (hgh := tgh_of (k := 10) rfl b49) (v := tq 1 (mR M48 22 0 0)) rfl ?_
    replace h := bnd_some h
    obtain ⟨r50, er50, h⟩ := h
    refine tm_nmQ er50 ?_
    refine tm_aload_n dX10_init_68 rfl rfl ?_
    replace h := chk_some h
    obtain ⟨b51, h⟩ := h
    have hq52 := of_decide_eq_true b51
    subst hq52
    replace h := obind_some h
    obtain ⟨M54, hc53, h⟩ := h
    refine tm_callI (avs := [tr 1 0, tr 5 0]) (st := [tr 15 0, tr 22 0]) (okX3_init hc53) wcX10_39.1 wcX10_39.2.1 wcX10_39.2.2 rfl ⟨rfl, rfl, Nat.le_of_ble_eq_true rfl, Nat.le_of_ble_eq_true rfl⟩ rfl (Nat.le_of_ble_eq_true rfl) ⟨Nat.le_of_ble_eq_true rfl, Nat.le_of_ble_eq_true rfl⟩ dX10_init_69 ?_
    replace h := chk_some h
    obtain ⟨b55, h⟩ := h
    replace h := chk_some h
    obtain ⟨b56, h⟩ := h
    replace h := bnd_some h
    obtain ⟨M57, eM57, h⟩ := h
    refine tm_fin (kc := 15) (k := 3) rfl (by decide) rfl rfl finX3 b55 b56 ?_
    refine tm_nmM eM57 ?_
    replace h := chk_some h
    obtain ⟨b58, h⟩ := h
    replace h := bnd_some h
    obtain ⟨M59, eM59, h⟩ := h
    refine tm_putF (y := iX10_init) (idx := 40) kX10 rfl (j := 3) (by decide) wfX10_40 rfl rfl rfl dX10_init_72 (fun _ => ⟨rfl, rfl⟩) (tPut_R (k2 := 3) (some 0) rfl) (hgh := tgh_of (k := 10) rfl b58) ?_
    refine tm_nmM eM59 ?_
    refine tm_aload_n dX10_init_75 rfl rfl ?_
    replace h := chk_some h
    obtain ⟨b60, h⟩ := h
    replace h := bnd_some h
    obtain ⟨M61, eM61, h⟩ := h
    refine tm_new kX6 (k := 18) (i := 0) rfl dfX6 wclX10_44 wniX6_0.1 wniX6_0.2 (nt_of b60) rwX6 (by decide) ⟨Nat.le_of_ble_eq_true rfl, Nat.le_of_ble_eq_true rfl⟩ dX10_init_76 ?_
    refine tm_nmM eM61 ?_
    refine tm_dup dX10_init_79 rfl ?_
    refine tm_aload_n dX10_init_80 rfl rfl ?_
    replace h := chk_some h
    obtain ⟨b62, h⟩ := h
    refine tm_get kX10 rfl (j := 0) (by decide) wfX10_10 dX10_init_81 (hgh := tgh_of (k := 10) rfl b62) (v := tq 1 (mR M61 22 0 0)) rfl ?_
    replace h := bnd_some h
    obtain ⟨r63, er63, h⟩ := h
    refine tm_nmQ er63 ?_
    replace h := chk_some h
    obtain ⟨b64, h⟩ := h
    have hq65 := of_decide_eq_true b64
    subst hq65
    replace h := obind_some h
    obtain ⟨M67, hc66, h⟩ := h
    refine tm_callI (avs := [tr 1 0]) (st := [tr 18 0, tr 22 0]) (okX6_init hc66) wcX10_46.1 wcX10_46.2.1 wcX10_46.2.2 rfl ⟨rfl, rfl, Nat.le_of_ble_eq_true rfl, Nat.le_of_ble_eq_true rfl⟩ rfl (Nat.le_of_ble_eq_true rfl) ⟨Nat.le_of_ble_eq_true rfl, Nat.le_of_ble_eq_true rfl⟩ dX10_init_84 ?_
    replace h := chk_some h
    obtain ⟨b68, h⟩ := h
    replace h := chk_some h
    obtain ⟨b69, h⟩ := h
    replace h := bnd_some h
    obtain ⟨M70, eM70, h⟩ := h
    refine tm_fin (kc := 18) (k := 6) rfl (by decide) rfl rfl finX6 b68 b69 ?_
    refine tm_nmM eM70 ?_
    replace h := chk_some h
    obtain ⟨b71, h⟩ := h
    replace h := bnd_some h
    obtain ⟨M72, eM72, h⟩ := h
    refine tm_putF (y := iX10_init) (idx := 47) kX10 rfl (j := 4) (by decide) wfX10_47 rfl rfl rfl dX10_init_87 (fun _ => ⟨rfl, rfl⟩) (tPut_R (k2 := 6) (some 0) rfl) (hgh := tgh_of (k := 10) rfl b71) ?_
    refine tm_nmM eM72 ?_
    refine tm_aload_n dX10_init_90 rfl rfl ?_
    replace h := chk_some h
    obtain ⟨b73, h⟩ := h
    replace h := bnd_some h
    obtain ⟨M74, eM74, h⟩ := h
    refine tm_new kX0 (k := 12) (i := 0) rfl dfX0 wclX10_51 wniX0_0.1 wniX0_0.2 (nt_of b73) rwX0 (by decide) ⟨Nat.le_of_ble_eq_true rfl, Nat.le_of_ble_eq_true rfl⟩ dX10_init_91 ?_
    refine tm_nmM eM74 ?_
    refine tm_dup dX10_init_94 rfl ?_
    refine tm_aload_n dX10_init_95 rfl rfl ?_
    replace h := chk_some h
    obtain ⟨b75, h⟩ := h
    refine tm_get kX10 rfl (j := 0) (by decide) wfX10_10 dX10_init_96 (hgh := tgh_of (k := 10) rfl b75) (v := tq 1 (mR M74 22 0 0)) rfl ?_
    replace h := bnd_some h
    obtain ⟨r76, er76, h⟩ := h
    refine tm_nmQ er76 ?_
    replace h := chk_some h
    obtain ⟨b77, h⟩ := h
    have hq78 := of_decide_eq_true b77
    subst hq78
    replace h := obind_some h
    obtain ⟨M80, hc79, h⟩ := h
    refine tm_callI (avs := [tr 1 0]) (st := [tr 12 0, tr 22 0]) (okX0_init hc79) wcX10_53.1 wcX10_53.2.1 wcX10_53.2.2 rfl ⟨rfl, rfl, Nat.le_of_ble_eq_true rfl, Nat.le_of_ble_eq_true rfl⟩ rfl (Nat.le_of_ble_eq_true rfl) ⟨Nat.le_of_ble_eq_true rfl, Nat.le_of_ble_eq_true rfl⟩ dX10_init_99 ?_
    replace h := chk_some h
    obtain ⟨b81, h⟩ := h
    replace h := chk_some h
    obtain ⟨b82, h⟩ := h
    replace h := bnd_some h
    obtain ⟨M83, eM83, h⟩ := h
    refine tm_fin (kc := 12) (k := 0) rfl (by decide) rfl rfl finX0 b81 b82 ?_
    refine tm_nmM eM83 ?_
    replace h := chk_some h
    obtain ⟨b84, h⟩ := h
    replace h := bnd_some h
    obtain ⟨M85, eM85, h⟩ := h
    refine tm_putF (y := iX10_init) (idx := 54) kX10 rfl (j := 5) (by decide) wfX10_54 rfl rfl rfl dX10_init_102 (fun _ => ⟨rfl, rfl⟩) (tPut_R (k2 := 0) (some 0) rfl) (hgh := tgh_of (k := 10) rfl b84) ?_
    refine tm_nmM eM85 ?_
    refine tm_aload_n dX10_init_105 rfl rfl ?_
    replace h := chk_some h
    obtain ⟨b86, h⟩ := h
    replace h := bnd_some h
    obtain ⟨M87, eM87, h⟩ := h
    refine tm_new kX9 (k := 21) (i := 0) rfl dfX9 wclX10_58 wniX9_0.1 wniX9_0.2 (nt_of b86) rwX9 (by decide) ⟨Nat.le_of_ble_eq_true rfl, Nat.le_of_ble_eq_true rfl⟩ dX10_init_106 ?_
    refine tm_nmM eM87 ?_
    refine tm_dup dX10_init_109 rfl ?_
    refine tm_aload_n dX10_init_110 rfl rfl ?_
    replace h := chk_some h
    obtain ⟨b88, h⟩ := h
    refine tm_get kX10 rfl (j := 0) (by decide) wfX10_10 dX10_init_111 (hgh := tgh_of (k := 10) rfl b88) (v := tq 1 (mR M87 22 0 0)) rfl ?_
    replace h := bnd_some h
    obtain ⟨r89, er89, h⟩ := h
    refine tm_nmQ er89 ?_
    replace h := chk_some h
    obtain ⟨b90, h⟩ := h
    have hq91 := of_decide_eq_true b90
    subst hq91
    replace h := obind_some h
    obtain ⟨M93, hc92, h⟩ := h
    refine tm_callI (avs := [tr 1 0]) (st := [tr 21 0, tr 22 0]) (okX9_init hc92) wcX10_60.1 wcX10_60.2.1 wcX10_60.2.2 rfl ⟨rfl, rfl, Nat.le_of_ble_eq_true rfl, Nat.le_of_ble_eq_true rfl⟩ rfl (Nat.le_of_ble_eq_true rfl) ⟨Nat.le_of_ble_eq_true rfl, Nat.le_of_ble_eq_true rfl⟩ dX10_init_114 ?_
    replace h := chk_some h
    obtain ⟨b94, h⟩ := h
    replace h := chk_some h
    obtain ⟨b95, h⟩ := h
    replace h := bnd_some h
    obtain ⟨M96, eM96, h⟩ := h
    refine tm_fin (kc := 21) (k := 9) rfl (by decide) rfl rfl finX9 b94 b95 ?_
    refine tm_nmM eM96 ?_
    replace h := chk_some h
    obtain ⟨b97, h⟩ := h
    replace h := bnd_some h
    obtain ⟨M98, eM98, h⟩ := h
    refine tm_putF (y := iX10_init) (idx := 61) kX10 rfl (j := 6) (by decide) wfX10_61 rfl rfl rfl dX10_init_117 (fun _ => ⟨rfl, rfl⟩) (tPut_R (k2 := 9) (some 0) rfl) (hgh := tgh_of (k := 10) rfl b97) ?_
    refine tm_nmM eM98 ?_
    refine tm_aload_n dX10_init_120 rfl rfl ?_
    refine tm_sipush (v := 200) dX10_init_121 (by decide) ?_
    replace h := chk_some h
    obtain ⟨b99, h⟩ := h
    replace h := bnd_some h
    obtain ⟨M100, eM100, h⟩ := h
    refine tm_newa (k := 1107) (i := 0) ⟨rfl, rfl⟩ rfl (fun _ _ => rfl) wac_int (nt_of b99) (fun _ => Or.inl rfl) (by decide) (by decide) (by decide +kernel) ⟨Nat.le_of_ble_eq_true rfl, by decide +kernel⟩ (fun _ _ h => h) dX10_init_124 ?_
    refine tm_nmM eM100 ?_
    refine tm_widen (c2 := 39) (s2 := 7948) (Nat.le_refl _) (by decide +kernel) ?_
    replace h := chk_some h
    obtain ⟨b101, h⟩ := h
    replace h := bnd_some h
    obtain ⟨M102, eM102, h⟩ := h
    refine tm_putF (y := iX10_init) (idx := 65) kX10 rfl (j := 7) (by decide) wfX10_65 rfl rfl rfl dX10_init_126 (fun _ => ⟨rfl, rfl⟩) (tPut_R (k2 := 1107) (some 0) rfl) (hgh := tgh_of (k := 10) rfl b101) ?_
    refine tm_nmM eM102 ?_
    refine tm_aload_n dX10_init_129 rfl rfl ?_
    refine tm_bipush (v := 6) dX10_init_130 (by decide) ?_
    replace h := chk_some h
    obtain ⟨b103, h⟩ := h
    replace h := bnd_some h
    obtain ⟨M104, eM104, h⟩ := h
    refine tm_newa (k := 1110) (i := 0) ⟨rfl, rfl⟩ rfl (fun _ _ => rfl) wac_int (nt_of b103) (fun _ => Or.inl rfl) (by decide) (by decide) (by decide +kernel) ⟨Nat.le_of_ble_eq_true rfl, by decide +kernel⟩ (fun _ _ h => h) dX10_init_132 ?_
    refine tm_nmM eM104 ?_
    refine tm_widen (c2 := 40) (s2 := 7954) (Nat.le_refl _) (by decide +kernel) ?_
    replace h := chk_some h
    obtain ⟨b105, h⟩ := h
    replace h := bnd_some h
    obtain ⟨M106, eM106, h⟩ := h
    refine tm_putF (y := iX10_init) (idx := 69) kX10 rfl (j := 10) (by decide) wfX10_69 rfl rfl rfl dX10_init_134 (fun _ => ⟨rfl, rfl⟩) (tPut_R (k2 := 1110) (some 0) rfl) (hgh := tgh_of (k := 10) rfl b105) ?_
    refine tm_nmM eM106 ?_
    obtain rfl := Option.some.inj h
    exact tm_vret rfl dX10_init_137
  exact TMet.of (by decide) (Nat.le_of_ble_eq_true rfl) key
theorem wac_boolean : Cond.arrayClass (newarray.typeOf .boolean) ∈ tgd := (tgd_t 1457 (by decide +kernel) (by decide +kernel))
theorem woiX11_1 : Cond.methodLink RX11 1 objectInit ∈ tgd ∧ Cond.instanceMethod objectInit ∈ tgd ∧ Cond.code objectInit ⟨#[0xb1]⟩ 1 none ∈ tgd := ⟨(tgd_t 1224 (by decide +kernel) (by decide +kernel)), (tgd_t 22 (by decide +kernel) (by decide +kernel)), (tgd_t 23 (by decide +kernel) (by decide +kernel))⟩
abbrev iX11_init : tY := (RX11, cX11_init, 1, none, "<init>")
abbrev rmX11_init : Room := { frames := 1, cells := 60, slots := 25536, locals := 20 }
def fX11_init  (M : tM) : Option (tM) :=
  chk (!mE M 1201 0) <|
  bnd (mA M 1201 0 ((6 : Int32).toNatClampNeg)) fun M2 =>
  chk (!mE M2 11 0) <|
  bnd (sR M2 23 0 1 (some 0)) fun M4 =>
  chk (!mE M4 1203 0) <|
  bnd (mA M4 1203 0 ((12 : Int32).toNatClampNeg)) fun M6 =>
  chk (!mE M6 11 0) <|
  bnd (sR M6 23 0 3 (some 0)) fun M8 =>
  chk (!mE M8 1204 0) <|
  bnd (mA M8 1204 0 ((12 : Int32).toNatClampNeg)) fun M10 =>
  chk (!mE M10 11 0) <|
  bnd (sR M10 23 0 4 (some 0)) fun M12 =>
  chk (!mE M12 1205 0) <|
  bnd (mA M12 1205 0 ((12 : Int32).toNatClampNeg)) fun M14 =>
  chk (!mE M14 11 0) <|
  bnd (sR M14 23 0 5 (some 0)) fun M16 =>
  chk (!mE M16 1206 0) <|
  bnd (mA M16 1206 0 ((12 : Int32).toNatClampNeg)) fun M18 =>
  chk (!mE M18 11 0) <|
  bnd (sR M18 23 0 6 (some 0)) fun M20 =>
  chk (!mE M20 1207 0) <|
  bnd (mA M20 1207 0 ((144 : Int32).toNatClampNeg)) fun M22 =>
  chk (!mE M22 11 0) <|
  bnd (sR M22 23 0 7 (some 0)) fun M24 =>
  chk (!mE M24 1208 0) <|
  bnd (mA M24 1208 0 ((12 : Int32).toNatClampNeg)) fun M26 =>
  chk (!mE M26 11 0) <|
  bnd (sR M26 23 0 8 (some 0)) fun M28 =>
  chk (!mE M28 1209 0) <|
  bnd (mA M28 1209 0 ((144 : Int32).toNatClampNeg)) fun M30 =>
  chk (!mE M30 11 0) <|
  bnd (sR M30 23 0 9 (some 0)) fun M32 =>
  chk (!mE M32 1210 0) <|
  bnd (mA M32 1210 0 ((12 : Int32).toNatClampNeg)) fun M34 =>
  chk (!mE M34 11 0) <|
  bnd (sR M34 23 0 10 (some 0)) fun M36 =>
  chk (!mE M36 1211 0) <|
  bnd (mA M36 1211 0 ((12 : Int32).toNatClampNeg)) fun M38 =>
  chk (!mE M38 11 0) <|
  bnd (sR M38 23 0 11 (some 0)) fun M40 =>
  chk (!mE M40 1213 0) <|
  bnd (mA M40 1213 0 ((20 : Int32).toNatClampNeg)) fun M42 =>
  chk (!mE M42 11 0) <|
  bnd (sR M42 23 0 13 (some 0)) fun M44 =>
  chk (!mE M44 1214 0) <|
  bnd (mA M44 1214 0 ((20 : Int32).toNatClampNeg)) fun M46 =>
  chk (!mE M46 11 0) <|
  bnd (sR M46 23 0 14 (some 0)) fun M48 =>
  chk (!mE M48 1215 0) <|
  bnd (mA M48 1215 0 ((80 : Int32).toNatClampNeg)) fun M50 =>
  chk (!mE M50 11 0) <|
  bnd (sR M50 23 0 15 (some 0)) fun M52 =>
  chk (!mE M52 1216 0) <|
  bnd (mA M52 1216 0 ((80 : Int32).toNatClampNeg)) fun M54 =>
  chk (!mE M54 11 0) <|
  bnd (sR M54 23 0 16 (some 0)) fun M56 =>
  chk (!mE M56 1217 0) <|
  bnd (mA M56 1217 0 ((20 : Int32).toNatClampNeg)) fun M58 =>
  chk (!mE M58 11 0) <|
  bnd (sR M58 23 0 17 (some 0)) fun M60 =>
  chk (!mE M60 1218 0) <|
  bnd (mA M60 1218 0 ((1200 : Int32).toNatClampNeg)) fun M62 =>
  chk (!mE M62 11 0) <|
  bnd (sR M62 23 0 18 (some 0)) fun M64 =>
  chk (!mE M64 1219 0) <|
  bnd (mA M64 1219 0 ((12 : Int32).toNatClampNeg)) fun M66 =>
  chk (!mE M66 11 0) <|
  bnd (sR M66 23 0 19 (some 0)) fun M68 =>
  chk (!mE M68 1220 0) <|
  bnd (mA M68 1220 0 ((12 : Int32).toNatClampNeg)) fun M70 =>
  chk (!mE M70 11 0) <|
  bnd (sR M70 23 0 20 (some 0)) fun M72 =>
  chk (!mE M72 1221 0) <|
  bnd (mA M72 1221 0 ((20 : Int32).toNatClampNeg)) fun M74 =>
  chk (!mE M74 11 0) <|
  bnd (sR M74 23 0 21 (some 0)) fun M76 =>
  chk (!mE M76 1222 0) <|
  bnd (mA M76 1222 0 ((9000 : Int32).toNatClampNeg)) fun M78 =>
  chk (!mE M78 11 0) <|
  bnd (sR M78 23 0 22 (some 0)) fun M80 =>
  chk (!mE M80 1223 0) <|
  bnd (mA M80 1223 0 ((20 : Int32).toNatClampNeg)) fun M82 =>
  chk (!mE M82 11 0) <|
  bnd (sR M82 23 0 23 (some 0)) fun M84 =>
  chk (!mE M84 1224 0) <|
  bnd (mA M84 1224 0 ((4000 : Int32).toNatClampNeg)) fun M86 =>
  chk (!mE M86 11 0) <|
  bnd (sR M86 23 0 24 (some 0)) fun M88 =>
  chk (!mE M88 1227 0) <|
  bnd (mA M88 1227 0 ((3 : Int32).toNatClampNeg)) fun M90 =>
  chk (!mE M90 11 0) <|
  bnd (sR M90 23 0 27 (some 0)) fun M92 =>
  chk (!mE M92 1230 0) <|
  bnd (mA M92 1230 0 ((4 : Int32).toNatClampNeg)) fun M94 =>
  chk (!mE M94 11 0) <|
  bnd (sR M94 23 0 30 (some 0)) fun M96 =>
  chk (!mE M96 1231 0) <|
  bnd (mA M96 1231 0 ((12 : Int32).toNatClampNeg)) fun M98 =>
  chk (!mE M98 11 0) <|
  bnd (sR M98 23 0 31 (some 0)) fun M100 =>
  chk (!mE M100 1232 0) <|
  bnd (mA M100 1232 0 ((12 : Int32).toNatClampNeg)) fun M102 =>
  chk (!mE M102 11 0) <|
  bnd (sR M102 23 0 32 (some 0)) fun M104 =>
  chk (!mE M104 1233 0) <|
  bnd (mA M104 1233 0 ((12 : Int32).toNatClampNeg)) fun M106 =>
  chk (!mE M106 11 0) <|
  bnd (sR M106 23 0 33 (some 0)) fun M108 =>
  chk (!mE M108 1234 0) <|
  bnd (mA M108 1234 0 ((12 : Int32).toNatClampNeg)) fun M110 =>
  chk (!mE M110 11 0) <|
  bnd (sR M110 23 0 34 (some 0)) fun M112 =>
  chk (!mE M112 1235 0) <|
  bnd (mA M112 1235 0 ((12 : Int32).toNatClampNeg)) fun M114 =>
  chk (!mE M114 11 0) <|
  bnd (sR M114 23 0 35 (some 0)) fun M116 =>
  chk (!mE M116 1238 0) <|
  bnd (mA M116 1238 0 ((20 : Int32).toNatClampNeg)) fun M118 =>
  chk (!mE M118 11 0) <|
  bnd (sR M118 23 0 38 (some 0)) fun M120 =>
  chk (!mE M120 1239 0) <|
  bnd (mA M120 1239 0 ((12 : Int32).toNatClampNeg)) fun M122 =>
  chk (!mE M122 11 0) <|
  bnd (sR M122 23 0 39 (some 0)) fun M124 =>
  chk (!mE M124 1240 0) <|
  bnd (mA M124 1240 0 ((12 : Int32).toNatClampNeg)) fun M126 =>
  chk (!mE M126 11 0) <|
  bnd (sR M126 23 0 40 (some 0)) fun M128 =>
  chk (!mE M128 1241 0) <|
  bnd (mA M128 1241 0 ((20 : Int32).toNatClampNeg)) fun M130 =>
  chk (!mE M130 11 0) <|
  bnd (sR M130 23 0 41 (some 0)) fun M132 =>
  chk (!mE M132 1242 0) <|
  bnd (mA M132 1242 0 ((2000 : Int32).toNatClampNeg)) fun M134 =>
  chk (!mE M134 11 0) <|
  bnd (sR M134 23 0 42 (some 0)) fun M136 =>
  chk (!mE M136 11 0) <|
  bnd (sI M136 23 0 43 (-9)) fun M138 =>
  chk (!mE M138 1244 0) <|
  bnd (mA M138 1244 0 ((20 : Int32).toNatClampNeg)) fun M140 =>
  chk (!mE M140 11 0) <|
  bnd (sR M140 23 0 44 (some 0)) fun M142 =>
  chk (!mE M142 1245 0) <|
  bnd (mA M142 1245 0 ((2000 : Int32).toNatClampNeg)) fun M144 =>
  chk (!mE M144 11 0) <|
  bnd (sR M144 23 0 45 (some 0)) fun M146 =>
  chk (!mE M146 1246 0) <|
  bnd (mA M146 1246 0 ((20 : Int32).toNatClampNeg)) fun M148 =>
  chk (!mE M148 11 0) <|
  bnd (sR M148 23 0 46 (some 0)) fun M150 =>
  chk (!mE M150 1247 0) <|
  bnd (mA M150 1247 0 ((12 : Int32).toNatClampNeg)) fun M152 =>
  chk (!mE M152 11 0) <|
  bnd (sR M152 23 0 47 (some 0)) fun M154 =>
  chk (!mE M154 1249 0) <|
  bnd (mA M154 1249 0 ((41 : Int32).toNatClampNeg)) fun M156 =>
  chk (!mE M156 11 0) <|
  bnd (sR M156 23 0 49 (some 0)) fun M158 =>
  chk (!mE M158 1250 0) <|
  bnd (mA M158 1250 0 ((41 : Int32).toNatClampNeg)) fun M160 =>
  chk (!mE M160 11 0) <|
  bnd (sR M160 23 0 50 (some 0)) fun M162 =>
  chk (!mE M162 1251 0) <|
  bnd (mA M162 1251 0 ((820 : Int32).toNatClampNeg)) fun M164 =>
  chk (!mE M164 11 0) <|
  bnd (sR M164 23 0 51 (some 0)) fun M166 =>
  chk (!mE M166 1252 0) <|
  bnd (mA M166 1252 0 ((40 : Int32).toNatClampNeg)) fun M168 =>
  chk (!mE M168 11 0) <|
  bnd (sR M168 23 0 52 (some 0)) fun M170 =>
  chk (!mE M170 1253 0) <|
  bnd (mA M170 1253 0 ((20 : Int32).toNatClampNeg)) fun M172 =>
  chk (!mE M172 11 0) <|
  bnd (sR M172 23 0 53 (some 0)) fun M174 =>
  chk (!mE M174 1254 0) <|
  bnd (mA M174 1254 0 ((12 : Int32).toNatClampNeg)) fun M176 =>
  chk (!mE M176 11 0) <|
  bnd (sR M176 23 0 54 (some 0)) fun M178 =>
  chk (!mE M178 1255 0) <|
  bnd (mA M178 1255 0 ((12 : Int32).toNatClampNeg)) fun M180 =>
  chk (!mE M180 11 0) <|
  bnd (sR M180 23 0 55 (some 0)) fun M182 =>
  chk (!mE M182 1256 0) <|
  bnd (mA M182 1256 0 ((144 : Int32).toNatClampNeg)) fun M184 =>
  chk (!mE M184 11 0) <|
  bnd (sR M184 23 0 56 (some 0)) fun M186 =>
  chk (!mE M186 1257 0) <|
  bnd (mA M186 1257 0 ((144 : Int32).toNatClampNeg)) fun M188 =>
  chk (!mE M188 11 0) <|
  bnd (sR M188 23 0 57 (some 0)) fun M190 =>
  chk (!mE M190 1258 0) <|
  bnd (mA M190 1258 0 ((144 : Int32).toNatClampNeg)) fun M192 =>
  chk (!mE M192 11 0) <|
  bnd (sR M192 23 0 58 (some 0)) fun M194 =>
  chk (!mE M194 1259 0) <|
  bnd (mA M194 1259 0 ((200 : Int32).toNatClampNeg)) fun M196 =>
  chk (!mE M196 11 0) <|
  bnd (sR M196 23 0 59 (some 0)) fun M198 =>
  chk (!mE M198 11 0) <|
  bnd (sI M198 23 0 60 (-9)) fun M200 =>
  chk (!mE M200 1261 0) <|
  bnd (mA M200 1261 0 ((200 : Int32).toNatClampNeg)) fun M202 =>
  chk (!mE M202 11 0) <|
  bnd (sR M202 23 0 61 (some 0)) fun M204 =>
  chk (!mE M204 1262 0) <|
  bnd (mA M204 1262 0 ((40 : Int32).toNatClampNeg)) fun M206 =>
  chk (!mE M206 11 0) <|
  bnd (sR M206 23 0 62 (some 0)) fun M208 =>
  chk (!mE M208 1263 0) <|
  bnd (mA M208 1263 0 ((40 : Int32).toNatClampNeg)) fun M210 =>
  chk (!mE M210 11 0) <|
  bnd (sR M210 23 0 63 (some 0)) fun M212 =>
  chk (!mE M212 1264 0) <|
  bnd (mA M212 1264 0 ((200 : Int32).toNatClampNeg)) fun M214 =>
  chk (!mE M214 11 0) <|
  bnd (sR M214 23 0 64 (some 0)) fun M216 =>
  chk (!mE M216 1266 0) <|
  bnd (mA M216 1266 0 ((13 : Int32).toNatClampNeg)) fun M218 =>
  chk (!mE M218 11 0) <|
  bnd (sR M218 23 0 66 (some 0)) fun M220 =>
  chk (!mE M220 1267 0) <|
  bnd (mA M220 1267 0 ((60 : Int32).toNatClampNeg)) fun M222 =>
  chk (!mE M222 11 0) <|
  bnd (sR M222 23 0 67 (some 0)) fun M224 =>
  chk (!mE M224 1268 0) <|
  bnd (mA M224 1268 0 ((1400 : Int32).toNatClampNeg)) fun M226 =>
  chk (!mE M226 11 0) <|
  bnd (sR M226 23 0 68 (some 0)) fun M228 =>
  chk (!mE M228 1269 0) <|
  bnd (mA M228 1269 0 ((1400 : Int32).toNatClampNeg)) fun M230 =>
  chk (!mE M230 11 0) <|
  bnd (sR M230 23 0 69 (some 0)) fun M232 =>
  chk (!mE M232 1270 0) <|
  bnd (mA M232 1270 0 ((1400 : Int32).toNatClampNeg)) fun M234 =>
  chk (!mE M234 11 0) <|
  bnd (sR M234 23 0 70 (some 0)) fun M236 =>
  chk (!mE M236 1272 0) <|
  bnd (mA M236 1272 0 ((60 : Int32).toNatClampNeg)) fun M238 =>
  chk (!mE M238 11 0) <|
  bnd (sR M238 23 0 72 (some 0)) fun M240 =>
  chk (!mE M240 1273 0) <|
  bnd (mA M240 1273 0 ((60 : Int32).toNatClampNeg)) fun M242 =>
  chk (!mE M242 11 0) <|
  bnd (sR M242 23 0 73 (some 0)) fun M244 =>
  some M244
set_option maxHeartbeats 4000000 in
set_option maxRecDepth 100000 in
theorem okX11_init {g : tG}  {M : tM} {Mz : tM} (h : fX11_init  M = some Mz) : TMet g yX11_init (Cond.code yX11_init cX11_init 1 (none) :: tgd) rmX11_init [tr 23 0] M none Mz 60 25536 := by
  have key : TW g iX11_init rmX11_init 60 25536 none Mz 0 0 0 [(0, tr 23 0)] [] M := by
    rw [fX11_init] at h
    refine tm_aload_n dX11_init_0 rfl rfl ?_
    refine tm_objInit woiX11_1.1 woiX11_1.2.1 woiX11_1.2.2 ⟨by decide, by decide⟩ dX11_init_1 ?_
    refine tm_aload_n dX11_init_4 rfl rfl ?_
    refine tm_bipush (v := 6) dX11_init_5 (by decide) ?_
    replace h := chk_some h
    obtain ⟨b1, h⟩ := h
    replace h := bnd_some h
    obtain ⟨M2, eM2, h⟩ := h
    refine tm_newa (k := 1201) (i := 0) ⟨rfl, rfl⟩ rfl (fun _ _ => rfl) wac_int (nt_of b1) (fun _ => Or.inl rfl) (by decide) (by decide) (by decide +kernel) ⟨Nat.le_of_ble_eq_true rfl, by decide +kernel⟩ (fun _ _ h => h) dX11_init_7 ?_
    refine tm_nmM eM2 ?_
    refine tm_widen (c2 := 1) (s2 := 6) (Nat.le_refl _) (by decide +kernel) ?_
    replace h := chk_some h
    obtain ⟨b3, h⟩ := h
    replace h := bnd_some h
    obtain ⟨M4, eM4, h⟩ := h
    refine tm_putF (y := iX11_init) (idx := 7) kX11 rfl (j := 1) (by decide) wfX11_7 rfl rfl rfl dX11_init_9 (fun _ => ⟨rfl, rfl⟩) (tPut_R (k2 := 1201) (some 0) rfl) (hgh := tgh_of (k := 11) rfl b3) ?_
    refine tm_nmM eM4 ?_
    refine tm_aload_n dX11_init_12 rfl rfl ?_
    refine tm_bipush (v := 12) dX11_init_13 (by decide) ?_
    replace h := chk_some h
    obtain ⟨b5, h⟩ := h
    replace h := bnd_some h
    obtain ⟨M6, eM6, h⟩ := h
    refine tm_newa (k := 1203) (i := 0) ⟨rfl, rfl⟩ rfl (fun _ _ => rfl) wac_int (nt_of b5) (fun _ => Or.inl rfl) (by decide) (by decide) (by decide +kernel) ⟨Nat.le_of_ble_eq_true rfl, by decide +kernel⟩ (fun _ _ h => h) dX11_init_15 ?_
    refine tm_nmM eM6 ?_
    refine tm_widen (c2 := 2) (s2 := 18) (Nat.le_refl _) (by decide +kernel) ?_
    replace h := chk_some h
    obtain ⟨b7, h⟩ := h
    replace h := bnd_some h
    obtain ⟨M8, eM8, h⟩ := h
    refine tm_putF (y := iX11_init) (idx := 13) kX11 rfl (j := 3) (by decide) wfX11_13 rfl rfl rfl dX11_init_17 (fun _ => ⟨rfl, rfl⟩) (tPut_R (k2 := 1203) (some 0) rfl) (hgh := tgh_of (k := 11) rfl b7) ?_
    refine tm_nmM eM8 ?_
    refine tm_aload_n dX11_init_20 rfl rfl ?_
    refine tm_bipush (v := 12) dX11_init_21 (by decide) ?_
    replace h := chk_some h
    obtain ⟨b9, h⟩ := h
    replace h := bnd_some h
    obtain ⟨M10, eM10, h⟩ := h
    refine tm_newa (k := 1204) (i := 0) ⟨rfl, rfl⟩ rfl (fun _ _ => rfl) wac_long (nt_of b9) (fun _ => Or.inr (Or.inl rfl)) (by decide) (by decide) (by decide +kernel) ⟨Nat.le_of_ble_eq_true rfl, by decide +kernel⟩ (fun _ _ h => h) dX11_init_23 ?_
    refine tm_nmM eM10 ?_
    refine tm_widen (c2 := 3) (s2 := 30) (Nat.le_refl _) (by decide +kernel) ?_
    replace h := chk_some h
    obtain ⟨b11, h⟩ := h
    replace h := bnd_some h
    obtain ⟨M12, eM12, h⟩ := h
    refine tm_putF (y := iX11_init) (idx := 16) kX11 rfl (j := 4) (by decide) wfX11_16 rfl rfl rfl dX11_init_25 (fun _ => ⟨rfl, rfl⟩) (tPut_R (k2 := 1204) (some 0) rfl) (hgh := tgh_of (k := 11) rfl b11) ?_
    refine tm_nmM eM12 ?_
    refine tm_aload_n dX11_init_28 rfl rfl ?_
    refine tm_bipush (v := 12) dX11_init_29 (by decide) ?_
    replace h := chk_some h
    obtain ⟨b13, h⟩ := h
    replace h := bnd_some h
    obtain ⟨M14, eM14, h⟩ := h
    refine tm_newa (k := 1205) (i := 0) ⟨rfl, rfl⟩ rfl (fun _ _ => rfl) wac_int (nt_of b13) (fun _ => Or.inl rfl) (by decide) (by decide) (by decide +kernel) ⟨Nat.le_of_ble_eq_true rfl, by decide +kernel⟩ (fun _ _ h => h) dX11_init_31 ?_
    refine tm_nmM eM14 ?_
    refine tm_widen (c2 := 4) (s2 := 42) (Nat.le_refl _) (by decide +kernel) ?_
    replace h := chk_some h
    obtain ⟨b15, h⟩ := h
    replace h := bnd_some h
    obtain ⟨M16, eM16, h⟩ := h
    refine tm_putF (y := iX11_init) (idx := 20) kX11 rfl (j := 5) (by decide) wfX11_20 rfl rfl rfl dX11_init_33 (fun _ => ⟨rfl, rfl⟩) (tPut_R (k2 := 1205) (some 0) rfl) (hgh := tgh_of (k := 11) rfl b15) ?_
    refine tm_nmM eM16 ?_
    refine tm_aload_n dX11_init_36 rfl rfl ?_
    refine tm_bipush (v := 12) dX11_init_37 (by decide) ?_
    replace h := chk_some h
    obtain ⟨b17, h⟩ := h
    replace h := bnd_some h
    obtain ⟨M18, eM18, h⟩ := h
    refine tm_newa (k := 1206) (i := 0) ⟨rfl, rfl⟩ rfl (fun _ _ => rfl) wac_int (nt_of b17) (fun _ => Or.inl rfl) (by decide) (by decide) (by decide +kernel) ⟨Nat.le_of_ble_eq_true rfl, by decide +kernel⟩ (fun _ _ h => h) dX11_init_39 ?_
    refine tm_nmM eM18 ?_
    refine tm_widen (c2 := 5) (s2 := 54) (Nat.le_refl _) (by decide +kernel) ?_
    replace h := chk_some h
    obtain ⟨b19, h⟩ := h
    replace h := bnd_some h
    obtain ⟨M20, eM20, h⟩ := h
    refine tm_putF (y := iX11_init) (idx := 23) kX11 rfl (j := 6) (by decide) wfX11_23 rfl rfl rfl dX11_init_41 (fun _ => ⟨rfl, rfl⟩) (tPut_R (k2 := 1206) (some 0) rfl) (hgh := tgh_of (k := 11) rfl b19) ?_
    refine tm_nmM eM20 ?_
    refine tm_aload_n dX11_init_44 rfl rfl ?_
    refine tm_sipush (v := 144) dX11_init_45 (by decide) ?_
    replace h := chk_some h
    obtain ⟨b21, h⟩ := h
    replace h := bnd_some h
    obtain ⟨M22, eM22, h⟩ := h
    refine tm_newa (k := 1207) (i := 0) ⟨rfl, rfl⟩ rfl (fun _ _ => rfl) wac_long (nt_of b21) (fun _ => Or.inr (Or.inl rfl)) (by decide) (by decide) (by decide +kernel) ⟨Nat.le_of_ble_eq_true rfl, by decide +kernel⟩ (fun _ _ h => h) dX11_init_48 ?_
    refine tm_nmM eM22 ?_
    refine tm_widen (c2 := 6) (s2 := 198) (Nat.le_refl _) (by decide +kernel) ?_
    replace h := chk_some h
    obtain ⟨b23, h⟩ := h
    replace h := bnd_some h
    obtain ⟨M24, eM24, h⟩ := h
    refine tm_putF (y := iX11_init) (idx := 26) kX11 rfl (j := 7) (by decide) wfX11_26 rfl rfl rfl dX11_init_50 (fun _ => ⟨rfl, rfl⟩) (tPut_R (k2 := 1207) (some 0) rfl) (hgh := tgh_of (k := 11) rfl b23) ?_
    refine tm_nmM eM24 ?_
    refine tm_aload_n dX11_init_53 rfl rfl ?_
    refine tm_bipush (v := 12) dX11_init_54 (by decide) ?_
    replace h := chk_some h
    obtain ⟨b25, h⟩ := h
    replace h := bnd_some h
    obtain ⟨M26, eM26, h⟩ := h
    refine tm_newa (k := 1208) (i := 0) ⟨rfl, rfl⟩ rfl (fun _ _ => rfl) wac_int (nt_of b25) (fun _ => Or.inl rfl) (by decide) (by decide) (by decide +kernel) ⟨Nat.le_of_ble_eq_true rfl, by decide +kernel⟩ (fun _ _ h => h) dX11_init_56 ?_
    refine tm_nmM eM26 ?_
    refine tm_widen (c2 := 7) (s2 := 210) (Nat.le_refl _) (by decide +kernel) ?_
    replace h := chk_some h
    obtain ⟨b27, h⟩ := h
    replace h := bnd_some h
    obtain ⟨M28, eM28, h⟩ := h
    refine tm_putF (y := iX11_init) (idx := 29) kX11 rfl (j := 8) (by decide) wfX11_29 rfl rfl rfl dX11_init_58 (fun _ => ⟨rfl, rfl⟩) (tPut_R (k2 := 1208) (some 0) rfl) (hgh := tgh_of (k := 11) rfl b27) ?_
    refine tm_nmM eM28 ?_
    refine tm_aload_n dX11_init_61 rfl rfl ?_
    refine tm_sipush (v := 144) dX11_init_62 (by decide) ?_
    replace h := chk_some h
    obtain ⟨b29, h⟩ := h
    replace h := bnd_some h
    obtain ⟨M30, eM30, h⟩ := h
    refine tm_newa (k := 1209) (i := 0) ⟨rfl, rfl⟩ rfl (fun _ _ => rfl) wac_long (nt_of b29) (fun _ => Or.inr (Or.inl rfl)) (by decide) (by decide) (by decide +kernel) ⟨Nat.le_of_ble_eq_true rfl, by decide +kernel⟩ (fun _ _ h => h) dX11_init_65 ?_
    refine tm_nmM eM30 ?_
    refine tm_widen (c2 := 8) (s2 := 354) (Nat.le_refl _) (by decide +kernel) ?_
    replace h := chk_some h
    obtain ⟨b31, h⟩ := h
    replace h := bnd_some h
    obtain ⟨M32, eM32, h⟩ := h
    refine tm_putF (y := iX11_init) (idx := 32) kX11 rfl (j := 9) (by decide) wfX11_32 rfl rfl rfl dX11_init_67 (fun _ => ⟨rfl, rfl⟩) (tPut_R (k2 := 1209) (some 0) rfl) (hgh := tgh_of (k := 11) rfl b31) ?_
    refine tm_nmM eM32 ?_
    refine tm_aload_n dX11_init_70 rfl rfl ?_
    refine tm_bipush (v := 12) dX11_init_71 (by decide) ?_
    replace h := chk_some h
    obtain ⟨b33, h⟩ := h
    replace h := bnd_some h
    obtain ⟨M34, eM34, h⟩ := h
    refine tm_newa (k := 1210) (i := 0) ⟨rfl, rfl⟩ rfl (fun _ _ => rfl) wac_int (nt_of b33) (fun _ => Or.inl rfl) (by decide) (by decide) (by decide +kernel) ⟨Nat.le_of_ble_eq_true rfl, by decide +kernel⟩ (fun _ _ h => h) dX11_init_73 ?_
    refine tm_nmM eM34 ?_
    refine tm_widen (c2 := 9) (s2 := 366) (Nat.le_refl _) (by decide +kernel) ?_
    replace h := chk_some h
    obtain ⟨b35, h⟩ := h
    replace h := bnd_some h
    obtain ⟨M36, eM36, h⟩ := h
    refine tm_putF (y := iX11_init) (idx := 35) kX11 rfl (j := 10) (by decide) wfX11_35 rfl rfl rfl dX11_init_75 (fun _ => ⟨rfl, rfl⟩) (tPut_R (k2 := 1210) (some 0) rfl) (hgh := tgh_of (k := 11) rfl b35) ?_
    refine tm_nmM eM36 ?_
    refine tm_aload_n dX11_init_78 rfl rfl ?_
    refine tm_bipush (v := 12) dX11_init_79 (by decide) ?_
    replace h := chk_some h
    obtain ⟨b37, h⟩ := h
    replace h := bnd_some h
    obtain ⟨M38, eM38, h⟩ := h
    refine tm_newa (k := 1211) (i := 0) ⟨rfl, rfl⟩ rfl (fun _ _ => rfl) wac_int (nt_of b37) (fun _ => Or.inl rfl) (by decide) (by decide) (by decide +kernel) ⟨Nat.le_of_ble_eq_true rfl, by decide +kernel⟩ (fun _ _ h => h) dX11_init_81 ?_
    refine tm_nmM eM38 ?_
    refine tm_widen (c2 := 10) (s2 := 378) (Nat.le_refl _) (by decide +kernel) ?_
    replace h := chk_some h
    obtain ⟨b39, h⟩ := h
    replace h := bnd_some h
    obtain ⟨M40, eM40, h⟩ := h
    refine tm_putF (y := iX11_init) (idx := 38) kX11 rfl (j := 11) (by decide) wfX11_38 rfl rfl rfl dX11_init_83 (fun _ => ⟨rfl, rfl⟩) (tPut_R (k2 := 1211) (some 0) rfl) (hgh := tgh_of (k := 11) rfl b39) ?_
    refine tm_nmM eM40 ?_
    refine tm_aload_n dX11_init_86 rfl rfl ?_
    refine tm_bipush (v := 20) dX11_init_87 (by decide) ?_
    replace h := chk_some h
    obtain ⟨b41, h⟩ := h
    replace h := bnd_some h
    obtain ⟨M42, eM42, h⟩ := h
    refine tm_newa (k := 1213) (i := 0) ⟨rfl, rfl⟩ rfl (fun _ _ => rfl) wac_int (nt_of b41) (fun _ => Or.inl rfl) (by decide) (by decide) (by decide +kernel) ⟨Nat.le_of_ble_eq_true rfl, by decide +kernel⟩ (fun _ _ h => h) dX11_init_89 ?_
    refine tm_nmM eM42 ?_
    refine tm_widen (c2 := 11) (s2 := 398) (Nat.le_refl _) (by decide +kernel) ?_
    replace h := chk_some h
    obtain ⟨b43, h⟩ := h
    replace h := bnd_some h
    obtain ⟨M44, eM44, h⟩ := h
    refine tm_putF (y := iX11_init) (idx := 41) kX11 rfl (j := 13) (by decide) wfX11_41 rfl rfl rfl dX11_init_91 (fun _ => ⟨rfl, rfl⟩) (tPut_R (k2 := 1213) (some 0) rfl) (hgh := tgh_of (k := 11) rfl b43) ?_
    refine tm_nmM eM44 ?_
    refine tm_aload_n dX11_init_94 rfl rfl ?_
    refine tm_bipush (v := 20) dX11_init_95 (by decide) ?_
    replace h := chk_some h
    obtain ⟨b45, h⟩ := h
    replace h := bnd_some h
    obtain ⟨M46, eM46, h⟩ := h
    refine tm_newa (k := 1214) (i := 0) ⟨rfl, rfl⟩ rfl (fun _ _ => rfl) wac_int (nt_of b45) (fun _ => Or.inl rfl) (by decide) (by decide) (by decide +kernel) ⟨Nat.le_of_ble_eq_true rfl, by decide +kernel⟩ (fun _ _ h => h) dX11_init_97 ?_
    refine tm_nmM eM46 ?_
    refine tm_widen (c2 := 12) (s2 := 418) (Nat.le_refl _) (by decide +kernel) ?_
    replace h := chk_some h
    obtain ⟨b47, h⟩ := h
    replace h := bnd_some h
    obtain ⟨M48, eM48, h⟩ := h
    refine tm_putF (y := iX11_init) (idx := 44) kX11 rfl (j := 14) (by decide) wfX11_44 rfl rfl rfl dX11_init_99 (fun _ => ⟨rfl, rfl⟩) (tPut_R (k2 := 1214) (some 0) rfl) (hgh := tgh_of (k := 11) rfl b47) ?_
    refine tm_nmM eM48 ?_
    refine tm_aload_n dX11_init_102 rfl rfl ?_
    refine tm_bipush (v := 80) dX11_init_103 (by decide) ?_
    replace h := chk_some h
    obtain ⟨b49, h⟩ := h
    replace h := bnd_some h
    obtain ⟨M50, eM50, h⟩ := h
    refine tm_newa (k := 1215) (i := 0) ⟨rfl, rfl⟩ rfl (fun _ _ => rfl) wac_int (nt_of b49) (fun _ => Or.inl rfl) (by decide) (by decide) (by decide +kernel) ⟨Nat.le_of_ble_eq_true rfl, by decide +kernel⟩ (fun _ _ h => h) dX11_init_105 ?_
    refine tm_nmM eM50 ?_
    refine tm_widen (c2 := 13) (s2 := 498) (Nat.le_refl _) (by decide +kernel) ?_
    replace h := chk_some h
    obtain ⟨b51, h⟩ := h
    replace h := bnd_some h
    obtain ⟨M52, eM52, h⟩ := h
    refine tm_putF (y := iX11_init) (idx := 47) kX11 rfl (j := 15) (by decide) wfX11_47 rfl rfl rfl dX11_init_107 (fun _ => ⟨rfl, rfl⟩) (tPut_R (k2 := 1215) (some 0) rfl) (hgh := tgh_of (k := 11) rfl b51) ?_
    refine tm_nmM eM52 ?_
    refine tm_aload_n dX11_init_110 rfl rfl ?_
    refine tm_bipush (v := 80) dX11_init_111 (by decide) ?_
    replace h := chk_some h
    obtain ⟨b53, h⟩ := h
    replace h := bnd_some h
    obtain ⟨M54, eM54, h⟩ := h
    refine tm_newa (k := 1216) (i := 0) ⟨rfl, rfl⟩ rfl (fun _ _ => rfl) wac_int (nt_of b53) (fun _ => Or.inl rfl) (by decide) (by decide) (by decide +kernel) ⟨Nat.le_of_ble_eq_true rfl, by decide +kernel⟩ (fun _ _ h => h) dX11_init_113 ?_
    refine tm_nmM eM54 ?_
    refine tm_widen (c2 := 14) (s2 := 578) (Nat.le_refl _) (by decide +kernel) ?_
    replace h := chk_some h
    obtain ⟨b55, h⟩ := h
    replace h := bnd_some h
    obtain ⟨M56, eM56, h⟩ := h
    refine tm_putF (y := iX11_init) (idx := 50) kX11 rfl (j := 16) (by decide) wfX11_50 rfl rfl rfl dX11_init_115 (fun _ => ⟨rfl, rfl⟩) (tPut_R (k2 := 1216) (some 0) rfl) (hgh := tgh_of (k := 11) rfl b55) ?_
    refine tm_nmM eM56 ?_
    refine tm_aload_n dX11_init_118 rfl rfl ?_
    refine tm_bipush (v := 20) dX11_init_119 (by decide) ?_
    replace h := chk_some h
    obtain ⟨b57, h⟩ := h
    replace h := bnd_some h
    obtain ⟨M58, eM58, h⟩ := h
    refine tm_newa (k := 1217) (i := 0) ⟨rfl, rfl⟩ rfl (fun _ _ => rfl) wac_int (nt_of b57) (fun _ => Or.inl rfl) (by decide) (by decide) (by decide +kernel) ⟨Nat.le_of_ble_eq_true rfl, by decide +kernel⟩ (fun _ _ h => h) dX11_init_121 ?_
    refine tm_nmM eM58 ?_
    refine tm_widen (c2 := 15) (s2 := 598) (Nat.le_refl _) (by decide +kernel) ?_
    replace h := chk_some h
    obtain ⟨b59, h⟩ := h
    replace h := bnd_some h
    obtain ⟨M60, eM60, h⟩ := h
    refine tm_putF (y := iX11_init) (idx := 53) kX11 rfl (j := 17) (by decide) wfX11_53 rfl rfl rfl dX11_init_123 (fun _ => ⟨rfl, rfl⟩) (tPut_R (k2 := 1217) (some 0) rfl) (hgh := tgh_of (k := 11) rfl b59) ?_
    refine tm_nmM eM60 ?_
    refine tm_aload_n dX11_init_126 rfl rfl ?_
    refine tm_sipush (v := 1200) dX11_init_127 (by decide) ?_
    replace h := chk_some h
    obtain ⟨b61, h⟩ := h
    replace h := bnd_some h
    obtain ⟨M62, eM62, h⟩ := h
    refine tm_newa (k := 1218) (i := 0) ⟨rfl, rfl⟩ rfl (fun _ _ => rfl) wac_long (nt_of b61) (fun _ => Or.inr (Or.inl rfl)) (by decide) (by decide) (by decide +kernel) ⟨Nat.le_of_ble_eq_true rfl, by decide +kernel⟩ (fun _ _ h => h) dX11_init_130 ?_
    refine tm_nmM eM62 ?_
    refine tm_widen (c2 := 16) (s2 := 1798) (Nat.le_refl _) (by decide +kernel) ?_
    replace h := chk_some h
    obtain ⟨b63, h⟩ := h
    replace h := bnd_some h
    obtain ⟨M64, eM64, h⟩ := h
    refine tm_putF (y := iX11_init) (idx := 56) kX11 rfl (j := 18) (by decide) wfX11_56 rfl rfl rfl dX11_init_132 (fun _ => ⟨rfl, rfl⟩) (tPut_R (k2 := 1218) (some 0) rfl) (hgh := tgh_of (k := 11) rfl b63) ?_
    refine tm_nmM eM64 ?_
    refine tm_aload_n dX11_init_135 rfl rfl ?_
    refine tm_bipush (v := 12) dX11_init_136 (by decide) ?_
    replace h := chk_some h
    obtain ⟨b65, h⟩ := h
    replace h := bnd_some h
    obtain ⟨M66, eM66, h⟩ := h
    refine tm_newa (k := 1219) (i := 0) ⟨rfl, rfl⟩ rfl (fun _ _ => rfl) wac_int (nt_of b65) (fun _ => Or.inl rfl) (by decide) (by decide) (by decide +kernel) ⟨Nat.le_of_ble_eq_true rfl, by decide +kernel⟩ (fun _ _ h => h) dX11_init_138 ?_
    refine tm_nmM eM66 ?_
    refine tm_widen (c2 := 17) (s2 := 1810) (Nat.le_refl _) (by decide +kernel) ?_
    replace h := chk_some h
    obtain ⟨b67, h⟩ := h
    replace h := bnd_some h
    obtain ⟨M68, eM68, h⟩ := h
    refine tm_putF (y := iX11_init) (idx := 59) kX11 rfl (j := 19) (by decide) wfX11_59 rfl rfl rfl dX11_init_140 (fun _ => ⟨rfl, rfl⟩) (tPut_R (k2 := 1219) (some 0) rfl) (hgh := tgh_of (k := 11) rfl b67) ?_
    refine tm_nmM eM68 ?_
    refine tm_aload_n dX11_init_143 rfl rfl ?_
    refine tm_bipush (v := 12) dX11_init_144 (by decide) ?_
    replace h := chk_some h
    obtain ⟨b69, h⟩ := h
    replace h := bnd_some h
    obtain ⟨M70, eM70, h⟩ := h
    refine tm_newa (k := 1220) (i := 0) ⟨rfl, rfl⟩ rfl (fun _ _ => rfl) wac_long (nt_of b69) (fun _ => Or.inr (Or.inl rfl)) (by decide) (by decide) (by decide +kernel) ⟨Nat.le_of_ble_eq_true rfl, by decide +kernel⟩ (fun _ _ h => h) dX11_init_146 ?_
    refine tm_nmM eM70 ?_
    refine tm_widen (c2 := 18) (s2 := 1822) (Nat.le_refl _) (by decide +kernel) ?_
    replace h := chk_some h
    obtain ⟨b71, h⟩ := h
    replace h := bnd_some h
    obtain ⟨M72, eM72, h⟩ := h
    refine tm_putF (y := iX11_init) (idx := 62) kX11 rfl (j := 20) (by decide) wfX11_62 rfl rfl rfl dX11_init_148 (fun _ => ⟨rfl, rfl⟩) (tPut_R (k2 := 1220) (some 0) rfl) (hgh := tgh_of (k := 11) rfl b71) ?_
    refine tm_nmM eM72 ?_
    refine tm_aload_n dX11_init_151 rfl rfl ?_
    refine tm_bipush (v := 20) dX11_init_152 (by decide) ?_
    replace h := chk_some h
    obtain ⟨b73, h⟩ := h
    replace h := bnd_some h
    obtain ⟨M74, eM74, h⟩ := h
    refine tm_newa (k := 1221) (i := 0) ⟨rfl, rfl⟩ rfl (fun _ _ => rfl) wac_int (nt_of b73) (fun _ => Or.inl rfl) (by decide) (by decide) (by decide +kernel) ⟨Nat.le_of_ble_eq_true rfl, by decide +kernel⟩ (fun _ _ h => h) dX11_init_154 ?_
    refine tm_nmM eM74 ?_
    refine tm_widen (c2 := 19) (s2 := 1842) (Nat.le_refl _) (by decide +kernel) ?_
    replace h := chk_some h
    obtain ⟨b75, h⟩ := h
    replace h := bnd_some h
    obtain ⟨M76, eM76, h⟩ := h
    refine tm_putF (y := iX11_init) (idx := 65) kX11 rfl (j := 21) (by decide) wfX11_65 rfl rfl rfl dX11_init_156 (fun _ => ⟨rfl, rfl⟩) (tPut_R (k2 := 1221) (some 0) rfl) (hgh := tgh_of (k := 11) rfl b75) ?_
    refine tm_nmM eM76 ?_
    refine tm_aload_n dX11_init_159 rfl rfl ?_
    refine tm_sipush (v := 9000) dX11_init_160 (by decide) ?_
    replace h := chk_some h
    obtain ⟨b77, h⟩ := h
    replace h := bnd_some h
    obtain ⟨M78, eM78, h⟩ := h
    refine tm_newa (k := 1222) (i := 0) ⟨rfl, rfl⟩ rfl (fun _ _ => rfl) wac_long (nt_of b77) (fun _ => Or.inr (Or.inl rfl)) (by decide) (by decide) (by decide +kernel) ⟨Nat.le_of_ble_eq_true rfl, by decide +kernel⟩ (fun _ _ h => h) dX11_init_163 ?_
    refine tm_nmM eM78 ?_
    refine tm_widen (c2 := 20) (s2 := 10842) (Nat.le_refl _) (by decide +kernel) ?_
    replace h := chk_some h
    obtain ⟨b79, h⟩ := h
    replace h := bnd_some h
    obtain ⟨M80, eM80, h⟩ := h
    refine tm_putF (y := iX11_init) (idx := 68) kX11 rfl (j := 22) (by decide) wfX11_68 rfl rfl rfl dX11_init_165 (fun _ => ⟨rfl, rfl⟩) (tPut_R (k2 := 1222) (some 0) rfl) (hgh := tgh_of (k := 11) rfl b79) ?_
    refine tm_nmM eM80 ?_
    refine tm_aload_n dX11_init_168 rfl rfl ?_
    refine tm_bipush (v := 20) dX11_init_169 (by decide) ?_
    replace h := chk_some h
    obtain ⟨b81, h⟩ := h
    replace h := bnd_some h
    obtain ⟨M82, eM82, h⟩ := h
    refine tm_newa (k := 1223) (i := 0) ⟨rfl, rfl⟩ rfl (fun _ _ => rfl) wac_int (nt_of b81) (fun _ => Or.inl rfl) (by decide) (by decide) (by decide +kernel) ⟨Nat.le_of_ble_eq_true rfl, by decide +kernel⟩ (fun _ _ h => h) dX11_init_171 ?_
    refine tm_nmM eM82 ?_
    refine tm_widen (c2 := 21) (s2 := 10862) (Nat.le_refl _) (by decide +kernel) ?_
    replace h := chk_some h
    obtain ⟨b83, h⟩ := h
    replace h := bnd_some h
    obtain ⟨M84, eM84, h⟩ := h
    refine tm_putF (y := iX11_init) (idx := 71) kX11 rfl (j := 23) (by decide) wfX11_71 rfl rfl rfl dX11_init_173 (fun _ => ⟨rfl, rfl⟩) (tPut_R (k2 := 1223) (some 0) rfl) (hgh := tgh_of (k := 11) rfl b83) ?_
    refine tm_nmM eM84 ?_
    refine tm_aload_n dX11_init_176 rfl rfl ?_
    refine tm_sipush (v := 4000) dX11_init_177 (by decide) ?_
    replace h := chk_some h
    obtain ⟨b85, h⟩ := h
    replace h := bnd_some h
    obtain ⟨M86, eM86, h⟩ := h
    refine tm_newa (k := 1224) (i := 0) ⟨rfl, rfl⟩ rfl (fun _ _ => rfl) wac_long (nt_of b85) (fun _ => Or.inr (Or.inl rfl)) (by decide) (by decide) (by decide +kernel) ⟨Nat.le_of_ble_eq_true rfl, by decide +kernel⟩ (fun _ _ h => h) dX11_init_180 ?_
    refine tm_nmM eM86 ?_
    refine tm_widen (c2 := 22) (s2 := 14862) (Nat.le_refl _) (by decide +kernel) ?_
    replace h := chk_some h
    obtain ⟨b87, h⟩ := h
    replace h := bnd_some h
    obtain ⟨M88, eM88, h⟩ := h
    refine tm_putF (y := iX11_init) (idx := 74) kX11 rfl (j := 24) (by decide) wfX11_74 rfl rfl rfl dX11_init_182 (fun _ => ⟨rfl, rfl⟩) (tPut_R (k2 := 1224) (some 0) rfl) (hgh := tgh_of (k := 11) rfl b87) ?_
    refine tm_nmM eM88 ?_
    refine tm_aload_n dX11_init_185 rfl rfl ?_
    refine tm_iconst (v := 3) dX11_init_186 (by decide) ?_
    replace h := chk_some h
    obtain ⟨b89, h⟩ := h
    replace h := bnd_some h
    obtain ⟨M90, eM90, h⟩ := h
    refine tm_newa (k := 1227) (i := 0) ⟨rfl, rfl⟩ rfl (fun _ _ => rfl) wac_int (nt_of b89) (fun _ => Or.inl rfl) (by decide) (by decide) (by decide +kernel) ⟨Nat.le_of_ble_eq_true rfl, by decide +kernel⟩ (fun _ _ h => h) dX11_init_187 ?_
    refine tm_nmM eM90 ?_
    refine tm_widen (c2 := 23) (s2 := 14865) (Nat.le_refl _) (by decide +kernel) ?_
    replace h := chk_some h
    obtain ⟨b91, h⟩ := h
    replace h := bnd_some h
    obtain ⟨M92, eM92, h⟩ := h
    refine tm_putF (y := iX11_init) (idx := 77) kX11 rfl (j := 27) (by decide) wfX11_77 rfl rfl rfl dX11_init_189 (fun _ => ⟨rfl, rfl⟩) (tPut_R (k2 := 1227) (some 0) rfl) (hgh := tgh_of (k := 11) rfl b91) ?_
    refine tm_nmM eM92 ?_
    refine tm_aload_n dX11_init_192 rfl rfl ?_
    refine tm_iconst (v := 4) dX11_init_193 (by decide) ?_
    replace h := chk_some h
    obtain ⟨b93, h⟩ := h
    replace h := bnd_some h
    obtain ⟨M94, eM94, h⟩ := h
    refine tm_newa (k := 1230) (i := 0) ⟨rfl, rfl⟩ rfl (fun _ _ => rfl) wac_int (nt_of b93) (fun _ => Or.inl rfl) (by decide) (by decide) (by decide +kernel) ⟨Nat.le_of_ble_eq_true rfl, by decide +kernel⟩ (fun _ _ h => h) dX11_init_194 ?_
    refine tm_nmM eM94 ?_
    refine tm_widen (c2 := 24) (s2 := 14869) (Nat.le_refl _) (by decide +kernel) ?_
    replace h := chk_some h
    obtain ⟨b95, h⟩ := h
    replace h := bnd_some h
    obtain ⟨M96, eM96, h⟩ := h
    refine tm_putF (y := iX11_init) (idx := 80) kX11 rfl (j := 30) (by decide) wfX11_80 rfl rfl rfl dX11_init_196 (fun _ => ⟨rfl, rfl⟩) (tPut_R (k2 := 1230) (some 0) rfl) (hgh := tgh_of (k := 11) rfl b95) ?_
    refine tm_nmM eM96 ?_
    refine tm_aload_n dX11_init_199 rfl rfl ?_
    refine tm_bipush (v := 12) dX11_init_200 (by decide) ?_
    replace h := chk_some h
    obtain ⟨b97, h⟩ := h
    replace h := bnd_some h
    obtain ⟨M98, eM98, h⟩ := h
    refine tm_newa (k := 1231) (i := 0) ⟨rfl, rfl⟩ rfl (fun _ _ => rfl) wac_long (nt_of b97) (fun _ => Or.inr (Or.inl rfl)) (by decide) (by decide) (by decide +kernel) ⟨Nat.le_of_ble_eq_true rfl, by decide +kernel⟩ (fun _ _ h => h) dX11_init_202 ?_
    refine tm_nmM eM98 ?_
    refine tm_widen (c2 := 25) (s2 := 14881) (Nat.le_refl _) (by decide +kernel) ?_
    replace h := chk_some h
    obtain ⟨b99, h⟩ := h
    replace h := bnd_some h
    obtain ⟨M100, eM100, h⟩ := h
    refine tm_putF (y := iX11_init) (idx := 83) kX11 rfl (j := 31) (by decide) wfX11_83 rfl rfl rfl dX11_init_204 (fun _ => ⟨rfl, rfl⟩) (tPut_R (k2 := 1231) (some 0) rfl) (hgh := tgh_of (k := 11) rfl b99) ?_
    refine tm_nmM eM100 ?_
    refine tm_aload_n dX11_init_207 rfl rfl ?_
    refine tm_bipush (v := 12) dX11_init_208 (by decide) ?_
    replace h := chk_some h
    obtain ⟨b101, h⟩ := h
    replace h := bnd_some h
    obtain ⟨M102, eM102, h⟩ := h
    refine tm_newa (k := 1232) (i := 0) ⟨rfl, rfl⟩ rfl (fun _ _ => rfl) wac_int (nt_of b101) (fun _ => Or.inl rfl) (by decide) (by decide) (by decide +kernel) ⟨Nat.le_of_ble_eq_true rfl, by decide +kernel⟩ (fun _ _ h => h) dX11_init_210 ?_
    refine tm_nmM eM102 ?_
    refine tm_widen (c2 := 26) (s2 := 14893) (Nat.le_refl _) (by decide +kernel) ?_
    replace h := chk_some h
    obtain ⟨b103, h⟩ := h
    replace h := bnd_some h
    obtain ⟨M104, eM104, h⟩ := h
    refine tm_putF (y := iX11_init) (idx := 86) kX11 rfl (j := 32) (by decide) wfX11_86 rfl rfl rfl dX11_init_212 (fun _ => ⟨rfl, rfl⟩) (tPut_R (k2 := 1232) (some 0) rfl) (hgh := tgh_of (k := 11) rfl b103) ?_
    refine tm_nmM eM104 ?_
    refine tm_aload_n dX11_init_215 rfl rfl ?_
    refine tm_bipush (v := 12) dX11_init_216 (by decide) ?_
    replace h := chk_some h
    obtain ⟨b105, h⟩ := h
    replace h := bnd_some h
    obtain ⟨M106, eM106, h⟩ := h
    refine tm_newa (k := 1233) (i := 0) ⟨rfl, rfl⟩ rfl (fun _ _ => rfl) wac_long (nt_of b105) (fun _ => Or.inr (Or.inl rfl)) (by decide) (by decide) (by decide +kernel) ⟨Nat.le_of_ble_eq_true rfl, by decide +kernel⟩ (fun _ _ h => h) dX11_init_218 ?_
    refine tm_nmM eM106 ?_
    refine tm_widen (c2 := 27) (s2 := 14905) (Nat.le_refl _) (by decide +kernel) ?_
    replace h := chk_some h
    obtain ⟨b107, h⟩ := h
    replace h := bnd_some h
    obtain ⟨M108, eM108, h⟩ := h
    refine tm_putF (y := iX11_init) (idx := 89) kX11 rfl (j := 33) (by decide) wfX11_89 rfl rfl rfl dX11_init_220 (fun _ => ⟨rfl, rfl⟩) (tPut_R (k2 := 1233) (some 0) rfl) (hgh := tgh_of (k := 11) rfl b107) ?_
    refine tm_nmM eM108 ?_
    refine tm_aload_n dX11_init_223 rfl rfl ?_
    refine tm_bipush (v := 12) dX11_init_224 (by decide) ?_
    replace h := chk_some h
    obtain ⟨b109, h⟩ := h
    replace h := bnd_some h
    obtain ⟨M110, eM110, h⟩ := h
    refine tm_newa (k := 1234) (i := 0) ⟨rfl, rfl⟩ rfl (fun _ _ => rfl) wac_long (nt_of b109) (fun _ => Or.inr (Or.inl rfl)) (by decide) (by decide) (by decide +kernel) ⟨Nat.le_of_ble_eq_true rfl, by decide +kernel⟩ (fun _ _ h => h) dX11_init_226 ?_
    refine tm_nmM eM110 ?_
    refine tm_widen (c2 := 28) (s2 := 14917) (Nat.le_refl _) (by decide +kernel) ?_
    replace h := chk_some h
    obtain ⟨b111, h⟩ := h
    replace h := bnd_some h
    obtain ⟨M112, eM112, h⟩ := h
    refine tm_putF (y := iX11_init) (idx := 92) kX11 rfl (j := 34) (by decide) wfX11_92 rfl rfl rfl dX11_init_228 (fun _ => ⟨rfl, rfl⟩) (tPut_R (k2 := 1234) (some 0) rfl) (hgh := tgh_of (k := 11) rfl b111) ?_
    refine tm_nmM eM112 ?_
    refine tm_aload_n dX11_init_231 rfl rfl ?_
    refine tm_bipush (v := 12) dX11_init_232 (by decide) ?_
    replace h := chk_some h
    obtain ⟨b113, h⟩ := h
    replace h := bnd_some h
    obtain ⟨M114, eM114, h⟩ := h
    refine tm_newa (k := 1235) (i := 0) ⟨rfl, rfl⟩ rfl (fun _ _ => rfl) wac_int (nt_of b113) (fun _ => Or.inl rfl) (by decide) (by decide) (by decide +kernel) ⟨Nat.le_of_ble_eq_true rfl, by decide +kernel⟩ (fun _ _ h => h) dX11_init_234 ?_
    refine tm_nmM eM114 ?_
    refine tm_widen (c2 := 29) (s2 := 14929) (Nat.le_refl _) (by decide +kernel) ?_
    replace h := chk_some h
    obtain ⟨b115, h⟩ := h
    replace h := bnd_some h
    obtain ⟨M116, eM116, h⟩ := h
    refine tm_putF (y := iX11_init) (idx := 95) kX11 rfl (j := 35) (by decide) wfX11_95 rfl rfl rfl dX11_init_236 (fun _ => ⟨rfl, rfl⟩) (tPut_R (k2 := 1235) (some 0) rfl) (hgh := tgh_of (k := 11) rfl b115) ?_
    refine tm_nmM eM116 ?_
    refine tm_aload_n dX11_init_239 rfl rfl ?_
    refine tm_bipush (v := 20) dX11_init_240 (by decide) ?_
    replace h := chk_some h
    obtain ⟨b117, h⟩ := h
    replace h := bnd_some h
    obtain ⟨M118, eM118, h⟩ := h
    refine tm_newa (k := 1238) (i := 0) ⟨rfl, rfl⟩ rfl (fun _ _ => rfl) wac_int (nt_of b117) (fun _ => Or.inl rfl) (by decide) (by decide) (by decide +kernel) ⟨Nat.le_of_ble_eq_true rfl, by decide +kernel⟩ (fun _ _ h => h) dX11_init_242 ?_
    refine tm_nmM eM118 ?_
    refine tm_widen (c2 := 30) (s2 := 14949) (Nat.le_refl _) (by decide +kernel) ?_
    replace h := chk_some h
    obtain ⟨b119, h⟩ := h
    replace h := bnd_some h
    obtain ⟨M120, eM120, h⟩ := h
    refine tm_putF (y := iX11_init) (idx := 98) kX11 rfl (j := 38) (by decide) wfX11_98 rfl rfl rfl dX11_init_244 (fun _ => ⟨rfl, rfl⟩) (tPut_R (k2 := 1238) (some 0) rfl) (hgh := tgh_of (k := 11) rfl b119) ?_
    refine tm_nmM eM120 ?_
    refine tm_aload_n dX11_init_247 rfl rfl ?_
    refine tm_bipush (v := 12) dX11_init_248 (by decide) ?_
    replace h := chk_some h
    obtain ⟨b121, h⟩ := h
    replace h := bnd_some h
    obtain ⟨M122, eM122, h⟩ := h
    refine tm_newa (k := 1239) (i := 0) ⟨rfl, rfl⟩ rfl (fun _ _ => rfl) wac_int (nt_of b121) (fun _ => Or.inl rfl) (by decide) (by decide) (by decide +kernel) ⟨Nat.le_of_ble_eq_true rfl, by decide +kernel⟩ (fun _ _ h => h) dX11_init_250 ?_
    refine tm_nmM eM122 ?_
    refine tm_widen (c2 := 31) (s2 := 14961) (Nat.le_refl _) (by decide +kernel) ?_
    replace h := chk_some h
    obtain ⟨b123, h⟩ := h
    replace h := bnd_some h
    obtain ⟨M124, eM124, h⟩ := h
    refine tm_putF (y := iX11_init) (idx := 101) kX11 rfl (j := 39) (by decide) wfX11_101 rfl rfl rfl dX11_init_252 (fun _ => ⟨rfl, rfl⟩) (tPut_R (k2 := 1239) (some 0) rfl) (hgh := tgh_of (k := 11) rfl b123) ?_
    refine tm_nmM eM124 ?_
    refine tm_aload_n dX11_init_255 rfl rfl ?_
    refine tm_bipush (v := 12) dX11_init_256 (by decide) ?_
    replace h := chk_some h
    obtain ⟨b125, h⟩ := h
    replace h := bnd_some h
    obtain ⟨M126, eM126, h⟩ := h
    refine tm_newa (k := 1240) (i := 0) ⟨rfl, rfl⟩ rfl (fun _ _ => rfl) wac_int (nt_of b125) (fun _ => Or.inl rfl) (by decide) (by decide) (by decide +kernel) ⟨Nat.le_of_ble_eq_true rfl, by decide +kernel⟩ (fun _ _ h => h) dX11_init_258 ?_
    refine tm_nmM eM126 ?_
    refine tm_widen (c2 := 32) (s2 := 14973) (Nat.le_refl _) (by decide +kernel) ?_
    replace h := chk_some h
    obtain ⟨b127, h⟩ := h
    replace h := bnd_some h
    obtain ⟨M128, eM128, h⟩ := h
    refine tm_putF (y := iX11_init) (idx := 104) kX11 rfl (j := 40) (by decide) wfX11_104 rfl rfl rfl dX11_init_260 (fun _ => ⟨rfl, rfl⟩) (tPut_R (k2 := 1240) (some 0) rfl) (hgh := tgh_of (k := 11) rfl b127) ?_
    refine tm_nmM eM128 ?_
    refine tm_aload_n dX11_init_263 rfl rfl ?_
    refine tm_bipush (v := 20) dX11_init_264 (by decide) ?_
    replace h := chk_some h
    obtain ⟨b129, h⟩ := h
    replace h := bnd_some h
    obtain ⟨M130, eM130, h⟩ := h
    refine tm_newa (k := 1241) (i := 0) ⟨rfl, rfl⟩ rfl (fun _ _ => rfl) wac_int (nt_of b129) (fun _ => Or.inl rfl) (by decide) (by decide) (by decide +kernel) ⟨Nat.le_of_ble_eq_true rfl, by decide +kernel⟩ (fun _ _ h => h) dX11_init_266 ?_
    refine tm_nmM eM130 ?_
    refine tm_widen (c2 := 33) (s2 := 14993) (Nat.le_refl _) (by decide +kernel) ?_
    replace h := chk_some h
    obtain ⟨b131, h⟩ := h
    replace h := bnd_some h
    obtain ⟨M132, eM132, h⟩ := h
    refine tm_putF (y := iX11_init) (idx := 107) kX11 rfl (j := 41) (by decide) wfX11_107 rfl rfl rfl dX11_init_268 (fun _ => ⟨rfl, rfl⟩) (tPut_R (k2 := 1241) (some 0) rfl) (hgh := tgh_of (k := 11) rfl b131) ?_
    refine tm_nmM eM132 ?_
    refine tm_aload_n dX11_init_271 rfl rfl ?_
    refine tm_sipush (v := 2000) dX11_init_272 (by decide) ?_
    replace h := chk_some h
    obtain ⟨b133, h⟩ := h
    replace h := bnd_some h
    obtain ⟨M134, eM134, h⟩ := h
    refine tm_newa (k := 1242) (i := 0) ⟨rfl, rfl⟩ rfl (fun _ _ => rfl) wac_int (nt_of b133) (fun _ => Or.inl rfl) (by decide) (by decide) (by decide +kernel) ⟨Nat.le_of_ble_eq_true rfl, by decide +kernel⟩ (fun _ _ h => h) dX11_init_275 ?_
    refine tm_nmM eM134 ?_
    refine tm_widen (c2 := 34) (s2 := 16993) (Nat.le_refl _) (by decide +kernel) ?_
    replace h := chk_some h
    obtain ⟨b135, h⟩ := h
    replace h := bnd_some h
    obtain ⟨M136, eM136, h⟩ := h
    refine tm_putF (y := iX11_init) (idx := 110) kX11 rfl (j := 42) (by decide) wfX11_110 rfl rfl rfl dX11_init_277 (fun _ => ⟨rfl, rfl⟩) (tPut_R (k2 := 1242) (some 0) rfl) (hgh := tgh_of (k := 11) rfl b135) ?_
    refine tm_nmM eM136 ?_
    refine tm_aload_n dX11_init_280 rfl rfl ?_
    refine tm_bipush (v := (-9)) dX11_init_281 (by decide) ?_
    replace h := chk_some h
    obtain ⟨b137, h⟩ := h
    replace h := bnd_some h
    obtain ⟨M138, eM138, h⟩ := h
    refine tm_put kX11 rfl (j := 43) (by decide) wfX11_113 rfl dX11_init_283 (fun _ => ⟨rfl, rfl⟩) (tPut_I (-9) rfl) (hgh := tgh_of (k := 11) rfl b137) ?_
    refine tm_nmM eM138 ?_
    refine tm_aload_n dX11_init_286 rfl rfl ?_
    refine tm_bipush (v := 20) dX11_init_287 (by decide) ?_
    replace h := chk_some h
    obtain ⟨b139, h⟩ := h
    replace h := bnd_some h
    obtain ⟨M140, eM140, h⟩ := h
    refine tm_newa (k := 1244) (i := 0) ⟨rfl, rfl⟩ rfl (fun _ _ => rfl) wac_int (nt_of b139) (fun _ => Or.inl rfl) (by decide) (by decide) (by decide +kernel) ⟨Nat.le_of_ble_eq_true rfl, by decide +kernel⟩ (fun _ _ h => h) dX11_init_289 ?_
    refine tm_nmM eM140 ?_
    refine tm_widen (c2 := 35) (s2 := 17013) (Nat.le_refl _) (by decide +kernel) ?_
    replace h := chk_some h
    obtain ⟨b141, h⟩ := h
    replace h := bnd_some h
    obtain ⟨M142, eM142, h⟩ := h
    refine tm_putF (y := iX11_init) (idx := 117) kX11 rfl (j := 44) (by decide) wfX11_117 rfl rfl rfl dX11_init_291 (fun _ => ⟨rfl, rfl⟩) (tPut_R (k2 := 1244) (some 0) rfl) (hgh := tgh_of (k := 11) rfl b141) ?_
    refine tm_nmM eM142 ?_
    refine tm_aload_n dX11_init_294 rfl rfl ?_
    refine tm_sipush (v := 2000) dX11_init_295 (by decide) ?_
    replace h := chk_some h
    obtain ⟨b143, h⟩ := h
    replace h := bnd_some h
    obtain ⟨M144, eM144, h⟩ := h
    refine tm_newa (k := 1245) (i := 0) ⟨rfl, rfl⟩ rfl (fun _ _ => rfl) wac_int (nt_of b143) (fun _ => Or.inl rfl) (by decide) (by decide) (by decide +kernel) ⟨Nat.le_of_ble_eq_true rfl, by decide +kernel⟩ (fun _ _ h => h) dX11_init_298 ?_
    refine tm_nmM eM144 ?_
    refine tm_widen (c2 := 36) (s2 := 19013) (Nat.le_refl _) (by decide +kernel) ?_
    replace h := chk_some h
    obtain ⟨b145, h⟩ := h
    replace h := bnd_some h
    obtain ⟨M146, eM146, h⟩ := h
    refine tm_putF (y := iX11_init) (idx := 120) kX11 rfl (j := 45) (by decide) wfX11_120 rfl rfl rfl dX11_init_300 (fun _ => ⟨rfl, rfl⟩) (tPut_R (k2 := 1245) (some 0) rfl) (hgh := tgh_of (k := 11) rfl b145) ?_
    refine tm_nmM eM146 ?_
    refine tm_aload_n dX11_init_303 rfl rfl ?_
    refine tm_bipush (v := 20) dX11_init_304 (by decide) ?_
    replace h := chk_some h
    obtain ⟨b147, h⟩ := h
    replace h := bnd_some h
    obtain ⟨M148, eM148, h⟩ := h
    refine tm_newa (k := 1246) (i := 0) ⟨rfl, rfl⟩ rfl (fun _ _ => rfl) wac_int (nt_of b147) (fun _ => Or.inl rfl) (by decide) (by decide) (by decide +kernel) ⟨Nat.le_of_ble_eq_true rfl, by decide +kernel⟩ (fun _ _ h => h) dX11_init_306 ?_
    refine tm_nmM eM148 ?_
    refine tm_widen (c2 := 37) (s2 := 19033) (Nat.le_refl _) (by decide +kernel) ?_
    replace h := chk_some h
    obtain ⟨b149, h⟩ := h
    replace h := bnd_some h
    obtain ⟨M150, eM150, h⟩ := h
    refine tm_putF (y := iX11_init) (idx := 123) kX11 rfl (j := 46) (by decide) wfX11_123 rfl rfl rfl dX11_init_308 (fun _ => ⟨rfl, rfl⟩) (tPut_R (k2 := 1246) (some 0) rfl) (hgh := tgh_of (k := 11) rfl b149) ?_
    refine tm_nmM eM150 ?_
    refine tm_aload_n dX11_init_311 rfl rfl ?_
    refine tm_bipush (v := 12) dX11_init_312 (by decide) ?_
    replace h := chk_some h
    obtain ⟨b151, h⟩ := h
    replace h := bnd_some h
    obtain ⟨M152, eM152, h⟩ := h
    refine tm_newa (k := 1247) (i := 0) ⟨rfl, rfl⟩ rfl (fun _ _ => rfl) wac_int (nt_of b151) (fun _ => Or.inl rfl) (by decide) (by decide) (by decide +kernel) ⟨Nat.le_of_ble_eq_true rfl, by decide +kernel⟩ (fun _ _ h => h) dX11_init_314 ?_
    refine tm_nmM eM152 ?_
    refine tm_widen (c2 := 38) (s2 := 19045) (Nat.le_refl _) (by decide +kernel) ?_
    replace h := chk_some h
    obtain ⟨b153, h⟩ := h
    replace h := bnd_some h
    obtain ⟨M154, eM154, h⟩ := h
    refine tm_putF (y := iX11_init) (idx := 126) kX11 rfl (j := 47) (by decide) wfX11_126 rfl rfl rfl dX11_init_316 (fun _ => ⟨rfl, rfl⟩) (tPut_R (k2 := 1247) (some 0) rfl) (hgh := tgh_of (k := 11) rfl b153) ?_
    refine tm_nmM eM154 ?_
    refine tm_aload_n dX11_init_319 rfl rfl ?_
    refine tm_bipush (v := 41) dX11_init_320 (by decide) ?_
    replace h := chk_some h
    obtain ⟨b155, h⟩ := h
    replace h := bnd_some h
    obtain ⟨M156, eM156, h⟩ := h
    refine tm_newa (k := 1249) (i := 0) ⟨rfl, rfl⟩ rfl (fun _ _ => rfl) wac_int (nt_of b155) (fun _ => Or.inl rfl) (by decide) (by decide) (by decide +kernel) ⟨Nat.le_of_ble_eq_true rfl, by decide +kernel⟩ (fun _ _ h => h) dX11_init_322 ?_
    refine tm_nmM eM156 ?_
    refine tm_widen (c2 := 39) (s2 := 19086) (Nat.le_refl _) (by decide +kernel) ?_
    replace h := chk_some h
    obtain ⟨b157, h⟩ := h
    replace h := bnd_some h
    obtain ⟨M158, eM158, h⟩ := h
    refine tm_putF (y := iX11_init) (idx := 129) kX11 rfl (j := 49) (by decide) wfX11_129 rfl rfl rfl dX11_init_324 (fun _ => ⟨rfl, rfl⟩) (tPut_R (k2 := 1249) (some 0) rfl) (hgh := tgh_of (k := 11) rfl b157) ?_
    refine tm_nmM eM158 ?_
    refine tm_aload_n dX11_init_327 rfl rfl ?_
    refine tm_bipush (v := 41) dX11_init_328 (by decide) ?_
    replace h := chk_some h
    obtain ⟨b159, h⟩ := h
    replace h := bnd_some h
    obtain ⟨M160, eM160, h⟩ := h
    refine tm_newa (k := 1250) (i := 0) ⟨rfl, rfl⟩ rfl (fun _ _ => rfl) wac_int (nt_of b159) (fun _ => Or.inl rfl) (by decide) (by decide) (by decide +kernel) ⟨Nat.le_of_ble_eq_true rfl, by decide +kernel⟩ (fun _ _ h => h) dX11_init_330 ?_
    refine tm_nmM eM160 ?_
    refine tm_widen (c2 := 40) (s2 := 19127) (Nat.le_refl _) (by decide +kernel) ?_
    replace h := chk_some h
    obtain ⟨b161, h⟩ := h
    replace h := bnd_some h
    obtain ⟨M162, eM162, h⟩ := h
    refine tm_putF (y := iX11_init) (idx := 132) kX11 rfl (j := 50) (by decide) wfX11_132 rfl rfl rfl dX11_init_332 (fun _ => ⟨rfl, rfl⟩) (tPut_R (k2 := 1250) (some 0) rfl) (hgh := tgh_of (k := 11) rfl b161) ?_
    refine tm_nmM eM162 ?_
    refine tm_aload_n dX11_init_335 rfl rfl ?_
    refine tm_sipush (v := 820) dX11_init_336 (by decide) ?_
    replace h := chk_some h
    obtain ⟨b163, h⟩ := h
    replace h := bnd_some h
    obtain ⟨M164, eM164, h⟩ := h
    refine tm_newa (k := 1251) (i := 0) ⟨rfl, rfl⟩ rfl (fun _ _ => rfl) wac_int (nt_of b163) (fun _ => Or.inl rfl) (by decide) (by decide) (by decide +kernel) ⟨Nat.le_of_ble_eq_true rfl, by decide +kernel⟩ (fun _ _ h => h) dX11_init_339 ?_
    refine tm_nmM eM164 ?_
    refine tm_widen (c2 := 41) (s2 := 19947) (Nat.le_refl _) (by decide +kernel) ?_
    replace h := chk_some h
    obtain ⟨b165, h⟩ := h
    replace h := bnd_some h
    obtain ⟨M166, eM166, h⟩ := h
    refine tm_putF (y := iX11_init) (idx := 135) kX11 rfl (j := 51) (by decide) wfX11_135 rfl rfl rfl dX11_init_341 (fun _ => ⟨rfl, rfl⟩) (tPut_R (k2 := 1251) (some 0) rfl) (hgh := tgh_of (k := 11) rfl b165) ?_
    refine tm_nmM eM166 ?_
    refine tm_aload_n dX11_init_344 rfl rfl ?_
    refine tm_bipush (v := 40) dX11_init_345 (by decide) ?_
    replace h := chk_some h
    obtain ⟨b167, h⟩ := h
    replace h := bnd_some h
    obtain ⟨M168, eM168, h⟩ := h
    refine tm_newa (k := 1252) (i := 0) ⟨rfl, rfl⟩ rfl (fun _ _ => rfl) wac_int (nt_of b167) (fun _ => Or.inl rfl) (by decide) (by decide) (by decide +kernel) ⟨Nat.le_of_ble_eq_true rfl, by decide +kernel⟩ (fun _ _ h => h) dX11_init_347 ?_
    refine tm_nmM eM168 ?_
    refine tm_widen (c2 := 42) (s2 := 19987) (Nat.le_refl _) (by decide +kernel) ?_
    replace h := chk_some h
    obtain ⟨b169, h⟩ := h
    replace h := bnd_some h
    obtain ⟨M170, eM170, h⟩ := h
    refine tm_putF (y := iX11_init) (idx := 138) kX11 rfl (j := 52) (by decide) wfX11_138 rfl rfl rfl dX11_init_349 (fun _ => ⟨rfl, rfl⟩) (tPut_R (k2 := 1252) (some 0) rfl) (hgh := tgh_of (k := 11) rfl b169) ?_
    refine tm_nmM eM170 ?_
    refine tm_aload_n dX11_init_352 rfl rfl ?_
    refine tm_bipush (v := 20) dX11_init_353 (by decide) ?_
    replace h := chk_some h
    obtain ⟨b171, h⟩ := h
    replace h := bnd_some h
    obtain ⟨M172, eM172, h⟩ := h
    refine tm_newa (k := 1253) (i := 0) ⟨rfl, rfl⟩ rfl (fun _ _ => rfl) wac_int (nt_of b171) (fun _ => Or.inl rfl) (by decide) (by decide) (by decide +kernel) ⟨Nat.le_of_ble_eq_true rfl, by decide +kernel⟩ (fun _ _ h => h) dX11_init_355 ?_
    refine tm_nmM eM172 ?_
    refine tm_widen (c2 := 43) (s2 := 20007) (Nat.le_refl _) (by decide +kernel) ?_
    replace h := chk_some h
    obtain ⟨b173, h⟩ := h
    replace h := bnd_some h
    obtain ⟨M174, eM174, h⟩ := h
    refine tm_putF (y := iX11_init) (idx := 141) kX11 rfl (j := 53) (by decide) wfX11_141 rfl rfl rfl dX11_init_357 (fun _ => ⟨rfl, rfl⟩) (tPut_R (k2 := 1253) (some 0) rfl) (hgh := tgh_of (k := 11) rfl b173) ?_
    refine tm_nmM eM174 ?_
    refine tm_aload_n dX11_init_360 rfl rfl ?_
    refine tm_bipush (v := 12) dX11_init_361 (by decide) ?_
    replace h := chk_some h
    obtain ⟨b175, h⟩ := h
    replace h := bnd_some h
    obtain ⟨M176, eM176, h⟩ := h
    refine tm_newa (k := 1254) (i := 0) ⟨rfl, rfl⟩ rfl (fun _ _ => rfl) wac_int (nt_of b175) (fun _ => Or.inl rfl) (by decide) (by decide) (by decide +kernel) ⟨Nat.le_of_ble_eq_true rfl, by decide +kernel⟩ (fun _ _ h => h) dX11_init_363 ?_
    refine tm_nmM eM176 ?_
    refine tm_widen (c2 := 44) (s2 := 20019) (Nat.le_refl _) (by decide +kernel) ?_
    replace h := chk_some h
    obtain ⟨b177, h⟩ := h
    replace h := bnd_some h
    obtain ⟨M178, eM178, h⟩ := h
    refine tm_putF (y := iX11_init) (idx := 144) kX11 rfl (j := 54) (by decide) wfX11_144 rfl rfl rfl dX11_init_365 (fun _ => ⟨rfl, rfl⟩) (tPut_R (k2 := 1254) (some 0) rfl) (hgh := tgh_of (k := 11) rfl b177) ?_
    refine tm_nmM eM178 ?_
    refine tm_aload_n dX11_init_368 rfl rfl ?_
    refine tm_bipush (v := 12) dX11_init_369 (by decide) ?_
    replace h := chk_some h
    obtain ⟨b179, h⟩ := h
    replace h := bnd_some h
    obtain ⟨M180, eM180, h⟩ := h
    refine tm_newa (k := 1255) (i := 0) ⟨rfl, rfl⟩ rfl (fun _ _ => rfl) wac_boolean (nt_of b179) (fun _ => Or.inl rfl) (by decide) (by decide) (by decide +kernel) ⟨Nat.le_of_ble_eq_true rfl, by decide +kernel⟩ (fun _ _ h => h) dX11_init_371 ?_
    refine tm_nmM eM180 ?_
    refine tm_widen (c2 := 45) (s2 := 20031) (Nat.le_refl _) (by decide +kernel) ?_
    replace h := chk_some h
    obtain ⟨b181, h⟩ := h
    replace h := bnd_some h
    obtain ⟨M182, eM182, h⟩ := h
    refine tm_putF (y := iX11_init) (idx := 147) kX11 rfl (j := 55) (by decide) wfX11_147 rfl rfl rfl dX11_init_373 (fun _ => ⟨rfl, rfl⟩) (tPut_R (k2 := 1255) (some 0) rfl) (hgh := tgh_of (k := 11) rfl b181) ?_
    refine tm_nmM eM182 ?_
    refine tm_aload_n dX11_init_376 rfl rfl ?_
    refine tm_sipush (v := 144) dX11_init_377 (by decide) ?_
    replace h := chk_some h
    obtain ⟨b183, h⟩ := h
    replace h := bnd_some h
    obtain ⟨M184, eM184, h⟩ := h
    refine tm_newa (k := 1256) (i := 0) ⟨rfl, rfl⟩ rfl (fun _ _ => rfl) wac_int (nt_of b183) (fun _ => Or.inl rfl) (by decide) (by decide) (by decide +kernel) ⟨Nat.le_of_ble_eq_true rfl, by decide +kernel⟩ (fun _ _ h => h) dX11_init_380 ?_
    refine tm_nmM eM184 ?_
    refine tm_widen (c2 := 46) (s2 := 20175) (Nat.le_refl _) (by decide +kernel) ?_
    replace h := chk_some h
    obtain ⟨b185, h⟩ := h
    replace h := bnd_some h
    obtain ⟨M186, eM186, h⟩ := h
    refine tm_putF (y := iX11_init) (idx := 151) kX11 rfl (j := 56) (by decide) wfX11_151 rfl rfl rfl dX11_init_382 (fun _ => ⟨rfl, rfl⟩) (tPut_R (k2 := 1256) (some 0) rfl) (hgh := tgh_of (k := 11) rfl b185) ?_
    refine tm_nmM eM186 ?_
    refine tm_aload_n dX11_init_385 rfl rfl ?_
    refine tm_sipush (v := 144) dX11_init_386 (by decide) ?_
    replace h := chk_some h
    obtain ⟨b187, h⟩ := h
    replace h := bnd_some h
    obtain ⟨M188, eM188, h⟩ := h
    refine tm_newa (k := 1257) (i := 0) ⟨rfl, rfl⟩ rfl (fun _ _ => rfl) wac_int (nt_of b187) (fun _ => Or.inl rfl) (by decide) (by decide) (by decide +kernel) ⟨Nat.le_of_ble_eq_true rfl, by decide +kernel⟩ (fun _ _ h => h) dX11_init_389 ?_
    refine tm_nmM eM188 ?_
    refine tm_widen (c2 := 47) (s2 := 20319) (Nat.le_refl _) (by decide +kernel) ?_
    replace h := chk_some h
    obtain ⟨b189, h⟩ := h
    replace h := bnd_some h
    obtain ⟨M190, eM190, h⟩ := h
    refine tm_putF (y := iX11_init) (idx := 154) kX11 rfl (j := 57) (by decide) wfX11_154 rfl rfl rfl dX11_init_391 (fun _ => ⟨rfl, rfl⟩) (tPut_R (k2 := 1257) (some 0) rfl) (hgh := tgh_of (k := 11) rfl b189) ?_
    refine tm_nmM eM190 ?_
    refine tm_aload_n dX11_init_394 rfl rfl ?_
    refine tm_sipush (v := 144) dX11_init_395 (by decide) ?_
    replace h := chk_some h
    obtain ⟨b191, h⟩ := h
    replace h := bnd_some h
    obtain ⟨M192, eM192, h⟩ := h
    refine tm_newa (k := 1258) (i := 0) ⟨rfl, rfl⟩ rfl (fun _ _ => rfl) wac_int (nt_of b191) (fun _ => Or.inl rfl) (by decide) (by decide) (by decide +kernel) ⟨Nat.le_of_ble_eq_true rfl, by decide +kernel⟩ (fun _ _ h => h) dX11_init_398 ?_
    refine tm_nmM eM192 ?_
    refine tm_widen (c2 := 48) (s2 := 20463) (Nat.le_refl _) (by decide +kernel) ?_
    replace h := chk_some h
    obtain ⟨b193, h⟩ := h
    replace h := bnd_some h
    obtain ⟨M194, eM194, h⟩ := h
    refine tm_putF (y := iX11_init) (idx := 157) kX11 rfl (j := 58) (by decide) wfX11_157 rfl rfl rfl dX11_init_400 (fun _ => ⟨rfl, rfl⟩) (tPut_R (k2 := 1258) (some 0) rfl) (hgh := tgh_of (k := 11) rfl b193) ?_
    refine tm_nmM eM194 ?_
    refine tm_aload_n dX11_init_403 rfl rfl ?_
    refine tm_sipush (v := 200) dX11_init_404 (by decide) ?_
    replace h := chk_some h
    obtain ⟨b195, h⟩ := h
    replace h := bnd_some h
    obtain ⟨M196, eM196, h⟩ := h
    refine tm_newa (k := 1259) (i := 0) ⟨rfl, rfl⟩ rfl (fun _ _ => rfl) wac_int (nt_of b195) (fun _ => Or.inl rfl) (by decide) (by decide) (by decide +kernel) ⟨Nat.le_of_ble_eq_true rfl, by decide +kernel⟩ (fun _ _ h => h) dX11_init_407 ?_
    refine tm_nmM eM196 ?_
    refine tm_widen (c2 := 49) (s2 := 20663) (Nat.le_refl _) (by decide +kernel) ?_
    replace h := chk_some h
    obtain ⟨b197, h⟩ := h
    replace h := bnd_some h
    obtain ⟨M198, eM198, h⟩ := h
    refine tm_putF (y := iX11_init) (idx := 160) kX11 rfl (j := 59) (by decide) wfX11_160 rfl rfl rfl dX11_init_409 (fun _ => ⟨rfl, rfl⟩) (tPut_R (k2 := 1259) (some 0) rfl) (hgh := tgh_of (k := 11) rfl b197) ?_
    refine tm_nmM eM198 ?_
    refine tm_aload_n dX11_init_412 rfl rfl ?_
    refine tm_bipush (v := (-9)) dX11_init_413 (by decide) ?_
    replace h := chk_some h
    obtain ⟨b199, h⟩ := h
    replace h := bnd_some h
    obtain ⟨M200, eM200, h⟩ := h
    refine tm_put kX11 rfl (j := 60) (by decide) wfX11_163 rfl dX11_init_415 (fun _ => ⟨rfl, rfl⟩) (tPut_I (-9) rfl) (hgh := tgh_of (k := 11) rfl b199) ?_
    refine tm_nmM eM200 ?_
    refine tm_aload_n dX11_init_418 rfl rfl ?_
    refine tm_sipush (v := 200) dX11_init_419 (by decide) ?_
    replace h := chk_some h
    obtain ⟨b201, h⟩ := h
    replace h := bnd_some h
    obtain ⟨M202, eM202, h⟩ := h
    refine tm_newa (k := 1261) (i := 0) ⟨rfl, rfl⟩ rfl (fun _ _ => rfl) wac_int (nt_of b201) (fun _ => Or.inl rfl) (by decide) (by decide) (by decide +kernel) ⟨Nat.le_of_ble_eq_true rfl, by decide +kernel⟩ (fun _ _ h => h) dX11_init_422 ?_
    refine tm_nmM eM202 ?_
    refine tm_widen (c2 := 50) (s2 := 20863) (Nat.le_refl _) (by decide +kernel) ?_
    replace h := chk_some h
    obtain ⟨b203, h⟩ := h
    replace h := bnd_some h
    obtain ⟨M204, eM204, h⟩ := h
    refine tm_putF (y := iX11_init) (idx := 166) kX11 rfl (j := 61) (by decide) wfX11_166 rfl rfl rfl dX11_init_424 (fun _ => ⟨rfl, rfl⟩) (tPut_R (k2 := 1261) (some 0) rfl) (hgh := tgh_of (k := 11) rfl b203) ?_
    refine tm_nmM eM204 ?_
    refine tm_aload_n dX11_init_427 rfl rfl ?_
    refine tm_bipush (v := 40) dX11_init_428 (by decide) ?_
    replace h := chk_some h
    obtain ⟨b205, h⟩ := h
    replace h := bnd_some h
    obtain ⟨M206, eM206, h⟩ := h
    refine tm_newa (k := 1262) (i := 0) ⟨rfl, rfl⟩ rfl (fun _ _ => rfl) wac_int (nt_of b205) (fun _ => Or.inl rfl) (by decide) (by decide) (by decide +kernel) ⟨Nat.le_of_ble_eq_true rfl, by decide +kernel⟩ (fun _ _ h => h) dX11_init_430 ?_
    refine tm_nmM eM206 ?_
    refine tm_widen (c2 := 51) (s2 := 20903) (Nat.le_refl _) (by decide +kernel) ?_
    replace h := chk_some h
    obtain ⟨b207, h⟩ := h
    replace h := bnd_some h
    obtain ⟨M208, eM208, h⟩ := h
    refine tm_putF (y := iX11_init) (idx := 169) kX11 rfl (j := 62) (by decide) wfX11_169 rfl rfl rfl dX11_init_432 (fun _ => ⟨rfl, rfl⟩) (tPut_R (k2 := 1262) (some 0) rfl) (hgh := tgh_of (k := 11) rfl b207) ?_
    refine tm_nmM eM208 ?_
    refine tm_aload_n dX11_init_435 rfl rfl ?_
    refine tm_bipush (v := 40) dX11_init_436 (by decide) ?_
    replace h := chk_some h
    obtain ⟨b209, h⟩ := h
    replace h := bnd_some h
    obtain ⟨M210, eM210, h⟩ := h
    refine tm_newa (k := 1263) (i := 0) ⟨rfl, rfl⟩ rfl (fun _ _ => rfl) wac_int (nt_of b209) (fun _ => Or.inl rfl) (by decide) (by decide) (by decide +kernel) ⟨Nat.le_of_ble_eq_true rfl, by decide +kernel⟩ (fun _ _ h => h) dX11_init_438 ?_
    refine tm_nmM eM210 ?_
    refine tm_widen (c2 := 52) (s2 := 20943) (Nat.le_refl _) (by decide +kernel) ?_
    replace h := chk_some h
    obtain ⟨b211, h⟩ := h
    replace h := bnd_some h
    obtain ⟨M212, eM212, h⟩ := h
    refine tm_putF (y := iX11_init) (idx := 172) kX11 rfl (j := 63) (by decide) wfX11_172 rfl rfl rfl dX11_init_440 (fun _ => ⟨rfl, rfl⟩) (tPut_R (k2 := 1263) (some 0) rfl) (hgh := tgh_of (k := 11) rfl b211) ?_
    refine tm_nmM eM212 ?_
    refine tm_aload_n dX11_init_443 rfl rfl ?_
    refine tm_sipush (v := 200) dX11_init_444 (by decide) ?_
    replace h := chk_some h
    obtain ⟨b213, h⟩ := h
    replace h := bnd_some h
    obtain ⟨M214, eM214, h⟩ := h
    refine tm_newa (k := 1264) (i := 0) ⟨rfl, rfl⟩ rfl (fun _ _ => rfl) wac_int (nt_of b213) (fun _ => Or.inl rfl) (by decide) (by decide) (by decide +kernel) ⟨Nat.le_of_ble_eq_true rfl, by decide +kernel⟩ (fun _ _ h => h) dX11_init_447 ?_
    refine tm_nmM eM214 ?_
    refine tm_widen (c2 := 53) (s2 := 21143) (Nat.le_refl _) (by decide +kernel) ?_
    replace h := chk_some h
    obtain ⟨b215, h⟩ := h
    replace h := bnd_some h
    obtain ⟨M216, eM216, h⟩ := h
    refine tm_putF (y := iX11_init) (idx := 175) kX11 rfl (j := 64) (by decide) wfX11_175 rfl rfl rfl dX11_init_449 (fun _ => ⟨rfl, rfl⟩) (tPut_R (k2 := 1264) (some 0) rfl) (hgh := tgh_of (k := 11) rfl b215) ?_
    refine tm_nmM eM216 ?_
    refine tm_aload_n dX11_init_452 rfl rfl ?_
    refine tm_bipush (v := 13) dX11_init_453 (by decide) ?_
    replace h := chk_some h
    obtain ⟨b217, h⟩ := h
    replace h := bnd_some h
    obtain ⟨M218, eM218, h⟩ := h
    refine tm_newa (k := 1266) (i := 0) ⟨rfl, rfl⟩ rfl (fun _ _ => rfl) wac_int (nt_of b217) (fun _ => Or.inl rfl) (by decide) (by decide) (by decide +kernel) ⟨Nat.le_of_ble_eq_true rfl, by decide +kernel⟩ (fun _ _ h => h) dX11_init_455 ?_
    refine tm_nmM eM218 ?_
    refine tm_widen (c2 := 54) (s2 := 21156) (Nat.le_refl _) (by decide +kernel) ?_
    replace h := chk_some h
    obtain ⟨b219, h⟩ := h
    replace h := bnd_some h
    obtain ⟨M220, eM220, h⟩ := h
    refine tm_putF (y := iX11_init) (idx := 178) kX11 rfl (j := 66) (by decide) wfX11_178 rfl rfl rfl dX11_init_457 (fun _ => ⟨rfl, rfl⟩) (tPut_R (k2 := 1266) (some 0) rfl) (hgh := tgh_of (k := 11) rfl b219) ?_
    refine tm_nmM eM220 ?_
    refine tm_aload_n dX11_init_460 rfl rfl ?_
    refine tm_bipush (v := 60) dX11_init_461 (by decide) ?_
    replace h := chk_some h
    obtain ⟨b221, h⟩ := h
    replace h := bnd_some h
    obtain ⟨M222, eM222, h⟩ := h
    refine tm_newa (k := 1267) (i := 0) ⟨rfl, rfl⟩ rfl (fun _ _ => rfl) wac_int (nt_of b221) (fun _ => Or.inl rfl) (by decide) (by decide) (by decide +kernel) ⟨Nat.le_of_ble_eq_true rfl, by decide +kernel⟩ (fun _ _ h => h) dX11_init_463 ?_
    refine tm_nmM eM222 ?_
    refine tm_widen (c2 := 55) (s2 := 21216) (Nat.le_refl _) (by decide +kernel) ?_
    replace h := chk_some h
    obtain ⟨b223, h⟩ := h
    replace h := bnd_some h
    obtain ⟨M224, eM224, h⟩ := h
    refine tm_putF (y := iX11_init) (idx := 181) kX11 rfl (j := 67) (by decide) wfX11_181 rfl rfl rfl dX11_init_465 (fun _ => ⟨rfl, rfl⟩) (tPut_R (k2 := 1267) (some 0) rfl) (hgh := tgh_of (k := 11) rfl b223) ?_
    refine tm_nmM eM224 ?_
    refine tm_aload_n dX11_init_468 rfl rfl ?_
    refine tm_sipush (v := 1400) dX11_init_469 (by decide) ?_
    replace h := chk_some h
    obtain ⟨b225, h⟩ := h
    replace h := bnd_some h
    obtain ⟨M226, eM226, h⟩ := h
    refine tm_newa (k := 1268) (i := 0) ⟨rfl, rfl⟩ rfl (fun _ _ => rfl) wac_int (nt_of b225) (fun _ => Or.inl rfl) (by decide) (by decide) (by decide +kernel) ⟨Nat.le_of_ble_eq_true rfl, by decide +kernel⟩ (fun _ _ h => h) dX11_init_472 ?_
    refine tm_nmM eM226 ?_
    refine tm_widen (c2 := 56) (s2 := 22616) (Nat.le_refl _) (by decide +kernel) ?_
    replace h := chk_some h
    obtain ⟨b227, h⟩ := h
    replace h := bnd_some h
    obtain ⟨M228, eM228, h⟩ := h
    refine tm_putF (y := iX11_init) (idx := 184) kX11 rfl (j := 68) (by decide) wfX11_184 rfl rfl rfl dX11_init_474 (fun _ => ⟨rfl, rfl⟩) (tPut_R (k2 := 1268) (some 0) rfl) (hgh := tgh_of (k := 11) rfl b227) ?_
    refine tm_nmM eM228 ?_
    refine tm_aload_n dX11_init_477 rfl rfl ?_
    refine tm_sipush (v := 1400) dX11_init_478 (by decide) ?_
    replace h := chk_some h
    obtain ⟨b229, h⟩ := h
    replace h := bnd_some h
    obtain ⟨M230, eM230, h⟩ := h
    refine tm_newa (k := 1269) (i := 0) ⟨rfl, rfl⟩ rfl (fun _ _ => rfl) wac_int (nt_of b229) (fun _ => Or.inl rfl) (by decide) (by decide) (by decide +kernel) ⟨Nat.le_of_ble_eq_true rfl, by decide +kernel⟩ (fun _ _ h => h) dX11_init_481 ?_
    refine tm_nmM eM230 ?_
    refine tm_widen (c2 := 57) (s2 := 24016) (Nat.le_refl _) (by decide +kernel) ?_
    replace h := chk_some h
    obtain ⟨b231, h⟩ := h
    replace h := bnd_some h
    obtain ⟨M232, eM232, h⟩ := h
    refine tm_putF (y := iX11_init) (idx := 187) kX11 rfl (j := 69) (by decide) wfX11_187 rfl rfl rfl dX11_init_483 (fun _ => ⟨rfl, rfl⟩) (tPut_R (k2 := 1269) (some 0) rfl) (hgh := tgh_of (k := 11) rfl b231) ?_
    refine tm_nmM eM232 ?_
    refine tm_aload_n dX11_init_486 rfl rfl ?_
    refine tm_sipush (v := 1400) dX11_init_487 (by decide) ?_
    replace h := chk_some h
    obtain ⟨b233, h⟩ := h
    replace h := bnd_some h
    obtain ⟨M234, eM234, h⟩ := h
    refine tm_newa (k := 1270) (i := 0) ⟨rfl, rfl⟩ rfl (fun _ _ => rfl) wac_int (nt_of b233) (fun _ => Or.inl rfl) (by decide) (by decide) (by decide +kernel) ⟨Nat.le_of_ble_eq_true rfl, by decide +kernel⟩ (fun _ _ h => h) dX11_init_490 ?_
    refine tm_nmM eM234 ?_
    refine tm_widen (c2 := 58) (s2 := 25416) (Nat.le_refl _) (by decide +kernel) ?_
    replace h := chk_some h
    obtain ⟨b235, h⟩ := h
    replace h := bnd_some h
    obtain ⟨M236, eM236, h⟩ := h
    refine tm_putF (y := iX11_init) (idx := 190) kX11 rfl (j := 70) (by decide) wfX11_190 rfl rfl rfl dX11_init_492 (fun _ => ⟨rfl, rfl⟩) (tPut_R (k2 := 1270) (some 0) rfl) (hgh := tgh_of (k := 11) rfl b235) ?_
    refine tm_nmM eM236 ?_
    refine tm_aload_n dX11_init_495 rfl rfl ?_
    refine tm_bipush (v := 60) dX11_init_496 (by decide) ?_
    replace h := chk_some h
    obtain ⟨b237, h⟩ := h
    replace h := bnd_some h
    obtain ⟨M238, eM238, h⟩ := h
    refine tm_newa (k := 1272) (i := 0) ⟨rfl, rfl⟩ rfl (fun _ _ => rfl) wac_long (nt_of b237) (fun _ => Or.inr (Or.inl rfl)) (by decide) (by decide) (by decide +kernel) ⟨Nat.le_of_ble_eq_true rfl, by decide +kernel⟩ (fun _ _ h => h) dX11_init_498 ?_
    refine tm_nmM eM238 ?_
    refine tm_widen (c2 := 59) (s2 := 25476) (Nat.le_refl _) (by decide +kernel) ?_
    replace h := chk_some h
    obtain ⟨b239, h⟩ := h
    replace h := bnd_some h
    obtain ⟨M240, eM240, h⟩ := h
    refine tm_putF (y := iX11_init) (idx := 193) kX11 rfl (j := 72) (by decide) wfX11_193 rfl rfl rfl dX11_init_500 (fun _ => ⟨rfl, rfl⟩) (tPut_R (k2 := 1272) (some 0) rfl) (hgh := tgh_of (k := 11) rfl b239) ?_
    refine tm_nmM eM240 ?_
    refine tm_aload_n dX11_init_503 rfl rfl ?_
    refine tm_bipush (v := 60) dX11_init_504 (by decide) ?_
    replace h := chk_some h
    obtain ⟨b241, h⟩ := h
    replace h := bnd_some h
    obtain ⟨M242, eM242, h⟩ := h
    refine tm_newa (k := 1273) (i := 0) ⟨rfl, rfl⟩ rfl (fun _ _ => rfl) wac_int (nt_of b241) (fun _ => Or.inl rfl) (by decide) (by decide) (by decide +kernel) ⟨Nat.le_of_ble_eq_true rfl, by decide +kernel⟩ (fun _ _ h => h) dX11_init_506 ?_
    refine tm_nmM eM242 ?_
    refine tm_widen (c2 := 60) (s2 := 25536) (Nat.le_refl _) (by decide +kernel) ?_
    replace h := chk_some h
    obtain ⟨b243, h⟩ := h
    replace h := bnd_some h
    obtain ⟨M244, eM244, h⟩ := h
    refine tm_putF (y := iX11_init) (idx := 196) kX11 rfl (j := 73) (by decide) wfX11_196 rfl rfl rfl dX11_init_508 (fun _ => ⟨rfl, rfl⟩) (tPut_R (k2 := 1273) (some 0) rfl) (hgh := tgh_of (k := 11) rfl b243) ?_
    refine tm_nmM eM244 ?_
    obtain rfl := Option.some.inj h
    exact tm_vret rfl dX11_init_511
  exact TMet.of (by decide) (Nat.le_of_ble_eq_true rfl) key
