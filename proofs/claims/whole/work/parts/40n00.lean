theorem wac_int : Cond.arrayClass (newarray.typeOf .int) ∈ tgd := (tgd_t 94 (by decide +kernel) (by decide +kernel))
theorem wac_long : Cond.arrayClass (newarray.typeOf .long) ∈ tgd := (tgd_t 95 (by decide +kernel) (by decide +kernel))
theorem woiX0_3 : Cond.methodLink RX0 3 objectInit ∈ tgd ∧ Cond.instanceMethod objectInit ∈ tgd ∧ Cond.code objectInit ⟨#[0xb1]⟩ 1 none ∈ tgd := ⟨(tgd_t 269 (by decide +kernel) (by decide +kernel)), (tgd_t 22 (by decide +kernel) (by decide +kernel)), (tgd_t 23 (by decide +kernel) (by decide +kernel))⟩
abbrev iX0_init : tY := (RX0, cX0_init, 2, none, "<init>")
abbrev rmX0_init : Room := { frames := 1, cells := 7, slots := 3972, locals := 20 }
def fX0_init  (M : tM) : Option (tM) :=
  chk (!mE M 104 0) <|
  bnd (mA M 104 0 ((12 : Int32).toNatClampNeg)) fun M2 =>
  chk (!mE M2 0 0) <|
  bnd (sR M2 12 0 4 (some 0)) fun M4 =>
  chk (!mE M4 105 0) <|
  bnd (mA M4 105 0 ((60 : Int32).toNatClampNeg)) fun M6 =>
  chk (!mE M6 0 0) <|
  bnd (sR M6 12 0 5 (some 0)) fun M8 =>
  chk (!mE M8 107 0) <|
  bnd (mA M8 107 0 ((1260 : Int32).toNatClampNeg)) fun M10 =>
  chk (!mE M10 0 0) <|
  bnd (sR M10 12 0 7 (some 0)) fun M12 =>
  chk (!mE M12 108 0) <|
  bnd (mA M12 108 0 ((1260 : Int32).toNatClampNeg)) fun M14 =>
  chk (!mE M14 0 0) <|
  bnd (sR M14 12 0 8 (some 0)) fun M16 =>
  chk (!mE M16 109 0) <|
  bnd (mA M16 109 0 ((1260 : Int32).toNatClampNeg)) fun M18 =>
  chk (!mE M18 0 0) <|
  bnd (sR M18 12 0 9 (some 0)) fun M20 =>
  chk (!mE M20 111 0) <|
  bnd (mA M20 111 0 ((60 : Int32).toNatClampNeg)) fun M22 =>
  chk (!mE M22 0 0) <|
  bnd (sR M22 12 0 11 (some 0)) fun M24 =>
  chk (!mE M24 112 0) <|
  bnd (mA M24 112 0 ((60 : Int32).toNatClampNeg)) fun M26 =>
  chk (!mE M26 0 0) <|
  bnd (sR M26 12 0 12 (some 0)) fun M28 =>
  chk (!mE M28 0 0) <|
  bnd (sR M28 12 0 0 (some 0)) fun M30 =>
  some M30
set_option maxHeartbeats 4000000 in
set_option maxRecDepth 100000 in
theorem okX0_init {g : tG}  {M : tM} {Mz : tM} (h : fX0_init  M = some Mz) : TMet g yX0_init (Cond.code yX0_init cX0_init 2 (none) :: tgd) rmX0_init [tr 12 0, tr 1 0] M none Mz 7 3972 := by
  have key : TW g iX0_init rmX0_init 7 3972 none Mz 0 0 0 [(0, tr 12 0), (1, tr 1 0)] [] M := by
    rw [fX0_init] at h
    refine tm_aload_n dX0_init_0 rfl rfl ?_
    refine tm_objInit woiX0_3.1 woiX0_3.2.1 woiX0_3.2.2 ⟨by decide, by decide⟩ dX0_init_1 ?_
    refine tm_aload_n dX0_init_4 rfl rfl ?_
    refine tm_bipush (v := 12) dX0_init_5 (by decide) ?_
    replace h := chk_some h
    obtain ⟨b1, h⟩ := h
    replace h := bnd_some h
    obtain ⟨M2, eM2, h⟩ := h
    refine tm_newa (k := 104) (i := 0) ⟨rfl, rfl⟩ rfl (fun _ _ => rfl) wac_int (nt_of b1) (fun _ => Or.inl rfl) (by decide) (by decide) (by decide +kernel) ⟨Nat.le_of_ble_eq_true rfl, by decide +kernel⟩ (fun _ _ h => h) dX0_init_7 ?_
    refine tm_nmM eM2 ?_
    refine tm_widen (c2 := 1) (s2 := 12) (Nat.le_refl _) (by decide +kernel) ?_
    replace h := chk_some h
    obtain ⟨b3, h⟩ := h
    replace h := bnd_some h
    obtain ⟨M4, eM4, h⟩ := h
    refine tm_putF (y := iX0_init) (idx := 9) kX0 rfl (j := 4) (by decide) wfX0_9 rfl rfl rfl dX0_init_9 (fun _ => ⟨rfl, rfl⟩) (tPut_R (k2 := 104) (some 0) rfl) (hgh := tgh_of (k := 0) rfl b3) ?_
    refine tm_nmM eM4 ?_
    refine tm_aload_n dX0_init_12 rfl rfl ?_
    refine tm_bipush (v := 60) dX0_init_13 (by decide) ?_
    replace h := chk_some h
    obtain ⟨b5, h⟩ := h
    replace h := bnd_some h
    obtain ⟨M6, eM6, h⟩ := h
    refine tm_newa (k := 105) (i := 0) ⟨rfl, rfl⟩ rfl (fun _ _ => rfl) wac_int (nt_of b5) (fun _ => Or.inl rfl) (by decide) (by decide) (by decide +kernel) ⟨Nat.le_of_ble_eq_true rfl, by decide +kernel⟩ (fun _ _ h => h) dX0_init_15 ?_
    refine tm_nmM eM6 ?_
    refine tm_widen (c2 := 2) (s2 := 72) (Nat.le_refl _) (by decide +kernel) ?_
    replace h := chk_some h
    obtain ⟨b7, h⟩ := h
    replace h := bnd_some h
    obtain ⟨M8, eM8, h⟩ := h
    refine tm_putF (y := iX0_init) (idx := 15) kX0 rfl (j := 5) (by decide) wfX0_15 rfl rfl rfl dX0_init_17 (fun _ => ⟨rfl, rfl⟩) (tPut_R (k2 := 105) (some 0) rfl) (hgh := tgh_of (k := 0) rfl b7) ?_
    refine tm_nmM eM8 ?_
    refine tm_aload_n dX0_init_20 rfl rfl ?_
    refine tm_sipush (v := 1260) dX0_init_21 (by decide) ?_
    replace h := chk_some h
    obtain ⟨b9, h⟩ := h
    replace h := bnd_some h
    obtain ⟨M10, eM10, h⟩ := h
    refine tm_newa (k := 107) (i := 0) ⟨rfl, rfl⟩ rfl (fun _ _ => rfl) wac_int (nt_of b9) (fun _ => Or.inl rfl) (by decide) (by decide) (by decide +kernel) ⟨Nat.le_of_ble_eq_true rfl, by decide +kernel⟩ (fun _ _ h => h) dX0_init_24 ?_
    refine tm_nmM eM10 ?_
    refine tm_widen (c2 := 3) (s2 := 1332) (Nat.le_refl _) (by decide +kernel) ?_
    replace h := chk_some h
    obtain ⟨b11, h⟩ := h
    replace h := bnd_some h
    obtain ⟨M12, eM12, h⟩ := h
    refine tm_putF (y := iX0_init) (idx := 18) kX0 rfl (j := 7) (by decide) wfX0_18 rfl rfl rfl dX0_init_26 (fun _ => ⟨rfl, rfl⟩) (tPut_R (k2 := 107) (some 0) rfl) (hgh := tgh_of (k := 0) rfl b11) ?_
    refine tm_nmM eM12 ?_
    refine tm_aload_n dX0_init_29 rfl rfl ?_
    refine tm_sipush (v := 1260) dX0_init_30 (by decide) ?_
    replace h := chk_some h
    obtain ⟨b13, h⟩ := h
    replace h := bnd_some h
    obtain ⟨M14, eM14, h⟩ := h
    refine tm_newa (k := 108) (i := 0) ⟨rfl, rfl⟩ rfl (fun _ _ => rfl) wac_int (nt_of b13) (fun _ => Or.inl rfl) (by decide) (by decide) (by decide +kernel) ⟨Nat.le_of_ble_eq_true rfl, by decide +kernel⟩ (fun _ _ h => h) dX0_init_33 ?_
    refine tm_nmM eM14 ?_
    refine tm_widen (c2 := 4) (s2 := 2592) (Nat.le_refl _) (by decide +kernel) ?_
    replace h := chk_some h
    obtain ⟨b15, h⟩ := h
    replace h := bnd_some h
    obtain ⟨M16, eM16, h⟩ := h
    refine tm_putF (y := iX0_init) (idx := 21) kX0 rfl (j := 8) (by decide) wfX0_21 rfl rfl rfl dX0_init_35 (fun _ => ⟨rfl, rfl⟩) (tPut_R (k2 := 108) (some 0) rfl) (hgh := tgh_of (k := 0) rfl b15) ?_
    refine tm_nmM eM16 ?_
    refine tm_aload_n dX0_init_38 rfl rfl ?_
    refine tm_sipush (v := 1260) dX0_init_39 (by decide) ?_
    replace h := chk_some h
    obtain ⟨b17, h⟩ := h
    replace h := bnd_some h
    obtain ⟨M18, eM18, h⟩ := h
    refine tm_newa (k := 109) (i := 0) ⟨rfl, rfl⟩ rfl (fun _ _ => rfl) wac_int (nt_of b17) (fun _ => Or.inl rfl) (by decide) (by decide) (by decide +kernel) ⟨Nat.le_of_ble_eq_true rfl, by decide +kernel⟩ (fun _ _ h => h) dX0_init_42 ?_
    refine tm_nmM eM18 ?_
    refine tm_widen (c2 := 5) (s2 := 3852) (Nat.le_refl _) (by decide +kernel) ?_
    replace h := chk_some h
    obtain ⟨b19, h⟩ := h
    replace h := bnd_some h
    obtain ⟨M20, eM20, h⟩ := h
    refine tm_putF (y := iX0_init) (idx := 24) kX0 rfl (j := 9) (by decide) wfX0_24 rfl rfl rfl dX0_init_44 (fun _ => ⟨rfl, rfl⟩) (tPut_R (k2 := 109) (some 0) rfl) (hgh := tgh_of (k := 0) rfl b19) ?_
    refine tm_nmM eM20 ?_
    refine tm_aload_n dX0_init_47 rfl rfl ?_
    refine tm_bipush (v := 60) dX0_init_48 (by decide) ?_
    replace h := chk_some h
    obtain ⟨b21, h⟩ := h
    replace h := bnd_some h
    obtain ⟨M22, eM22, h⟩ := h
    refine tm_newa (k := 111) (i := 0) ⟨rfl, rfl⟩ rfl (fun _ _ => rfl) wac_long (nt_of b21) (fun _ => Or.inr (Or.inl rfl)) (by decide) (by decide) (by decide +kernel) ⟨Nat.le_of_ble_eq_true rfl, by decide +kernel⟩ (fun _ _ h => h) dX0_init_50 ?_
    refine tm_nmM eM22 ?_
    refine tm_widen (c2 := 6) (s2 := 3912) (Nat.le_refl _) (by decide +kernel) ?_
    replace h := chk_some h
    obtain ⟨b23, h⟩ := h
    replace h := bnd_some h
    obtain ⟨M24, eM24, h⟩ := h
    refine tm_putF (y := iX0_init) (idx := 27) kX0 rfl (j := 11) (by decide) wfX0_27 rfl rfl rfl dX0_init_52 (fun _ => ⟨rfl, rfl⟩) (tPut_R (k2 := 111) (some 0) rfl) (hgh := tgh_of (k := 0) rfl b23) ?_
    refine tm_nmM eM24 ?_
    refine tm_aload_n dX0_init_55 rfl rfl ?_
    refine tm_bipush (v := 60) dX0_init_56 (by decide) ?_
    replace h := chk_some h
    obtain ⟨b25, h⟩ := h
    replace h := bnd_some h
    obtain ⟨M26, eM26, h⟩ := h
    refine tm_newa (k := 112) (i := 0) ⟨rfl, rfl⟩ rfl (fun _ _ => rfl) wac_int (nt_of b25) (fun _ => Or.inl rfl) (by decide) (by decide) (by decide +kernel) ⟨Nat.le_of_ble_eq_true rfl, by decide +kernel⟩ (fun _ _ h => h) dX0_init_58 ?_
    refine tm_nmM eM26 ?_
    refine tm_widen (c2 := 7) (s2 := 3972) (Nat.le_refl _) (by decide +kernel) ?_
    replace h := chk_some h
    obtain ⟨b27, h⟩ := h
    replace h := bnd_some h
    obtain ⟨M28, eM28, h⟩ := h
    refine tm_putF (y := iX0_init) (idx := 31) kX0 rfl (j := 12) (by decide) wfX0_31 rfl rfl rfl dX0_init_60 (fun _ => ⟨rfl, rfl⟩) (tPut_R (k2 := 112) (some 0) rfl) (hgh := tgh_of (k := 0) rfl b27) ?_
    refine tm_nmM eM28 ?_
    refine tm_aload_n dX0_init_63 rfl rfl ?_
    refine tm_aload_n dX0_init_64 rfl rfl ?_
    replace h := chk_some h
    obtain ⟨b29, h⟩ := h
    replace h := bnd_some h
    obtain ⟨M30, eM30, h⟩ := h
    refine tm_putF (y := iX0_init) (idx := 34) kX0 rfl (j := 0) (by decide) wfX0_34 rfl rfl rfl dX0_init_65 (fun _ => ⟨rfl, rfl⟩) (tPut_R (k2 := 1) (some 0) rfl) (hgh := tgh_of (k := 0) rfl b29) ?_
    refine tm_nmM eM30 ?_
    obtain rfl := Option.some.inj h
    exact tm_vret rfl dX0_init_68
  exact TMet.of (by decide) (Nat.le_of_ble_eq_true rfl) key
theorem wclX1_9 : Cond.classLink RX1 9 "EvenFlow$Part" ∈ tgd := (tgd_t 30 (by decide +kernel) (by decide +kernel))
theorem wclX1_17 : Cond.classLink RX1 17 "EvenFlow$Line" ∈ tgd := (tgd_t 32 (by decide +kernel) (by decide +kernel))
theorem woiX1_3 : Cond.methodLink RX1 3 objectInit ∈ tgd ∧ Cond.instanceMethod objectInit ∈ tgd ∧ Cond.code objectInit ⟨#[0xb1]⟩ 1 none ∈ tgd := ⟨(tgd_t 29 (by decide +kernel) (by decide +kernel)), (tgd_t 22 (by decide +kernel) (by decide +kernel)), (tgd_t 23 (by decide +kernel) (by decide +kernel))⟩
abbrev iX1_init : tY := (RX1, cX1_init, 1, none, "<init>")
abbrev rmX1_init : Room := { frames := 1, cells := 4, slots := 188, locals := 20 }
def fX1_init  (M : tM) : Option (tM) :=
  chk (!mE M 200 0) <|
  bnd (mA M 200 0 ((12 : Int32).toNatClampNeg)) fun M2 =>
  chk (!mE M2 1 0) <|
  bnd (sR M2 13 0 0 (some 0)) fun M4 =>
  chk (!mE M4 201 0) <|
  bnd (mA M4 201 0 ((20 : Int32).toNatClampNeg)) fun M6 =>
  chk (!mE M6 1 0) <|
  bnd (sR M6 13 0 1 (some 0)) fun M8 =>
  chk (!mE M8 1 0) <|
  bnd (sI M8 13 0 5 (-9)) fun M10 =>
  chk (!mE M10 208 0) <|
  bnd (mA M10 208 0 ((12 : Int32).toNatClampNeg)) fun M12 =>
  chk (!mE M12 1 0) <|
  bnd (sR M12 13 0 8 (some 0)) fun M14 =>
  chk (!mE M14 209 0) <|
  bnd (mA M14 209 0 ((144 : Int32).toNatClampNeg)) fun M16 =>
  chk (!mE M16 1 0) <|
  bnd (sR M16 13 0 9 (some 0)) fun M18 =>
  some M18
set_option maxHeartbeats 4000000 in
set_option maxRecDepth 100000 in
theorem okX1_init {g : tG}  {M : tM} {Mz : tM} (h : fX1_init  M = some Mz) : TMet g yX1_init (Cond.code yX1_init cX1_init 1 (none) :: tgd) rmX1_init [tr 13 0] M none Mz 4 188 := by
  have key : TW g iX1_init rmX1_init 4 188 none Mz 0 0 0 [(0, tr 13 0)] [] M := by
    rw [fX1_init] at h
    refine tm_aload_n dX1_init_0 rfl rfl ?_
    refine tm_objInit woiX1_3.1 woiX1_3.2.1 woiX1_3.2.2 ⟨by decide, by decide⟩ dX1_init_1 ?_
    refine tm_aload_n dX1_init_4 rfl rfl ?_
    refine tm_bipush (v := 12) dX1_init_5 (by decide) ?_
    replace h := chk_some h
    obtain ⟨b1, h⟩ := h
    replace h := bnd_some h
    obtain ⟨M2, eM2, h⟩ := h
    refine tm_anewa (k := 200) (i := 0) ⟨rfl, rfl, rfl⟩ (fun _ => rfl) (by decide) wclX1_9 (nt_of b1) (fun j => Or.inr (Or.inr (by rw [tT_arr (k := 200) rfl j]; decide))) (by decide) (by decide) (by decide +kernel) ⟨Nat.le_of_ble_eq_true rfl, by decide +kernel⟩ dX1_init_7 ?_
    refine tm_nmM eM2 ?_
    refine tm_widen (c2 := 1) (s2 := 12) (Nat.le_refl _) (by decide +kernel) ?_
    replace h := chk_some h
    obtain ⟨b3, h⟩ := h
    replace h := bnd_some h
    obtain ⟨M4, eM4, h⟩ := h
    refine tm_putF (y := iX1_init) (idx := 11) kX1 rfl (j := 0) (by decide) wfX1_11 rfl rfl rfl dX1_init_10 (fun _ => ⟨rfl, rfl⟩) (tPut_R (k2 := 200) (some 0) rfl) (hgh := tgh_of (k := 1) rfl b3) ?_
    refine tm_nmM eM4 ?_
    refine tm_aload_n dX1_init_13 rfl rfl ?_
    refine tm_bipush (v := 20) dX1_init_14 (by decide) ?_
    replace h := chk_some h
    obtain ⟨b5, h⟩ := h
    replace h := bnd_some h
    obtain ⟨M6, eM6, h⟩ := h
    refine tm_anewa (k := 201) (i := 0) ⟨rfl, rfl, rfl⟩ (fun _ => rfl) (by decide) wclX1_17 (nt_of b5) (fun j => Or.inr (Or.inr (by rw [tT_arr (k := 201) rfl j]; decide))) (by decide) (by decide) (by decide +kernel) ⟨Nat.le_of_ble_eq_true rfl, by decide +kernel⟩ dX1_init_16 ?_
    refine tm_nmM eM6 ?_
    refine tm_widen (c2 := 2) (s2 := 32) (Nat.le_refl _) (by decide +kernel) ?_
    replace h := chk_some h
    obtain ⟨b7, h⟩ := h
    replace h := bnd_some h
    obtain ⟨M8, eM8, h⟩ := h
    refine tm_putF (y := iX1_init) (idx := 19) kX1 rfl (j := 1) (by decide) wfX1_19 rfl rfl rfl dX1_init_19 (fun _ => ⟨rfl, rfl⟩) (tPut_R (k2 := 201) (some 0) rfl) (hgh := tgh_of (k := 1) rfl b7) ?_
    refine tm_nmM eM8 ?_
    refine tm_aload_n dX1_init_22 rfl rfl ?_
    refine tm_bipush (v := (-9)) dX1_init_23 (by decide) ?_
    replace h := chk_some h
    obtain ⟨b9, h⟩ := h
    replace h := bnd_some h
    obtain ⟨M10, eM10, h⟩ := h
    refine tm_put kX1 rfl (j := 5) (by decide) wfX1_23 rfl dX1_init_25 (fun _ => ⟨rfl, rfl⟩) (tPut_I (-9) rfl) (hgh := tgh_of (k := 1) rfl b9) ?_
    refine tm_nmM eM10 ?_
    refine tm_aload_n dX1_init_28 rfl rfl ?_
    refine tm_bipush (v := 12) dX1_init_29 (by decide) ?_
    replace h := chk_some h
    obtain ⟨b11, h⟩ := h
    replace h := bnd_some h
    obtain ⟨M12, eM12, h⟩ := h
    refine tm_newa (k := 208) (i := 0) ⟨rfl, rfl⟩ rfl (fun _ _ => rfl) wac_int (nt_of b11) (fun _ => Or.inl rfl) (by decide) (by decide) (by decide +kernel) ⟨Nat.le_of_ble_eq_true rfl, by decide +kernel⟩ (fun _ _ h => h) dX1_init_31 ?_
    refine tm_nmM eM12 ?_
    refine tm_widen (c2 := 3) (s2 := 44) (Nat.le_refl _) (by decide +kernel) ?_
    replace h := chk_some h
    obtain ⟨b13, h⟩ := h
    replace h := bnd_some h
    obtain ⟨M14, eM14, h⟩ := h
    refine tm_putF (y := iX1_init) (idx := 27) kX1 rfl (j := 8) (by decide) wfX1_27 rfl rfl rfl dX1_init_33 (fun _ => ⟨rfl, rfl⟩) (tPut_R (k2 := 208) (some 0) rfl) (hgh := tgh_of (k := 1) rfl b13) ?_
    refine tm_nmM eM14 ?_
    refine tm_aload_n dX1_init_36 rfl rfl ?_
    refine tm_sipush (v := 144) dX1_init_37 (by decide) ?_
    replace h := chk_some h
    obtain ⟨b15, h⟩ := h
    replace h := bnd_some h
    obtain ⟨M16, eM16, h⟩ := h
    refine tm_newa (k := 209) (i := 0) ⟨rfl, rfl⟩ rfl (fun _ _ => rfl) wac_long (nt_of b15) (fun _ => Or.inr (Or.inl rfl)) (by decide) (by decide) (by decide +kernel) ⟨Nat.le_of_ble_eq_true rfl, by decide +kernel⟩ (fun _ _ h => h) dX1_init_40 ?_
    refine tm_nmM eM16 ?_
    refine tm_widen (c2 := 4) (s2 := 188) (Nat.le_refl _) (by decide +kernel) ?_
    replace h := chk_some h
    obtain ⟨b17, h⟩ := h
    replace h := bnd_some h
    obtain ⟨M18, eM18, h⟩ := h
    refine tm_putF (y := iX1_init) (idx := 31) kX1 rfl (j := 9) (by decide) wfX1_31 rfl rfl rfl dX1_init_42 (fun _ => ⟨rfl, rfl⟩) (tPut_R (k2 := 209) (some 0) rfl) (hgh := tgh_of (k := 1) rfl b17) ?_
    refine tm_nmM eM18 ?_
    obtain rfl := Option.some.inj h
    exact tm_vret rfl dX1_init_45
  exact TMet.of (by decide) (Nat.le_of_ble_eq_true rfl) key
theorem woiX2_3 : Cond.methodLink RX2 3 objectInit ∈ tgd ∧ Cond.instanceMethod objectInit ∈ tgd ∧ Cond.code objectInit ⟨#[0xb1]⟩ 1 none ∈ tgd := ⟨(tgd_t 174 (by decide +kernel) (by decide +kernel)), (tgd_t 22 (by decide +kernel) (by decide +kernel)), (tgd_t 23 (by decide +kernel) (by decide +kernel))⟩
abbrev iX2_init : tY := (RX2, cX2_init, 3, none, "<init>")
abbrev rmX2_init : Room := { frames := 1, cells := 1, slots := 20, locals := 20 }
def fX2_init  (M : tM) : Option (tM) :=
  chk (!mE M 302 0) <|
  bnd (mA M 302 0 ((20 : Int32).toNatClampNeg)) fun M2 =>
  chk (!mE M2 2 0) <|
  bnd (sR M2 14 0 2 (some 0)) fun M4 =>
  chk (!mE M4 2 0) <|
  bnd (sR M4 14 0 0 (some 0)) fun M6 =>
  chk (!mE M6 2 0) <|
  bnd (sR M6 14 0 1 (some 0)) fun M8 =>
  some M8
set_option maxHeartbeats 4000000 in
set_option maxRecDepth 100000 in
theorem okX2_init {g : tG}  {M : tM} {Mz : tM} (h : fX2_init  M = some Mz) : TMet g yX2_init (Cond.code yX2_init cX2_init 3 (none) :: tgd) rmX2_init [tr 14 0, tr 1 0, tr 5 0] M none Mz 1 20 := by
  have key : TW g iX2_init rmX2_init 1 20 none Mz 0 0 0 [(0, tr 14 0), (1, tr 1 0), (2, tr 5 0)] [] M := by
    rw [fX2_init] at h
    refine tm_aload_n dX2_init_0 rfl rfl ?_
    refine tm_objInit woiX2_3.1 woiX2_3.2.1 woiX2_3.2.2 ⟨by decide, by decide⟩ dX2_init_1 ?_
    refine tm_aload_n dX2_init_4 rfl rfl ?_
    refine tm_bipush (v := 20) dX2_init_5 (by decide) ?_
    replace h := chk_some h
    obtain ⟨b1, h⟩ := h
    replace h := bnd_some h
    obtain ⟨M2, eM2, h⟩ := h
    refine tm_newa (k := 302) (i := 0) ⟨rfl, rfl⟩ rfl (fun _ _ => rfl) wac_int (nt_of b1) (fun _ => Or.inl rfl) (by decide) (by decide) (by decide +kernel) ⟨Nat.le_of_ble_eq_true rfl, by decide +kernel⟩ (fun _ _ h => h) dX2_init_7 ?_
    refine tm_nmM eM2 ?_
    refine tm_widen (c2 := 1) (s2 := 20) (Nat.le_refl _) (by decide +kernel) ?_
    replace h := chk_some h
    obtain ⟨b3, h⟩ := h
    replace h := bnd_some h
    obtain ⟨M4, eM4, h⟩ := h
    refine tm_putF (y := iX2_init) (idx := 9) kX2 rfl (j := 2) (by decide) wfX2_9 rfl rfl rfl dX2_init_9 (fun _ => ⟨rfl, rfl⟩) (tPut_R (k2 := 302) (some 0) rfl) (hgh := tgh_of (k := 2) rfl b3) ?_
    refine tm_nmM eM4 ?_
    refine tm_aload_n dX2_init_12 rfl rfl ?_
    refine tm_aload_n dX2_init_13 rfl rfl ?_
    replace h := chk_some h
    obtain ⟨b5, h⟩ := h
    replace h := bnd_some h
    obtain ⟨M6, eM6, h⟩ := h
    refine tm_putF (y := iX2_init) (idx := 15) kX2 rfl (j := 0) (by decide) wfX2_15 rfl rfl rfl dX2_init_14 (fun _ => ⟨rfl, rfl⟩) (tPut_R (k2 := 1) (some 0) rfl) (hgh := tgh_of (k := 2) rfl b5) ?_
    refine tm_nmM eM6 ?_
    refine tm_aload_n dX2_init_17 rfl rfl ?_
    refine tm_aload_n dX2_init_18 rfl rfl ?_
    replace h := chk_some h
    obtain ⟨b7, h⟩ := h
    replace h := bnd_some h
    obtain ⟨M8, eM8, h⟩ := h
    refine tm_putF (y := iX2_init) (idx := 19) kX2 rfl (j := 1) (by decide) wfX2_19 rfl rfl rfl dX2_init_19 (fun _ => ⟨rfl, rfl⟩) (tPut_R (k2 := 5) (some 0) rfl) (hgh := tgh_of (k := 2) rfl b7) ?_
    refine tm_nmM eM8 ?_
    obtain rfl := Option.some.inj h
    exact tm_vret rfl dX2_init_22
  exact TMet.of (by decide) (Nat.le_of_ble_eq_true rfl) key
theorem wfX3_9 : Cond.fieldLink RX3 9 "EvenFlow$Least" "best" "[I" ∈ tgd := (tgd_t 202 (by decide +kernel) (by decide +kernel))
theorem wfX3_15 : Cond.fieldLink RX3 15 "EvenFlow$Least" "path" "[I" ∈ tgd := (tgd_t 206 (by decide +kernel) (by decide +kernel))
theorem wfX3_21 : Cond.fieldLink RX3 21 "EvenFlow$Least" "graph" "LEvenFlow$Graph;" ∈ tgd := (tgd_t 200 (by decide +kernel) (by decide +kernel))
theorem woiX3_3 : Cond.methodLink RX3 3 objectInit ∈ tgd ∧ Cond.instanceMethod objectInit ∈ tgd ∧ Cond.code objectInit ⟨#[0xb1]⟩ 1 none ∈ tgd := ⟨(tgd_t 199 (by decide +kernel) (by decide +kernel)), (tgd_t 22 (by decide +kernel) (by decide +kernel)), (tgd_t 23 (by decide +kernel) (by decide +kernel))⟩
abbrev iX3_init : tY := (RX3, cX3_init, 3, none, "<init>")
abbrev rmX3_init : Room := { frames := 1, cells := 3, slots := 880, locals := 20 }
def fX3_init  (M : tM) : Option (tM) :=
  chk (!mE M 402 0) <|
  bnd (mA M 402 0 ((40 : Int32).toNatClampNeg)) fun M2 =>
  chk (!mE M2 3 0) <|
  bnd (sR M2 15 0 2 (some 0)) fun M4 =>
  chk (!mE M4 404 0) <|
  bnd (mA M4 404 0 ((40 : Int32).toNatClampNeg)) fun M6 =>
  chk (!mE M6 3 0) <|
  bnd (sR M6 15 0 4 (some 0)) fun M8 =>
  chk (!mE M8 405 0) <|
  bnd (mA M8 405 0 ((800 : Int32).toNatClampNeg)) fun M10 =>
  chk (!mE M10 3 0) <|
  bnd (sR M10 15 0 5 (some 0)) fun M12 =>
  chk (!mE M12 3 0) <|
  bnd (sR M12 15 0 0 (some 0)) fun M14 =>
  chk (!mE M14 3 0) <|
  bnd (sR M14 15 0 1 (some 0)) fun M16 =>
  some M16
set_option maxHeartbeats 4000000 in
set_option maxRecDepth 100000 in
theorem okX3_init {g : tG}  {M : tM} {Mz : tM} (h : fX3_init  M = some Mz) : TMet g yX3_init (Cond.code yX3_init cX3_init 3 (none) :: tgd) rmX3_init [tr 15 0, tr 1 0, tr 5 0] M none Mz 3 880 := by
  have key : TW g iX3_init rmX3_init 3 880 none Mz 0 0 0 [(0, tr 15 0), (1, tr 1 0), (2, tr 5 0)] [] M := by
    rw [fX3_init] at h
    refine tm_aload_n dX3_init_0 rfl rfl ?_
    refine tm_objInit woiX3_3.1 woiX3_3.2.1 woiX3_3.2.2 ⟨by decide, by decide⟩ dX3_init_1 ?_
    refine tm_aload_n dX3_init_4 rfl rfl ?_
    refine tm_bipush (v := 40) dX3_init_5 (by decide) ?_
    replace h := chk_some h
    obtain ⟨b1, h⟩ := h
    replace h := bnd_some h
    obtain ⟨M2, eM2, h⟩ := h
    refine tm_newa (k := 402) (i := 0) ⟨rfl, rfl⟩ rfl (fun _ _ => rfl) wac_int (nt_of b1) (fun _ => Or.inl rfl) (by decide) (by decide) (by decide +kernel) ⟨Nat.le_of_ble_eq_true rfl, by decide +kernel⟩ (fun _ _ h => h) dX3_init_7 ?_
    refine tm_nmM eM2 ?_
    refine tm_widen (c2 := 1) (s2 := 40) (Nat.le_refl _) (by decide +kernel) ?_
    replace h := chk_some h
    obtain ⟨b3, h⟩ := h
    replace h := bnd_some h
    obtain ⟨M4, eM4, h⟩ := h
    refine tm_putF (y := iX3_init) (idx := 9) kX3 rfl (j := 2) (by decide) wfX3_9 rfl rfl rfl dX3_init_9 (fun _ => ⟨rfl, rfl⟩) (tPut_R (k2 := 402) (some 0) rfl) (hgh := tgh_of (k := 3) rfl b3) ?_
    refine tm_nmM eM4 ?_
    refine tm_aload_n dX3_init_12 rfl rfl ?_
    refine tm_bipush (v := 40) dX3_init_13 (by decide) ?_
    replace h := chk_some h
    obtain ⟨b5, h⟩ := h
    replace h := bnd_some h
    obtain ⟨M6, eM6, h⟩ := h
    refine tm_newa (k := 404) (i := 0) ⟨rfl, rfl⟩ rfl (fun _ _ => rfl) wac_int (nt_of b5) (fun _ => Or.inl rfl) (by decide) (by decide) (by decide +kernel) ⟨Nat.le_of_ble_eq_true rfl, by decide +kernel⟩ (fun _ _ h => h) dX3_init_15 ?_
    refine tm_nmM eM6 ?_
    refine tm_widen (c2 := 2) (s2 := 80) (Nat.le_refl _) (by decide +kernel) ?_
    replace h := chk_some h
    obtain ⟨b7, h⟩ := h
    replace h := bnd_some h
    obtain ⟨M8, eM8, h⟩ := h
    refine tm_putF (y := iX3_init) (idx := 15) kX3 rfl (j := 4) (by decide) wfX3_15 rfl rfl rfl dX3_init_17 (fun _ => ⟨rfl, rfl⟩) (tPut_R (k2 := 404) (some 0) rfl) (hgh := tgh_of (k := 3) rfl b7) ?_
    refine tm_nmM eM8 ?_
    refine tm_aload_n dX3_init_20 rfl rfl ?_
    refine tm_sipush (v := 800) dX3_init_21 (by decide) ?_
    replace h := chk_some h
    obtain ⟨b9, h⟩ := h
    replace h := bnd_some h
    obtain ⟨M10, eM10, h⟩ := h
    refine tm_newa (k := 405) (i := 0) ⟨rfl, rfl⟩ rfl (fun _ _ => rfl) wac_int (nt_of b9) (fun _ => Or.inl rfl) (by decide) (by decide) (by decide +kernel) ⟨Nat.le_of_ble_eq_true rfl, by decide +kernel⟩ (fun _ _ h => h) dX3_init_24 ?_
    refine tm_nmM eM10 ?_
    refine tm_widen (c2 := 3) (s2 := 880) (Nat.le_refl _) (by decide +kernel) ?_
    replace h := chk_some h
    obtain ⟨b11, h⟩ := h
    replace h := bnd_some h
    obtain ⟨M12, eM12, h⟩ := h
    refine tm_putF (y := iX3_init) (idx := 18) kX3 rfl (j := 5) (by decide) wfX3_18 rfl rfl rfl dX3_init_26 (fun _ => ⟨rfl, rfl⟩) (tPut_R (k2 := 405) (some 0) rfl) (hgh := tgh_of (k := 3) rfl b11) ?_
    refine tm_nmM eM12 ?_
    refine tm_aload_n dX3_init_29 rfl rfl ?_
    refine tm_aload_n dX3_init_30 rfl rfl ?_
    replace h := chk_some h
    obtain ⟨b13, h⟩ := h
    replace h := bnd_some h
    obtain ⟨M14, eM14, h⟩ := h
    refine tm_putF (y := iX3_init) (idx := 21) kX3 rfl (j := 0) (by decide) wfX3_21 rfl rfl rfl dX3_init_31 (fun _ => ⟨rfl, rfl⟩) (tPut_R (k2 := 1) (some 0) rfl) (hgh := tgh_of (k := 3) rfl b13) ?_
    refine tm_nmM eM14 ?_
    refine tm_aload_n dX3_init_34 rfl rfl ?_
    refine tm_aload_n dX3_init_35 rfl rfl ?_
    replace h := chk_some h
    obtain ⟨b15, h⟩ := h
    replace h := bnd_some h
    obtain ⟨M16, eM16, h⟩ := h
    refine tm_putF (y := iX3_init) (idx := 25) kX3 rfl (j := 1) (by decide) wfX3_25 rfl rfl rfl dX3_init_36 (fun _ => ⟨rfl, rfl⟩) (tPut_R (k2 := 5) (some 0) rfl) (hgh := tgh_of (k := 3) rfl b15) ?_
    refine tm_nmM eM16 ?_
    obtain rfl := Option.some.inj h
    exact tm_vret rfl dX3_init_39
  exact TMet.of (by decide) (Nat.le_of_ble_eq_true rfl) key
theorem wcX4_44 : tCB RX4 44 yJ7_fill_53178 cJ7_fill_53178 4 (none) 2 ∧ Cond.methodLink RX4 44 yJ7_fill_53178 ∈ tgd ∧ Cond.static yJ7_fill_53178 ∈ tgd := ⟨⟨(tgd_t 535 (by decide +kernel) (by decide +kernel)), (tgd_t 14 (by decide +kernel) (by decide +kernel)), by decide, by decide +kernel⟩, (tgd_t 553 (by decide +kernel) (by decide +kernel)), (tgd_t 534 (by decide +kernel) (by decide +kernel))⟩
theorem wfX4_21 : Cond.fieldLink RX4 21 "EvenFlow$Line" "number" "I" ∈ tgd := (tgd_t 554 (by decide +kernel) (by decide +kernel))
theorem wfX4_32 : Cond.fieldLink RX4 32 "EvenFlow$Part" "phases" "I" ∈ tgd := (tgd_t 417 (by decide +kernel) (by decide +kernel))
theorem woiX4_3 : Cond.methodLink RX4 3 objectInit ∈ tgd ∧ Cond.instanceMethod objectInit ∈ tgd ∧ Cond.code objectInit ⟨#[0xb1]⟩ 1 none ∈ tgd := ⟨(tgd_t 552 (by decide +kernel) (by decide +kernel)), (tgd_t 22 (by decide +kernel) (by decide +kernel)), (tgd_t 23 (by decide +kernel) (by decide +kernel))⟩
abbrev iX4_init : tY := (RX4, cX4_init, 6, none, "<init>")
abbrev rmX4_init : Room := { frames := 1, cells := 5, slots := 668, locals := 23 }
def fX4_init (i : Nat) (a1 : Int32) (a2 : Option Nat) (a3 : Int32) (a4 : Option Nat) (a5 : Int32) (M : tM) : Option (tM) :=
  chk (!mE M 505 i) <|
  bnd (mA M 505 i ((60 : Int32).toNatClampNeg)) fun M2 =>
  chk (!mE M2 4 i) <|
  bnd (sR M2 16 i 5 (some i)) fun M4 =>
  chk (!mE M4 507 i) <|
  bnd (mA M4 507 i ((400 : Int32).toNatClampNeg)) fun M6 =>
  chk (!mE M6 4 i) <|
  bnd (sR M6 16 i 7 (some i)) fun M8 =>
  chk (!mE M8 510 i) <|
  bnd (mA M8 510 i ((200 : Int32).toNatClampNeg)) fun M10 =>
  chk (!mE M10 4 i) <|
  bnd (sR M10 16 i 10 (some i)) fun M12 =>
  chk (!mE M12 4 i) <|
  bnd (sI M12 16 i 0 a1) fun M14 =>
  chk (!mE M14 4 i) <|
  bnd (sR M14 16 i 1 a2) fun M16 =>
  chk (!mE M16 4 i) <|
  bnd (sR M16 16 i 2 a4) fun M18 =>
  Option.bind a2 fun i19 =>
  bnd (mI M18 7 i19 3) fun x20 =>
  chk (!mE M18 503 i) <|
  chk (!decide (x20 < 0)) <|
  chk (decide (x20.toNatClampNeg ≤ 4)) <|
  bnd (mA M18 503 i (x20.toNatClampNeg)) fun M24 =>
  chk (!mE M24 4 i) <|
  bnd (sR M24 16 i 3 (some i)) fun M26 =>
  Option.bind a4 fun i27 =>
  bnd (mI M26 7 i27 3) fun x28 =>
  chk (!mE M26 504 i) <|
  chk (!decide (x28 < 0)) <|
  chk (decide (x28.toNatClampNeg ≤ 4)) <|
  bnd (mA M26 504 i (x28.toNatClampNeg)) fun M32 =>
  chk (!mE M32 4 i) <|
  bnd (sR M32 16 i 4 (some i)) fun M34 =>
  chk (!mE M34 4 i) <|
  bnd (mR M34 16 i 3) fun r36 =>
  Option.bind r36 fun i37 =>
  (fJ7_fill_53178 503 i37 a3 M34).bind fun M39 =>
  chk (!mE M39 4 i) <|
  bnd (mR M39 16 i 4) fun r41 =>
  Option.bind r41 fun i42 =>
  (fJ7_fill_53178 504 i42 a5 M39).bind fun M44 =>
  some M44
set_option maxHeartbeats 4000000 in
set_option maxRecDepth 100000 in
theorem okX4_init {g : tG} {i : Nat} {a1 : Int32} {a2 : Option Nat} {a3 : Int32} {a4 : Option Nat} {a5 : Int32} {M : tM} {Mz : tM} (h : fX4_init i a1 a2 a3 a4 a5 M = some Mz) : TMet g yX4_init (Cond.code yX4_init cX4_init 6 (none) :: tgd) rmX4_init [tr 16 i, ti a1, tq 7 a2, ti a3, tq 7 a4, ti a5] M none Mz 5 668 := by
  have key : TW g iX4_init rmX4_init 5 668 none Mz 0 0 0 [(0, tr 16 i), (1, ti a1), (2, tq 7 a2), (3, ti a3), (4, tq 7 a4), (5, ti a5)] [] M := by
    rw [fX4_init] at h
    refine tm_aload_n dX4_init_0 rfl rfl ?_
    refine tm_objInit woiX4_3.1 woiX4_3.2.1 woiX4_3.2.2 ⟨by decide, by decide⟩ dX4_init_1 ?_
    refine tm_aload_n dX4_init_4 rfl rfl ?_
    refine tm_bipush (v := 60) dX4_init_5 (by decide) ?_
    replace h := chk_some h
    obtain ⟨b1, h⟩ := h
    replace h := bnd_some h
    obtain ⟨M2, eM2, h⟩ := h
    refine tm_newa (k := 505) (i := i) ⟨rfl, rfl⟩ rfl (fun _ _ => rfl) wac_long (nt_of b1) (fun _ => Or.inr (Or.inl rfl)) (by decide) (by decide) (by decide +kernel) ⟨Nat.le_of_ble_eq_true rfl, by decide +kernel⟩ (fun _ _ h => h) dX4_init_7 ?_
    refine tm_nmM eM2 ?_
    refine tm_widen (c2 := 1) (s2 := 60) (Nat.le_refl _) (by decide +kernel) ?_
    replace h := chk_some h
    obtain ⟨b3, h⟩ := h
    replace h := bnd_some h
    obtain ⟨M4, eM4, h⟩ := h
    refine tm_putF (y := iX4_init) (idx := 9) kX4 rfl (j := 5) (by decide) wfX4_9 rfl rfl rfl dX4_init_9 (fun _ => ⟨rfl, rfl⟩) (tPut_R (k2 := 505) (some i) rfl) (hgh := tgh_of (k := 4) rfl b3) ?_
    refine tm_nmM eM4 ?_
    refine tm_aload_n dX4_init_12 rfl rfl ?_
    refine tm_sipush (v := 400) dX4_init_13 (by decide) ?_
    replace h := chk_some h
    obtain ⟨b5, h⟩ := h
    replace h := bnd_some h
    obtain ⟨M6, eM6, h⟩ := h
    refine tm_newa (k := 507) (i := i) ⟨rfl, rfl⟩ rfl (fun _ _ => rfl) wac_long (nt_of b5) (fun _ => Or.inr (Or.inl rfl)) (by decide) (by decide) (by decide +kernel) ⟨Nat.le_of_ble_eq_true rfl, by decide +kernel⟩ (fun _ _ h => h) dX4_init_16 ?_
    refine tm_nmM eM6 ?_
    refine tm_widen (c2 := 2) (s2 := 460) (Nat.le_refl _) (by decide +kernel) ?_
    replace h := chk_some h
    obtain ⟨b7, h⟩ := h
    replace h := bnd_some h
    obtain ⟨M8, eM8, h⟩ := h
    refine tm_putF (y := iX4_init) (idx := 15) kX4 rfl (j := 7) (by decide) wfX4_15 rfl rfl rfl dX4_init_18 (fun _ => ⟨rfl, rfl⟩) (tPut_R (k2 := 507) (some i) rfl) (hgh := tgh_of (k := 4) rfl b7) ?_
    refine tm_nmM eM8 ?_
    refine tm_aload_n dX4_init_21 rfl rfl ?_
    refine tm_sipush (v := 200) dX4_init_22 (by decide) ?_
    replace h := chk_some h
    obtain ⟨b9, h⟩ := h
    replace h := bnd_some h
    obtain ⟨M10, eM10, h⟩ := h
    refine tm_newa (k := 510) (i := i) ⟨rfl, rfl⟩ rfl (fun _ _ => rfl) wac_long (nt_of b9) (fun _ => Or.inr (Or.inl rfl)) (by decide) (by decide) (by decide +kernel) ⟨Nat.le_of_ble_eq_true rfl, by decide +kernel⟩ (fun _ _ h => h) dX4_init_25 ?_
    refine tm_nmM eM10 ?_
    refine tm_widen (c2 := 3) (s2 := 660) (Nat.le_refl _) (by decide +kernel) ?_
    replace h := chk_some h
    obtain ⟨b11, h⟩ := h
    replace h := bnd_some h
    obtain ⟨M12, eM12, h⟩ := h
    refine tm_putF (y := iX4_init) (idx := 18) kX4 rfl (j := 10) (by decide) wfX4_18 rfl rfl rfl dX4_init_27 (fun _ => ⟨rfl, rfl⟩) (tPut_R (k2 := 510) (some i) rfl) (hgh := tgh_of (k := 4) rfl b11) ?_
    refine tm_nmM eM12 ?_
    refine tm_aload_n dX4_init_30 rfl rfl ?_
    refine tm_iload_n dX4_init_31 rfl rfl ?_
    replace h := chk_some h
    obtain ⟨b13, h⟩ := h
    replace h := bnd_some h
    obtain ⟨M14, eM14, h⟩ := h
    refine tm_putF (y := iX4_init) (idx := 21) kX4 rfl (j := 0) (by decide) wfX4_21 rfl rfl rfl dX4_init_32 (fun _ => ⟨rfl, rfl⟩) (tPut_I a1 rfl) (hgh := tgh_of (k := 4) rfl b13) ?_
    refine tm_nmM eM14 ?_
    refine tm_aload_n dX4_init_35 rfl rfl ?_
    refine tm_aload_n dX4_init_36 rfl rfl ?_
    replace h := chk_some h
    obtain ⟨b15, h⟩ := h
    replace h := bnd_some h
    obtain ⟨M16, eM16, h⟩ := h
    refine tm_putF (y := iX4_init) (idx := 25) kX4 rfl (j := 1) (by decide) wfX4_25 rfl rfl rfl dX4_init_37 (fun _ => by cases a2 <;> exact ⟨rfl, rfl⟩) (tPut_R (k2 := 7) a2 rfl) (hgh := tgh_of (k := 4) rfl b15) ?_
    refine tm_nmM eM16 ?_
    refine tm_aload_n dX4_init_40 rfl rfl ?_
    refine tm_aload dX4_init_41 rfl ?_
    replace h := chk_some h
    obtain ⟨b17, h⟩ := h
    replace h := bnd_some h
    obtain ⟨M18, eM18, h⟩ := h
    refine tm_putF (y := iX4_init) (idx := 29) kX4 rfl (j := 2) (by decide) wfX4_29 rfl rfl rfl dX4_init_43 (fun _ => by cases a4 <;> exact ⟨rfl, rfl⟩) (tPut_R (k2 := 7) a4 rfl) (hgh := tgh_of (k := 4) rfl b17) ?_
    refine tm_nmM eM18 ?_
    refine tm_aload_n dX4_init_46 rfl rfl ?_
    refine tm_aload_n dX4_init_47 rfl rfl ?_
    replace h := obind_some h
    obtain ⟨i19, ei19, h⟩ := h
    subst ei19
    refine tm_get kX7 rfl (j := 3) (by decide) wfX4_32 dX4_init_48 (v := ti (mI M18 7 i19 3)) rfl ?_
    replace h := bnd_some h
    obtain ⟨x20, ex20, h⟩ := h
    refine tm_nmI ex20 ?_
    replace h := chk_some h
    obtain ⟨b21, h⟩ := h
    replace h := chk_some h
    obtain ⟨b22, h⟩ := h
    replace h := chk_some h
    obtain ⟨b23, h⟩ := h
    replace h := bnd_some h
    obtain ⟨M24, eM24, h⟩ := h
    refine tm_newa (k := 503) (i := i) ⟨rfl, rfl⟩ rfl (fun _ _ => rfl) wac_int (nt_of b21) (fun _ => Or.inl rfl) (by decide) (by simpa using b22) (Nat.le_trans (Nat.mul_le_mul_right _ (of_decide_eq_true b23)) (by decide)) ⟨Nat.le_of_ble_eq_true rfl, Nat.le_trans (Nat.add_le_add_left (of_decide_eq_true b23) _) (Nat.le_of_ble_eq_true rfl)⟩ (fun _ _ h => h) dX4_init_51 ?_
    refine tm_nmM eM24 ?_
    refine tm_widen (c2 := 4) (s2 := 664) (Nat.le_refl _) (Nat.add_le_add_left (of_decide_eq_true b23) _) ?_
    replace h := chk_some h
    obtain ⟨b25, h⟩ := h
    replace h := bnd_some h
    obtain ⟨M26, eM26, h⟩ := h
    refine tm_putF (y := iX4_init) (idx := 37) kX4 rfl (j := 3) (by decide) wfX4_37 rfl rfl rfl dX4_init_53 (fun _ => ⟨rfl, rfl⟩) (tPut_R (k2 := 503) (some i) rfl) (hgh := tgh_of (k := 4) rfl b25) ?_
    refine tm_nmM eM26 ?_
    refine tm_aload_n dX4_init_56 rfl rfl ?_
    refine tm_aload dX4_init_57 rfl ?_
    replace h := obind_some h
    obtain ⟨i27, ei27, h⟩ := h
    subst ei27
    refine tm_get kX7 rfl (j := 3) (by decide) wfX4_32 dX4_init_59 (v := ti (mI M26 7 i27 3)) rfl ?_
    replace h := bnd_some h
    obtain ⟨x28, ex28, h⟩ := h
    refine tm_nmI ex28 ?_
    replace h := chk_some h
    obtain ⟨b29, h⟩ := h
    replace h := chk_some h
    obtain ⟨b30, h⟩ := h
    replace h := chk_some h
    obtain ⟨b31, h⟩ := h
    replace h := bnd_some h
    obtain ⟨M32, eM32, h⟩ := h
    refine tm_newa (k := 504) (i := i) ⟨rfl, rfl⟩ rfl (fun _ _ => rfl) wac_int (nt_of b29) (fun _ => Or.inl rfl) (by decide) (by simpa using b30) (Nat.le_trans (Nat.mul_le_mul_right _ (of_decide_eq_true b31)) (by decide)) ⟨Nat.le_of_ble_eq_true rfl, Nat.le_trans (Nat.add_le_add_left (of_decide_eq_true b31) _) (Nat.le_of_ble_eq_true rfl)⟩ (fun _ _ h => h) dX4_init_62 ?_
    refine tm_nmM eM32 ?_
    refine tm_widen (c2 := 5) (s2 := 668) (Nat.le_refl _) (Nat.add_le_add_left (of_decide_eq_true b31) _) ?_
    replace h := chk_some h
    obtain ⟨b33, h⟩ := h
    replace h := bnd_some h
    obtain ⟨M34, eM34, h⟩ := h
    refine tm_putF (y := iX4_init) (idx := 41) kX4 rfl (j := 4) (by decide) wfX4_41 rfl rfl rfl dX4_init_64 (fun _ => ⟨rfl, rfl⟩) (tPut_R (k2 := 504) (some i) rfl) (hgh := tgh_of (k := 4) rfl b33) ?_
    refine tm_nmM eM34 ?_
    refine tm_aload_n dX4_init_67 rfl rfl ?_
    replace h := chk_some h
    obtain ⟨b35, h⟩ := h
    refine tm_get kX4 rfl (j := 3) (by decide) wfX4_37 dX4_init_68 (hgh := tgh_of (k := 4) rfl b35) (v := tq 503 (mR M34 16 i 3)) rfl ?_
    replace h := bnd_some h
    obtain ⟨r36, er36, h⟩ := h
    refine tm_nmQ er36 ?_
    refine tm_iload_n dX4_init_71 rfl rfl ?_
    replace h := obind_some h
    obtain ⟨i37, ei37, h⟩ := h
    subst ei37
    replace h := obind_some h
    obtain ⟨M39, hc38, h⟩ := h
    refine tm_callS (avs := [tr 503 i37, ti a3]) (st := []) (okJ7_fill_53178 hc38) wcX4_44.1 wcX4_44.2.1 wcX4_44.2.2 ⟨rfl, rfl, Nat.le_of_ble_eq_true rfl, Nat.le_of_ble_eq_true rfl⟩ rfl (Nat.le_of_ble_eq_true rfl) ⟨Nat.le_of_ble_eq_true rfl, Nat.le_of_ble_eq_true rfl⟩ dX4_init_72 ?_
    refine tm_aload_n dX4_init_75 rfl rfl ?_
    replace h := chk_some h
    obtain ⟨b40, h⟩ := h
    refine tm_get kX4 rfl (j := 4) (by decide) wfX4_41 dX4_init_76 (hgh := tgh_of (k := 4) rfl b40) (v := tq 504 (mR M39 16 i 4)) rfl ?_
    replace h := bnd_some h
    obtain ⟨r41, er41, h⟩ := h
    refine tm_nmQ er41 ?_
    refine tm_iload dX4_init_79 rfl ?_
    replace h := obind_some h
    obtain ⟨i42, ei42, h⟩ := h
    subst ei42
    replace h := obind_some h
    obtain ⟨M44, hc43, h⟩ := h
    refine tm_callS (avs := [tr 504 i42, ti a5]) (st := []) (okJ7_fill_53178 hc43) wcX4_44.1 wcX4_44.2.1 wcX4_44.2.2 ⟨rfl, rfl, Nat.le_of_ble_eq_true rfl, Nat.le_of_ble_eq_true rfl⟩ rfl (Nat.le_of_ble_eq_true rfl) ⟨Nat.le_of_ble_eq_true rfl, Nat.le_of_ble_eq_true rfl⟩ dX4_init_81 ?_
    obtain rfl := Option.some.inj h
    exact tm_vret rfl dX4_init_84
  exact TMet.of (by decide) (Nat.le_of_ble_eq_true rfl) key
theorem woiX5_3 : Cond.methodLink RX5 3 objectInit ∈ tgd ∧ Cond.instanceMethod objectInit ∈ tgd ∧ Cond.code objectInit ⟨#[0xb1]⟩ 1 none ∈ tgd := ⟨(tgd_t 101 (by decide +kernel) (by decide +kernel)), (tgd_t 22 (by decide +kernel) (by decide +kernel)), (tgd_t 23 (by decide +kernel) (by decide +kernel))⟩
abbrev iX5_init : tY := (RX5, cX5_init, 2, none, "<init>")
abbrev rmX5_init : Room := { frames := 1, cells := 5, slots := 76, locals := 20 }
def fX5_init  (M : tM) : Option (tM) :=
  chk (!mE M 601 0) <|
  bnd (mA M 601 0 ((20 : Int32).toNatClampNeg)) fun M2 =>
  chk (!mE M2 5 0) <|
  bnd (sR M2 17 0 1 (some 0)) fun M4 =>
  chk (!mE M4 602 0) <|
  bnd (mA M4 602 0 ((20 : Int32).toNatClampNeg)) fun M6 =>
  chk (!mE M6 5 0) <|
  bnd (sR M6 17 0 2 (some 0)) fun M8 =>
  chk (!mE M8 603 0) <|
  bnd (mA M8 603 0 ((12 : Int32).toNatClampNeg)) fun M10 =>
  chk (!mE M10 5 0) <|
  bnd (sR M10 17 0 3 (some 0)) fun M12 =>
  chk (!mE M12 604 0) <|
  bnd (mA M12 604 0 ((12 : Int32).toNatClampNeg)) fun M14 =>
  chk (!mE M14 5 0) <|
  bnd (sR M14 17 0 4 (some 0)) fun M16 =>
  chk (!mE M16 605 0) <|
  bnd (mA M16 605 0 ((12 : Int32).toNatClampNeg)) fun M18 =>
  chk (!mE M18 5 0) <|
  bnd (sR M18 17 0 5 (some 0)) fun M20 =>
  chk (!mE M20 5 0) <|
  bnd (sR M20 17 0 0 (some 0)) fun M22 =>
  some M22
set_option maxHeartbeats 4000000 in
set_option maxRecDepth 100000 in
theorem okX5_init {g : tG}  {M : tM} {Mz : tM} (h : fX5_init  M = some Mz) : TMet g yX5_init (Cond.code yX5_init cX5_init 2 (none) :: tgd) rmX5_init [tr 17 0, tr 1 0] M none Mz 5 76 := by
  have key : TW g iX5_init rmX5_init 5 76 none Mz 0 0 0 [(0, tr 17 0), (1, tr 1 0)] [] M := by
    rw [fX5_init] at h
    refine tm_aload_n dX5_init_0 rfl rfl ?_
    refine tm_objInit woiX5_3.1 woiX5_3.2.1 woiX5_3.2.2 ⟨by decide, by decide⟩ dX5_init_1 ?_
    refine tm_aload_n dX5_init_4 rfl rfl ?_
    refine tm_bipush (v := 20) dX5_init_5 (by decide) ?_
    replace h := chk_some h
    obtain ⟨b1, h⟩ := h
    replace h := bnd_some h
    obtain ⟨M2, eM2, h⟩ := h
    refine tm_newa (k := 601) (i := 0) ⟨rfl, rfl⟩ rfl (fun _ _ => rfl) wac_int (nt_of b1) (fun _ => Or.inl rfl) (by decide) (by decide) (by decide +kernel) ⟨Nat.le_of_ble_eq_true rfl, by decide +kernel⟩ (fun _ _ h => h) dX5_init_7 ?_
    refine tm_nmM eM2 ?_
    refine tm_widen (c2 := 1) (s2 := 20) (Nat.le_refl _) (by decide +kernel) ?_
    replace h := chk_some h
    obtain ⟨b3, h⟩ := h
    replace h := bnd_some h
    obtain ⟨M4, eM4, h⟩ := h
    refine tm_putF (y := iX5_init) (idx := 9) kX5 rfl (j := 1) (by decide) wfX5_9 rfl rfl rfl dX5_init_9 (fun _ => ⟨rfl, rfl⟩) (tPut_R (k2 := 601) (some 0) rfl) (hgh := tgh_of (k := 5) rfl b3) ?_
    refine tm_nmM eM4 ?_
    refine tm_aload_n dX5_init_12 rfl rfl ?_
    refine tm_bipush (v := 20) dX5_init_13 (by decide) ?_
    replace h := chk_some h
    obtain ⟨b5, h⟩ := h
    replace h := bnd_some h
    obtain ⟨M6, eM6, h⟩ := h
    refine tm_newa (k := 602) (i := 0) ⟨rfl, rfl⟩ rfl (fun _ _ => rfl) wac_int (nt_of b5) (fun _ => Or.inl rfl) (by decide) (by decide) (by decide +kernel) ⟨Nat.le_of_ble_eq_true rfl, by decide +kernel⟩ (fun _ _ h => h) dX5_init_15 ?_
    refine tm_nmM eM6 ?_
    refine tm_widen (c2 := 2) (s2 := 40) (Nat.le_refl _) (by decide +kernel) ?_
    replace h := chk_some h
    obtain ⟨b7, h⟩ := h
    replace h := bnd_some h
    obtain ⟨M8, eM8, h⟩ := h
    refine tm_putF (y := iX5_init) (idx := 15) kX5 rfl (j := 2) (by decide) wfX5_15 rfl rfl rfl dX5_init_17 (fun _ => ⟨rfl, rfl⟩) (tPut_R (k2 := 602) (some 0) rfl) (hgh := tgh_of (k := 5) rfl b7) ?_
    refine tm_nmM eM8 ?_
    refine tm_aload_n dX5_init_20 rfl rfl ?_
    refine tm_bipush (v := 12) dX5_init_21 (by decide) ?_
    replace h := chk_some h
    obtain ⟨b9, h⟩ := h
    replace h := bnd_some h
    obtain ⟨M10, eM10, h⟩ := h
    refine tm_newa (k := 603) (i := 0) ⟨rfl, rfl⟩ rfl (fun _ _ => rfl) wac_int (nt_of b9) (fun _ => Or.inl rfl) (by decide) (by decide) (by decide +kernel) ⟨Nat.le_of_ble_eq_true rfl, by decide +kernel⟩ (fun _ _ h => h) dX5_init_23 ?_
    refine tm_nmM eM10 ?_
    refine tm_widen (c2 := 3) (s2 := 52) (Nat.le_refl _) (by decide +kernel) ?_
    replace h := chk_some h
    obtain ⟨b11, h⟩ := h
    replace h := bnd_some h
    obtain ⟨M12, eM12, h⟩ := h
    refine tm_putF (y := iX5_init) (idx := 18) kX5 rfl (j := 3) (by decide) wfX5_18 rfl rfl rfl dX5_init_25 (fun _ => ⟨rfl, rfl⟩) (tPut_R (k2 := 603) (some 0) rfl) (hgh := tgh_of (k := 5) rfl b11) ?_
    refine tm_nmM eM12 ?_
    refine tm_aload_n dX5_init_28 rfl rfl ?_
    refine tm_bipush (v := 12) dX5_init_29 (by decide) ?_
    replace h := chk_some h
    obtain ⟨b13, h⟩ := h
    replace h := bnd_some h
    obtain ⟨M14, eM14, h⟩ := h
    refine tm_newa (k := 604) (i := 0) ⟨rfl, rfl⟩ rfl (fun _ _ => rfl) wac_int (nt_of b13) (fun _ => Or.inl rfl) (by decide) (by decide) (by decide +kernel) ⟨Nat.le_of_ble_eq_true rfl, by decide +kernel⟩ (fun _ _ h => h) dX5_init_31 ?_
    refine tm_nmM eM14 ?_
    refine tm_widen (c2 := 4) (s2 := 64) (Nat.le_refl _) (by decide +kernel) ?_
    replace h := chk_some h
    obtain ⟨b15, h⟩ := h
    replace h := bnd_some h
    obtain ⟨M16, eM16, h⟩ := h
    refine tm_putF (y := iX5_init) (idx := 21) kX5 rfl (j := 4) (by decide) wfX5_21 rfl rfl rfl dX5_init_33 (fun _ => ⟨rfl, rfl⟩) (tPut_R (k2 := 604) (some 0) rfl) (hgh := tgh_of (k := 5) rfl b15) ?_
    refine tm_nmM eM16 ?_
    refine tm_aload_n dX5_init_36 rfl rfl ?_
    refine tm_bipush (v := 12) dX5_init_37 (by decide) ?_
    replace h := chk_some h
    obtain ⟨b17, h⟩ := h
    replace h := bnd_some h
    obtain ⟨M18, eM18, h⟩ := h
    refine tm_newa (k := 605) (i := 0) ⟨rfl, rfl⟩ rfl (fun _ _ => rfl) wac_int (nt_of b17) (fun _ => Or.inl rfl) (by decide) (by decide) (by decide +kernel) ⟨Nat.le_of_ble_eq_true rfl, by decide +kernel⟩ (fun _ _ h => h) dX5_init_39 ?_
    refine tm_nmM eM18 ?_
    refine tm_widen (c2 := 5) (s2 := 76) (Nat.le_refl _) (by decide +kernel) ?_
    replace h := chk_some h
    obtain ⟨b19, h⟩ := h
    replace h := bnd_some h
    obtain ⟨M20, eM20, h⟩ := h
    refine tm_putF (y := iX5_init) (idx := 24) kX5 rfl (j := 5) (by decide) wfX5_24 rfl rfl rfl dX5_init_41 (fun _ => ⟨rfl, rfl⟩) (tPut_R (k2 := 605) (some 0) rfl) (hgh := tgh_of (k := 5) rfl b19) ?_
    refine tm_nmM eM20 ?_
    refine tm_aload_n dX5_init_44 rfl rfl ?_
    refine tm_aload_n dX5_init_45 rfl rfl ?_
    replace h := chk_some h
    obtain ⟨b21, h⟩ := h
    replace h := bnd_some h
    obtain ⟨M22, eM22, h⟩ := h
    refine tm_putF (y := iX5_init) (idx := 27) kX5 rfl (j := 0) (by decide) wfX5_27 rfl rfl rfl dX5_init_46 (fun _ => ⟨rfl, rfl⟩) (tPut_R (k2 := 1) (some 0) rfl) (hgh := tgh_of (k := 5) rfl b21) ?_
    refine tm_nmM eM22 ?_
    obtain rfl := Option.some.inj h
    exact tm_vret rfl dX5_init_49
  exact TMet.of (by decide) (Nat.le_of_ble_eq_true rfl) key
theorem woiX6_3 : Cond.methodLink RX6 3 objectInit ∈ tgd ∧ Cond.instanceMethod objectInit ∈ tgd ∧ Cond.code objectInit ⟨#[0xb1]⟩ 1 none ∈ tgd := ⟨(tgd_t 235 (by decide +kernel) (by decide +kernel)), (tgd_t 22 (by decide +kernel) (by decide +kernel)), (tgd_t 23 (by decide +kernel) (by decide +kernel))⟩
abbrev iX6_init : tY := (RX6, cX6_init, 2, none, "<init>")
abbrev rmX6_init : Room := { frames := 1, cells := 6, slots := 516, locals := 20 }
def fX6_init  (M : tM) : Option (tM) :=
  chk (!mE M 701 0) <|
  bnd (mA M 701 0 ((12 : Int32).toNatClampNeg)) fun M2 =>
  chk (!mE M2 6 0) <|
  bnd (sR M2 18 0 1 (some 0)) fun M4 =>
  chk (!mE M4 702 0) <|
  bnd (mA M4 702 0 ((12 : Int32).toNatClampNeg)) fun M6 =>
  chk (!mE M6 6 0) <|
  bnd (sR M6 18 0 2 (some 0)) fun M8 =>
  chk (!mE M8 703 0) <|
  bnd (mA M8 703 0 ((144 : Int32).toNatClampNeg)) fun M10 =>
  chk (!mE M10 6 0) <|
  bnd (sR M10 18 0 3 (some 0)) fun M12 =>
  chk (!mE M12 704 0) <|
  bnd (mA M12 704 0 ((144 : Int32).toNatClampNeg)) fun M14 =>
  chk (!mE M14 6 0) <|
  bnd (sR M14 18 0 4 (some 0)) fun M16 =>
  chk (!mE M16 705 0) <|
  bnd (mA M16 705 0 ((144 : Int32).toNatClampNeg)) fun M18 =>
  chk (!mE M18 6 0) <|
  bnd (sR M18 18 0 5 (some 0)) fun M20 =>
  chk (!mE M20 706 0) <|
  bnd (mA M20 706 0 ((60 : Int32).toNatClampNeg)) fun M22 =>
  chk (!mE M22 6 0) <|
  bnd (sR M22 18 0 6 (some 0)) fun M24 =>
  chk (!mE M24 6 0) <|
  bnd (sR M24 18 0 0 (some 0)) fun M26 =>
  some M26
set_option maxHeartbeats 4000000 in
set_option maxRecDepth 100000 in
theorem okX6_init {g : tG}  {M : tM} {Mz : tM} (h : fX6_init  M = some Mz) : TMet g yX6_init (Cond.code yX6_init cX6_init 2 (none) :: tgd) rmX6_init [tr 18 0, tr 1 0] M none Mz 6 516 := by
  have key : TW g iX6_init rmX6_init 6 516 none Mz 0 0 0 [(0, tr 18 0), (1, tr 1 0)] [] M := by
    rw [fX6_init] at h
    refine tm_aload_n dX6_init_0 rfl rfl ?_
    refine tm_objInit woiX6_3.1 woiX6_3.2.1 woiX6_3.2.2 ⟨by decide, by decide⟩ dX6_init_1 ?_
    refine tm_aload_n dX6_init_4 rfl rfl ?_
    refine tm_bipush (v := 12) dX6_init_5 (by decide) ?_
    replace h := chk_some h
    obtain ⟨b1, h⟩ := h
    replace h := bnd_some h
    obtain ⟨M2, eM2, h⟩ := h
    refine tm_newa (k := 701) (i := 0) ⟨rfl, rfl⟩ rfl (fun _ _ => rfl) wac_int (nt_of b1) (fun _ => Or.inl rfl) (by decide) (by decide) (by decide +kernel) ⟨Nat.le_of_ble_eq_true rfl, by decide +kernel⟩ (fun _ _ h => h) dX6_init_7 ?_
    refine tm_nmM eM2 ?_
    refine tm_widen (c2 := 1) (s2 := 12) (Nat.le_refl _) (by decide +kernel) ?_
    replace h := chk_some h
    obtain ⟨b3, h⟩ := h
    replace h := bnd_some h
    obtain ⟨M4, eM4, h⟩ := h
    refine tm_putF (y := iX6_init) (idx := 9) kX6 rfl (j := 1) (by decide) wfX6_9 rfl rfl rfl dX6_init_9 (fun _ => ⟨rfl, rfl⟩) (tPut_R (k2 := 701) (some 0) rfl) (hgh := tgh_of (k := 6) rfl b3) ?_
    refine tm_nmM eM4 ?_
    refine tm_aload_n dX6_init_12 rfl rfl ?_
    refine tm_bipush (v := 12) dX6_init_13 (by decide) ?_
    replace h := chk_some h
    obtain ⟨b5, h⟩ := h
    replace h := bnd_some h
    obtain ⟨M6, eM6, h⟩ := h
    refine tm_newa (k := 702) (i := 0) ⟨rfl, rfl⟩ rfl (fun _ _ => rfl) wac_int (nt_of b5) (fun _ => Or.inl rfl) (by decide) (by decide) (by decide +kernel) ⟨Nat.le_of_ble_eq_true rfl, by decide +kernel⟩ (fun _ _ h => h) dX6_init_15 ?_
    refine tm_nmM eM6 ?_
    refine tm_widen (c2 := 2) (s2 := 24) (Nat.le_refl _) (by decide +kernel) ?_
    replace h := chk_some h
    obtain ⟨b7, h⟩ := h
    replace h := bnd_some h
    obtain ⟨M8, eM8, h⟩ := h
    refine tm_putF (y := iX6_init) (idx := 15) kX6 rfl (j := 2) (by decide) wfX6_15 rfl rfl rfl dX6_init_17 (fun _ => ⟨rfl, rfl⟩) (tPut_R (k2 := 702) (some 0) rfl) (hgh := tgh_of (k := 6) rfl b7) ?_
    refine tm_nmM eM8 ?_
    refine tm_aload_n dX6_init_20 rfl rfl ?_
    refine tm_sipush (v := 144) dX6_init_21 (by decide) ?_
    replace h := chk_some h
    obtain ⟨b9, h⟩ := h
    replace h := bnd_some h
    obtain ⟨M10, eM10, h⟩ := h
    refine tm_newa (k := 703) (i := 0) ⟨rfl, rfl⟩ rfl (fun _ _ => rfl) wac_int (nt_of b9) (fun _ => Or.inl rfl) (by decide) (by decide) (by decide +kernel) ⟨Nat.le_of_ble_eq_true rfl, by decide +kernel⟩ (fun _ _ h => h) dX6_init_24 ?_
    refine tm_nmM eM10 ?_
    refine tm_widen (c2 := 3) (s2 := 168) (Nat.le_refl _) (by decide +kernel) ?_
    replace h := chk_some h
    obtain ⟨b11, h⟩ := h
    replace h := bnd_some h
    obtain ⟨M12, eM12, h⟩ := h
    refine tm_putF (y := iX6_init) (idx := 18) kX6 rfl (j := 3) (by decide) wfX6_18 rfl rfl rfl dX6_init_26 (fun _ => ⟨rfl, rfl⟩) (tPut_R (k2 := 703) (some 0) rfl) (hgh := tgh_of (k := 6) rfl b11) ?_
    refine tm_nmM eM12 ?_
    refine tm_aload_n dX6_init_29 rfl rfl ?_
    refine tm_sipush (v := 144) dX6_init_30 (by decide) ?_
    replace h := chk_some h
    obtain ⟨b13, h⟩ := h
    replace h := bnd_some h
    obtain ⟨M14, eM14, h⟩ := h
    refine tm_newa (k := 704) (i := 0) ⟨rfl, rfl⟩ rfl (fun _ _ => rfl) wac_int (nt_of b13) (fun _ => Or.inl rfl) (by decide) (by decide) (by decide +kernel) ⟨Nat.le_of_ble_eq_true rfl, by decide +kernel⟩ (fun _ _ h => h) dX6_init_33 ?_
    refine tm_nmM eM14 ?_
    refine tm_widen (c2 := 4) (s2 := 312) (Nat.le_refl _) (by decide +kernel) ?_
    replace h := chk_some h
    obtain ⟨b15, h⟩ := h
    replace h := bnd_some h
    obtain ⟨M16, eM16, h⟩ := h
    refine tm_putF (y := iX6_init) (idx := 21) kX6 rfl (j := 4) (by decide) wfX6_21 rfl rfl rfl dX6_init_35 (fun _ => ⟨rfl, rfl⟩) (tPut_R (k2 := 704) (some 0) rfl) (hgh := tgh_of (k := 6) rfl b15) ?_
    refine tm_nmM eM16 ?_
    refine tm_aload_n dX6_init_38 rfl rfl ?_
    refine tm_sipush (v := 144) dX6_init_39 (by decide) ?_
    replace h := chk_some h
    obtain ⟨b17, h⟩ := h
    replace h := bnd_some h
    obtain ⟨M18, eM18, h⟩ := h
    refine tm_newa (k := 705) (i := 0) ⟨rfl, rfl⟩ rfl (fun _ _ => rfl) wac_int (nt_of b17) (fun _ => Or.inl rfl) (by decide) (by decide) (by decide +kernel) ⟨Nat.le_of_ble_eq_true rfl, by decide +kernel⟩ (fun _ _ h => h) dX6_init_42 ?_
    refine tm_nmM eM18 ?_
    refine tm_widen (c2 := 5) (s2 := 456) (Nat.le_refl _) (by decide +kernel) ?_
    replace h := chk_some h
    obtain ⟨b19, h⟩ := h
    replace h := bnd_some h
    obtain ⟨M20, eM20, h⟩ := h
    refine tm_putF (y := iX6_init) (idx := 24) kX6 rfl (j := 5) (by decide) wfX6_24 rfl rfl rfl dX6_init_44 (fun _ => ⟨rfl, rfl⟩) (tPut_R (k2 := 705) (some 0) rfl) (hgh := tgh_of (k := 6) rfl b19) ?_
    refine tm_nmM eM20 ?_
    refine tm_aload_n dX6_init_47 rfl rfl ?_
    refine tm_bipush (v := 60) dX6_init_48 (by decide) ?_
    replace h := chk_some h
    obtain ⟨b21, h⟩ := h
    replace h := bnd_some h
    obtain ⟨M22, eM22, h⟩ := h
    refine tm_newa (k := 706) (i := 0) ⟨rfl, rfl⟩ rfl (fun _ _ => rfl) wac_int (nt_of b21) (fun _ => Or.inl rfl) (by decide) (by decide) (by decide +kernel) ⟨Nat.le_of_ble_eq_true rfl, by decide +kernel⟩ (fun _ _ h => h) dX6_init_50 ?_
    refine tm_nmM eM22 ?_
    refine tm_widen (c2 := 6) (s2 := 516) (Nat.le_refl _) (by decide +kernel) ?_
    replace h := chk_some h
    obtain ⟨b23, h⟩ := h
    replace h := bnd_some h
    obtain ⟨M24, eM24, h⟩ := h
    refine tm_putF (y := iX6_init) (idx := 27) kX6 rfl (j := 6) (by decide) wfX6_27 rfl rfl rfl dX6_init_52 (fun _ => ⟨rfl, rfl⟩) (tPut_R (k2 := 706) (some 0) rfl) (hgh := tgh_of (k := 6) rfl b23) ?_
    refine tm_nmM eM24 ?_
    refine tm_aload_n dX6_init_55 rfl rfl ?_
    refine tm_aload_n dX6_init_56 rfl rfl ?_
    replace h := chk_some h
    obtain ⟨b25, h⟩ := h
    replace h := bnd_some h
    obtain ⟨M26, eM26, h⟩ := h
    refine tm_putF (y := iX6_init) (idx := 30) kX6 rfl (j := 0) (by decide) wfX6_30 rfl rfl rfl dX6_init_57 (fun _ => ⟨rfl, rfl⟩) (tPut_R (k2 := 1) (some 0) rfl) (hgh := tgh_of (k := 6) rfl b25) ?_
    refine tm_nmM eM26 ?_
    obtain rfl := Option.some.inj h
    exact tm_vret rfl dX6_init_60
  exact TMet.of (by decide) (Nat.le_of_ble_eq_true rfl) key
theorem wcX7_25 : tCB RX7 25 yJ9_max_7cf53 cJ9_max_7cf53 2 (some .int) 2 ∧ Cond.methodLink RX7 25 yJ9_max_7cf53 ∈ tgd ∧ Cond.static yJ9_max_7cf53 ∈ tgd := ⟨⟨(tgd_t 399 (by decide +kernel) (by decide +kernel)), (tgd_t 12 (by decide +kernel) (by decide +kernel)), by decide, by decide +kernel⟩, (tgd_t 397 (by decide +kernel) (by decide +kernel)), (tgd_t 398 (by decide +kernel) (by decide +kernel))⟩
theorem wfX7_15 : Cond.fieldLink RX7 15 "EvenFlow$Part" "number" "I" ∈ tgd := (tgd_t 400 (by decide +kernel) (by decide +kernel))
theorem wfX7_21 : Cond.fieldLink RX7 21 "EvenFlow$Part" "k" "J" ∈ tgd := (tgd_t 414 (by decide +kernel) (by decide +kernel))
theorem woiX7_3 : Cond.methodLink RX7 3 objectInit ∈ tgd ∧ Cond.instanceMethod objectInit ∈ tgd ∧ Cond.code objectInit ⟨#[0xb1]⟩ 1 none ∈ tgd := ⟨(tgd_t 396 (by decide +kernel) (by decide +kernel)), (tgd_t 22 (by decide +kernel) (by decide +kernel)), (tgd_t 23 (by decide +kernel) (by decide +kernel))⟩
abbrev iX7_init : tY := (RX7, cX7_init, 6, none, "<init>")
abbrev rmX7_init : Room := { frames := 1, cells := 2, slots := 24, locals := 21 }
def fX7_init (i : Nat) (a1 : Int32) (a2 : Int32) (a3 : Int64) (a4 : Int32) (M : tM) : Option (tM) :=
  chk (!mE M 7 i) <|
  bnd (sI M 19 i 4 1) fun M2 =>
  chk (!mE M2 7 i) <|
  bnd (sI M2 19 i 0 a1) fun M4 =>
  chk (!mE M4 7 i) <|
  bnd (sI M4 19 i 1 a2) fun M6 =>
  chk (!mE M6 7 i) <|
  bnd (sL M6 19 i 2 a3) fun M8 =>
  Option.bind (α := Int32) (
  if a2 = 4 then (
  (fJ9_max_7cf53 a4 1 M8).bind fun x10 =>
  some x10
  ) else (
  some 1
  )
  ) fun x10 =>
  chk (!mE M8 7 i) <|
  bnd (sI M8 19 i 3 x10) fun M14 =>
  if a2 = 5 then (
  (fJ9_max_7cf53 a4 0 M14).bind fun x16 =>
  chk (!mE M14 809 i) <|
  chk (!decide (x16 < 0)) <|
  chk (decide (x16.toNatClampNeg ≤ 12)) <|
  bnd (mA M14 809 i (x16.toNatClampNeg)) fun M21 =>
  chk (!mE M21 7 i) <|
  bnd (sR M21 19 i 9 (some i)) fun M23 =>
  (fJ9_max_7cf53 a4 0 M23).bind fun x24 =>
  chk (!mE M23 810 i) <|
  chk (!decide (x24 < 0)) <|
  chk (decide (x24.toNatClampNeg ≤ 12)) <|
  bnd (mA M23 810 i (x24.toNatClampNeg)) fun M29 =>
  chk (!mE M29 7 i) <|
  bnd (sR M29 19 i 10 (some i)) fun M31 =>
  some M31
  ) else (
  some M14
  )
set_option maxHeartbeats 4000000 in
set_option maxRecDepth 100000 in
theorem okX7_init {g : tG} {i : Nat} {a1 : Int32} {a2 : Int32} {a3 : Int64} {a4 : Int32} {M : tM} {Mz : tM} (h : fX7_init i a1 a2 a3 a4 M = some Mz) : TMet g yX7_init (Cond.code yX7_init cX7_init 6 (none) :: tgd) rmX7_init [tr 19 i, ti a1, ti a2, tl a3, ti a4] M none Mz 2 24 := by
  have key : TW g iX7_init rmX7_init 2 24 none Mz 0 0 0 [(0, tr 19 i), (1, ti a1), (2, ti a2), (3, tl a3), (5, ti a4)] [] M := by
    rw [fX7_init] at h
    refine tm_aload_n dX7_init_0 rfl rfl ?_
    refine tm_objInit woiX7_3.1 woiX7_3.2.1 woiX7_3.2.2 ⟨by decide, by decide⟩ dX7_init_1 ?_
    refine tm_aload_n dX7_init_4 rfl rfl ?_
    refine tm_iconst (v := 1) dX7_init_5 (by decide) ?_
    replace h := chk_some h
    obtain ⟨b1, h⟩ := h
    replace h := bnd_some h
    obtain ⟨M2, eM2, h⟩ := h
    refine tm_put kX7 rfl (j := 4) (by decide) wfX7_9 rfl dX7_init_6 (fun _ => ⟨rfl, rfl⟩) (tPut_I 1 rfl) (hgh := tgh_of (k := 7) rfl b1) ?_
    refine tm_nmM eM2 ?_
    refine tm_aload_n dX7_init_9 rfl rfl ?_
    refine tm_iload_n dX7_init_10 rfl rfl ?_
    replace h := chk_some h
    obtain ⟨b3, h⟩ := h
    replace h := bnd_some h
    obtain ⟨M4, eM4, h⟩ := h
    refine tm_putF (y := iX7_init) (idx := 15) kX7 rfl (j := 0) (by decide) wfX7_15 rfl rfl rfl dX7_init_11 (fun _ => ⟨rfl, rfl⟩) (tPut_I a1 rfl) (hgh := tgh_of (k := 7) rfl b3) ?_
    refine tm_nmM eM4 ?_
    refine tm_aload_n dX7_init_14 rfl rfl ?_
    refine tm_iload_n dX7_init_15 rfl rfl ?_
    replace h := chk_some h
    obtain ⟨b5, h⟩ := h
    replace h := bnd_some h
    obtain ⟨M6, eM6, h⟩ := h
    refine tm_putF (y := iX7_init) (idx := 18) kX7 rfl (j := 1) (by decide) wfX7_18 rfl rfl rfl dX7_init_16 (fun _ => ⟨rfl, rfl⟩) (tPut_I a2 rfl) (hgh := tgh_of (k := 7) rfl b5) ?_
    refine tm_nmM eM6 ?_
    refine tm_aload_n dX7_init_19 rfl rfl ?_
    refine tm_lload_n dX7_init_20 rfl rfl ?_
    replace h := chk_some h
    obtain ⟨b7, h⟩ := h
    replace h := bnd_some h
    obtain ⟨M8, eM8, h⟩ := h
    refine tm_putF (y := iX7_init) (idx := 21) kX7 rfl (j := 2) (by decide) wfX7_21 rfl rfl rfl dX7_init_21 (fun _ => ⟨rfl, rfl⟩) (tPut_L a3 rfl) (hgh := tgh_of (k := 7) rfl b7) ?_
    refine tm_nmM eM8 ?_
    refine tm_aload_n dX7_init_24 rfl rfl ?_
    refine tm_iload_n dX7_init_25 rfl rfl ?_
    refine tm_iconst (v := 4) dX7_init_26 (by decide) ?_
    replace h := obind_some h
    obtain ⟨x10, hE11, h⟩ := h
    have J12 : TW g iX7_init rmX7_init 2 24 none Mz 0 0 40 [(0, tr 19 i), (2, ti a2), (5, ti a4)] [ti x10, tr 19 i] M8 := by
      replace h := chk_some h
      obtain ⟨b13, h⟩ := h
      replace h := bnd_some h
      obtain ⟨M14, eM14, h⟩ := h
      refine tm_putF (y := iX7_init) (idx := 31) kX7 rfl (j := 3) (by decide) wfX7_31 rfl rfl rfl dX7_init_40 (fun _ => ⟨rfl, rfl⟩) (tPut_I x10 rfl) (hgh := tgh_of (k := 7) rfl b13) ?_
      refine tm_nmM eM14 ?_
      refine tm_iload_n dX7_init_43 rfl rfl ?_
      refine tm_iconst (v := 5) dX7_init_44 (by decide) ?_
      refine tm_icmp_ne (tgt := 72) dX7_init_45 (by decide) (fun c15 => ?_) (fun c15 => ?_)
      · rw [if_neg c15] at h
        obtain rfl := Option.some.inj h
        refine tm_widen (c2 := 2) (s2 := 24) (Nat.le_of_ble_eq_true rfl) (Nat.le_of_ble_eq_true rfl) ?_
        exact tm_vret rfl dX7_init_72
      · rw [if_pos c15] at h
        refine tm_aload_n dX7_init_48 rfl rfl ?_
        refine tm_iload dX7_init_49 rfl ?_
        refine tm_iconst (v := 0) dX7_init_51 (by decide) ?_
        replace h := obind_some h
        obtain ⟨x16, hc17, h⟩ := h
        refine tm_callS (avs := [ti a4, ti 0]) (st := [tr 19 i]) (okJ9_max_7cf53 hc17) wcX7_25.1 wcX7_25.2.1 wcX7_25.2.2 ⟨rfl, rfl, Nat.le_of_ble_eq_true rfl, Nat.le_of_ble_eq_true rfl⟩ rfl (Nat.le_of_ble_eq_true rfl) ⟨Nat.le_of_ble_eq_true rfl, Nat.le_of_ble_eq_true rfl⟩ dX7_init_52 ?_
        replace h := chk_some h
        obtain ⟨b18, h⟩ := h
        replace h := chk_some h
        obtain ⟨b19, h⟩ := h
        replace h := chk_some h
        obtain ⟨b20, h⟩ := h
        replace h := bnd_some h
        obtain ⟨M21, eM21, h⟩ := h
        refine tm_newa (k := 809) (i := i) ⟨rfl, rfl⟩ rfl (fun _ _ => rfl) wac_long (nt_of b18) (fun _ => Or.inr (Or.inl rfl)) (by decide) (by simpa using b19) (Nat.le_trans (Nat.mul_le_mul_right _ (of_decide_eq_true b20)) (by decide)) ⟨Nat.le_of_ble_eq_true rfl, Nat.le_trans (Nat.add_le_add_left (of_decide_eq_true b20) _) (Nat.le_of_ble_eq_true rfl)⟩ (fun _ _ h => h) dX7_init_55 ?_
        refine tm_nmM eM21 ?_
        refine tm_widen (c2 := 1) (s2 := 12) (Nat.le_refl _) (Nat.add_le_add_left (of_decide_eq_true b20) _) ?_
        replace h := chk_some h
        obtain ⟨b22, h⟩ := h
        replace h := bnd_some h
        obtain ⟨M23, eM23, h⟩ := h
        refine tm_put kX7 rfl (j := 9) (by decide) wfX7_34 rfl dX7_init_57 (fun _ => ⟨rfl, rfl⟩) (tPut_R (k2 := 809) (some i) rfl) (hgh := tgh_of (k := 7) rfl b22) ?_
        refine tm_nmM eM23 ?_
        refine tm_aload_n dX7_init_60 rfl rfl ?_
        refine tm_iload dX7_init_61 rfl ?_
        refine tm_iconst (v := 0) dX7_init_63 (by decide) ?_
        replace h := obind_some h
        obtain ⟨x24, hc25, h⟩ := h
        refine tm_callS (avs := [ti a4, ti 0]) (st := [tr 19 i]) (okJ9_max_7cf53 hc25) wcX7_25.1 wcX7_25.2.1 wcX7_25.2.2 ⟨rfl, rfl, Nat.le_of_ble_eq_true rfl, Nat.le_of_ble_eq_true rfl⟩ rfl (Nat.le_of_ble_eq_true rfl) ⟨Nat.le_of_ble_eq_true rfl, Nat.le_of_ble_eq_true rfl⟩ dX7_init_64 ?_
        replace h := chk_some h
        obtain ⟨b26, h⟩ := h
        replace h := chk_some h
        obtain ⟨b27, h⟩ := h
        replace h := chk_some h
        obtain ⟨b28, h⟩ := h
        replace h := bnd_some h
        obtain ⟨M29, eM29, h⟩ := h
        refine tm_newa (k := 810) (i := i) ⟨rfl, rfl⟩ rfl (fun _ _ => rfl) wac_long (nt_of b26) (fun _ => Or.inr (Or.inl rfl)) (by decide) (by simpa using b27) (Nat.le_trans (Nat.mul_le_mul_right _ (of_decide_eq_true b28)) (by decide)) ⟨Nat.le_of_ble_eq_true rfl, Nat.le_trans (Nat.add_le_add_left (of_decide_eq_true b28) _) (Nat.le_of_ble_eq_true rfl)⟩ (fun _ _ h => h) dX7_init_67 ?_
        refine tm_nmM eM29 ?_
        refine tm_widen (c2 := 2) (s2 := 24) (Nat.le_refl _) (Nat.add_le_add_left (of_decide_eq_true b28) _) ?_
        replace h := chk_some h
        obtain ⟨b30, h⟩ := h
        replace h := bnd_some h
        obtain ⟨M31, eM31, h⟩ := h
        refine tm_put kX7 rfl (j := 10) (by decide) wfX7_38 rfl dX7_init_69 (fun _ => ⟨rfl, rfl⟩) (tPut_R (k2 := 810) (some i) rfl) (hgh := tgh_of (k := 7) rfl b30) ?_
        refine tm_nmM eM31 ?_
        obtain rfl := Option.some.inj h
        exact tm_vret rfl dX7_init_72
    refine tm_icmp_ne (tgt := 39) dX7_init_27 (by decide) (fun c9 => ?_) (fun c9 => ?_)
    · rw [if_neg c9] at hE11
      refine tm_iconst (v := 1) dX7_init_39 (by decide) ?_
      obtain rfl := Option.some.inj hE11
      refine tm_lcp [0, 2, 5] rfl ?_
      exact J12
    · rw [if_pos c9] at hE11
      refine tm_iload dX7_init_30 rfl ?_
      refine tm_iconst (v := 1) dX7_init_32 (by decide) ?_
      replace hE11 := obind_some hE11
      obtain ⟨x10, hc11, hE11⟩ := hE11
      refine tm_callS (avs := [ti a4, ti 1]) (st := [tr 19 i]) (okJ9_max_7cf53 hc11) wcX7_25.1 wcX7_25.2.1 wcX7_25.2.2 ⟨rfl, rfl, Nat.le_of_ble_eq_true rfl, Nat.le_of_ble_eq_true rfl⟩ rfl (Nat.le_of_ble_eq_true rfl) ⟨Nat.le_of_ble_eq_true rfl, Nat.le_of_ble_eq_true rfl⟩ dX7_init_33 ?_
      refine tm_goto (tgt := 40) dX7_init_36 (by decide) ?_
      obtain rfl := Option.some.inj hE11
      refine tm_lcp [0, 2, 5] rfl ?_
      exact J12
  exact TMet.of (by decide) (Nat.le_of_ble_eq_true rfl) key
