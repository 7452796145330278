theorem wcX2_71 : tCB RX2 71 yX2_leastLeft cX2_leastLeft 2 (some (.object "EvenFlow$Part")) 0 ∧ Cond.methodLink RX2 71 yX2_leastLeft ∈ tgd ∧ Cond.instanceMethod yX2_leastLeft ∈ tgd ∧ Cond.selects RX2 yX2_leastLeft yX2_leastLeft ∈ tgd := ⟨⟨(tgd_t 812 (by decide +kernel) (by decide +kernel)), (tgd_t 5 (by decide +kernel) (by decide +kernel)), by decide, by decide +kernel⟩, (tgd_t 809 (by decide +kernel) (by decide +kernel)), (tgd_t 811 (by decide +kernel) (by decide +kernel)), (tgd_p 14 (by decide +kernel) (by decide +kernel))⟩
theorem wcX2_87 : tCB RX2 87 yX4_takesIn cX4_takesIn 2 (some .int) 1 ∧ Cond.methodLink RX2 87 yX4_takesIn ∈ tgd ∧ Cond.instanceMethod yX4_takesIn ∈ tgd ∧ Cond.selects RX4 yX4_takesIn yX4_takesIn ∈ tgd := ⟨⟨(tgd_t 697 (by decide +kernel) (by decide +kernel)), (tgd_t 15 (by decide +kernel) (by decide +kernel)), by decide, by decide +kernel⟩, (tgd_t 813 (by decide +kernel) (by decide +kernel)), (tgd_t 695 (by decide +kernel) (by decide +kernel)), (tgd_t 696 (by decide +kernel) (by decide +kernel))⟩
theorem wcX2_94 : tCB RX2 94 yJ9_max_7cf53 cJ9_max_7cf53 2 (some .int) 2 ∧ Cond.methodLink RX2 94 yJ9_max_7cf53 ∈ tgd ∧ Cond.static yJ9_max_7cf53 ∈ tgd := ⟨⟨(tgd_t 399 (by decide +kernel) (by decide +kernel)), (tgd_t 12 (by decide +kernel) (by decide +kernel)), by decide, by decide +kernel⟩, (tgd_t 814 (by decide +kernel) (by decide +kernel)), (tgd_t 398 (by decide +kernel) (by decide +kernel))⟩
theorem wfX2_75 : Cond.fieldLink RX2 75 "EvenFlow$Marking" "phases" "[I" ∈ tgd := (tgd_t 111 (by decide +kernel) (by decide +kernel))
theorem wfX2_78 : Cond.fieldLink RX2 78 "EvenFlow$Part" "number" "I" ∈ tgd := (tgd_t 405 (by decide +kernel) (by decide +kernel))
theorem wfX2_83 : Cond.fieldLink RX2 83 "EvenFlow$Part" "firstIn" "LEvenFlow$Line;" ∈ tgd := (tgd_t 443 (by decide +kernel) (by decide +kernel))
theorem wfX2_93 : Cond.fieldLink RX2 93 "EvenFlow$Line" "number" "I" ∈ tgd := (tgd_t 557 (by decide +kernel) (by decide +kernel))
theorem wfX2_100 : Cond.fieldLink RX2 100 "EvenFlow$Line" "nextIn" "LEvenFlow$Line;" ∈ tgd := (tgd_t 598 (by decide +kernel) (by decide +kernel))
abbrev iX2_fill : tY := (RX2, cX2_fill, 6, none, "fill")
abbrev rmX2_fill : Room := { frames := 3, cells := 0, slots := 0, locals := 70 }
def fX2_fill_l62 (z1 : Int32) (z3 : Int32) : Nat → (Option Nat) → tM → Option (tM)
  | 0, _, _ => none
  | n + 1, y4, M =>
    if y4 = none then (
    some M
    ) else (
    Option.bind y4 fun i15 =>
    (fX4_takesIn i15 z3 M).bind fun x16 =>
    chk (inb (mI M 4 i15 0) (mN M 601 0)) <|
    (fJ9_max_7cf53 0 (x16 - (mI M 601 0 ((mI M 4 i15 0).toNatClampNeg))) M).bind fun x19 =>
    bnd (mI M 4 i15 0) fun x21 =>
    chk (inb x21 (mN M 302 0)) <|
    chk (inb x21 (mN M 302 0)) <|
    bnd (sI M 302 0 (x21.toNatClampNeg) ((mI M 302 0 (x21.toNatClampNeg)) + x19)) fun M24 =>
    bnd (mI M24 4 i15 0) fun x25 =>
    chk (inb x25 (mN M24 601 0)) <|
    chk (inb x25 (mN M24 601 0)) <|
    bnd (sI M24 601 0 (x25.toNatClampNeg) ((mI M24 601 0 (x25.toNatClampNeg)) + x19)) fun M28 =>
    bnd (mR M28 4 i15 12) fun r29 =>
    fX2_fill_l62 z1 z3 n r29 M28
    )
def fX2_fill_l16  : Nat → Int32 → tM → Option ((tM) ⊕ (tM))
  | 0, _, _ => none
  | n + 1, y1, M =>
    if 2000 < y1 then (
    some (Sum.inr M)
    ) else (
    if (mI M 5 0 6) ≤ 0 then (
    some (Sum.inr M)
    ) else (
    (fX2_leastLeft M).bind fun r7 =>
    if r7 = none then (
    some (Sum.inl M)
    ) else (
    Option.bind r7 fun i10 =>
    chk (inb (mI M 7 i10 0) (mN M 604 0)) <|
    bnd (mI M 604 0 ((mI M 7 i10 0).toNatClampNeg)) fun x12 =>
    bnd (mR M 7 i10 11) fun r13 =>
    Option.bind (fX2_fill_l62 y1 x12 FU r13 M) fun M32 =>
    (fX5_exhaust M32).bind fun M34 =>
    bnd (y1 + 1) fun x35 =>
    fX2_fill_l16 n x35 M34
    )
    )
    )
def fX2_fill  (M : tM) : Option (tM) :=
  (fX5_begin M).bind fun M2 =>
  (fX5_exhaust M2).bind fun M4 =>
  Option.bind (fX2_fill_l16 FU 0 M4) fun w36 => match w36 with
  | Sum.inl q39 => some q39
  | Sum.inr M38 =>
    some M38
set_option maxHeartbeats 4000000 in
set_option maxRecDepth 100000 in
theorem okX2_fill_l62 {g : tG} (z1 : Int32) (z3 : Int32) {r : Option tV} {Mz : tM} : ∀ (n : Nat) (y4 : Option Nat) (M : tM) (w : tM), fX2_fill_l62 z1 z3 n y4 M = some w → (∀ (Mw : tM), Mw = w → TW g iX2_fill rmX2_fill 0 0 r Mz 0 0 136 [(0, tr 2 0), (1, ti z1)] [] Mw) → TW g iX2_fill rmX2_fill 0 0 r Mz 0 0 62 [(0, tr 2 0), (1, ti z1), (3, ti z3), (4, tq 4 y4)] [] M := by
  intro n
  induction n with
  | zero => intro y4 M w h; cases h
  | succ n ih =>
    intro y4 M w h J
    rw [fX2_fill_l62] at h
    refine tm_aload dX2_fill_62 rfl ?_
    refine tm_ifnull (k2 := 4) (q := y4) (tgt := 136) dX2_fill_64 (by decide) (fun c14 => ?_) (fun c14 => ?_)
    · rw [if_pos c14] at h
      obtain rfl := Option.some.inj h
      refine tm_lcp [0, 1] rfl ?_
      exact J _ rfl
    · rw [if_neg c14] at h
      refine tm_iconst (v := 0) dX2_fill_67 (by decide) ?_
      refine tm_aload dX2_fill_68 rfl ?_
      refine tm_iload_n dX2_fill_70 rfl rfl ?_
      replace h := obind_some h
      obtain ⟨i15, ei15, h⟩ := h
      subst ei15
      replace h := obind_some h
      obtain ⟨x16, hc17, h⟩ := h
      refine tm_callV kX4 rfl (avs := [ti z3]) (st := [ti 0]) (okX4_takesIn hc17) wcX2_87.1 wcX2_87.2.1 wcX2_87.2.2.1 wcX2_87.2.2.2 ⟨rfl, rfl, Nat.le_of_ble_eq_true rfl, Nat.le_of_ble_eq_true rfl⟩ rfl (Nat.le_of_ble_eq_true rfl) ⟨Nat.zero_le _, Nat.zero_le _⟩ dX2_fill_71 ?_
      refine tm_aload_n dX2_fill_74 rfl rfl ?_
      refine tm_get kX2 rfl (j := 1) (by decide) wfX2_19 dX2_fill_75 (v := tr 5 0) rfl ?_
      refine tm_get kX5 rfl (j := 1) (by decide) wfX2_62 dX2_fill_78 (v := tr 601 0) rfl ?_
      refine tm_aload dX2_fill_81 rfl ?_
      refine tm_get kX4 rfl (j := 0) (by decide) wfX2_93 dX2_fill_83 (v := ti (mI M 4 i15 0)) rfl ?_
      replace h := chk_some h
      obtain ⟨b18, h⟩ := h
      refine tm_iald rfl dX2_fill_86 (inb_vp b18) ?_
      refine tm_isub dX2_fill_87 ?_
      replace h := obind_some h
      obtain ⟨x19, hc20, h⟩ := h
      refine tm_callS (avs := [ti 0, ti (x16 - (mI M 601 0 ((mI M 4 i15 0).toNatClampNeg)))]) (st := []) (okJ9_max_7cf53 hc20) wcX2_94.1 wcX2_94.2.1 wcX2_94.2.2 ⟨rfl, rfl, Nat.le_of_ble_eq_true rfl, Nat.le_of_ble_eq_true rfl⟩ rfl (Nat.le_of_ble_eq_true rfl) ⟨Nat.zero_le _, Nat.zero_le _⟩ dX2_fill_88 ?_
      refine tm_istore (lc' := [(5, ti x19), (0, tr 2 0), (1, ti z1), (3, ti z3), (4, tr 4 i15)]) dX2_fill_91 (by decide) rfl ?_
      refine tm_aload_n dX2_fill_93 rfl rfl ?_
      refine tm_get kX2 rfl (j := 2) (by decide) wfX2_9 dX2_fill_94 (v := tr 302 0) rfl ?_
      refine tm_aload dX2_fill_97 rfl ?_
      refine tm_get kX4 rfl (j := 0) (by decide) wfX2_93 dX2_fill_99 (v := ti (mI M 4 i15 0)) rfl ?_
      replace h := bnd_some h
      obtain ⟨x21, ex21, h⟩ := h
      refine tm_nmI ex21 ?_
      refine tm_dup2 dX2_fill_102 rfl rfl ?_
      replace h := chk_some h
      obtain ⟨b22, h⟩ := h
      refine tm_iald rfl dX2_fill_103 (inb_vp b22) ?_
      refine tm_iload dX2_fill_104 rfl ?_
      refine tm_iadd dX2_fill_106 ?_
      replace h := chk_some h
      obtain ⟨b23, h⟩ := h
      replace h := bnd_some h
      obtain ⟨M24, eM24, h⟩ := h
      refine tm_iast rfl dX2_fill_107 (inb_vp b23) ?_
      refine tm_nmM eM24 ?_
      refine tm_aload_n dX2_fill_108 rfl rfl ?_
      refine tm_get kX2 rfl (j := 1) (by decide) wfX2_19 dX2_fill_109 (v := tr 5 0) rfl ?_
      refine tm_get kX5 rfl (j := 1) (by decide) wfX2_62 dX2_fill_112 (v := tr 601 0) rfl ?_
      refine tm_aload dX2_fill_115 rfl ?_
      refine tm_get kX4 rfl (j := 0) (by decide) wfX2_93 dX2_fill_117 (v := ti (mI M24 4 i15 0)) rfl ?_
      replace h := bnd_some h
      obtain ⟨x25, ex25, h⟩ := h
      refine tm_nmI ex25 ?_
      refine tm_dup2 dX2_fill_120 rfl rfl ?_
      replace h := chk_some h
      obtain ⟨b26, h⟩ := h
      refine tm_iald rfl dX2_fill_121 (inb_vp b26) ?_
      refine tm_iload dX2_fill_122 rfl ?_
      refine tm_iadd dX2_fill_124 ?_
      replace h := chk_some h
      obtain ⟨b27, h⟩ := h
      replace h := bnd_some h
      obtain ⟨M28, eM28, h⟩ := h
      refine tm_iast rfl dX2_fill_125 (inb_vp b27) ?_
      refine tm_nmM eM28 ?_
      refine tm_aload dX2_fill_126 rfl ?_
      refine tm_get kX4 rfl (j := 12) (by decide) wfX2_100 dX2_fill_128 (v := tq 4 (mR M28 4 i15 12)) rfl ?_
      replace h := bnd_some h
      obtain ⟨r29, er29, h⟩ := h
      refine tm_nmQ er29 ?_
      refine tm_astore (lc' := [(4, tq 4 r29), (5, ti x19), (0, tr 2 0), (1, ti z1), (3, ti z3)]) dX2_fill_131 (by decide) rfl ?_
      refine tm_goto (tgt := 62) dX2_fill_133 (by decide) ?_
      refine tm_lcp [0, 1, 3, 4] rfl ?_
      exact ih r29 M28 _ h J
set_option maxHeartbeats 4000000 in
set_option maxRecDepth 100000 in
theorem okX2_fill_l16 {g : tG}  {r : Option tV} {Mz : tM} : ∀ (n : Nat) (y1 : Int32) (M : tM) (w : (tM) ⊕ (tM)), fX2_fill_l16 n y1 M = some w → (∀ (Mw : tM), Sum.inr Mw = w → TW g iX2_fill rmX2_fill 0 0 r Mz 0 0 149 [] [] Mw) → (∀ (Mv : tM), Sum.inl Mv = w → r = none ∧ Mz = Mv) → TW g iX2_fill rmX2_fill 0 0 r Mz 0 0 16 [(0, tr 2 0), (1, ti y1)] [] M := by
  intro n
  induction n with
  | zero => intro y1 M w h; cases h
  | succ n ih =>
    intro y1 M w h J JR
    rw [fX2_fill_l16] at h
    refine tm_iload_n dX2_fill_16 rfl rfl ?_
    refine tm_sipush (v := 2000) dX2_fill_17 (by decide) ?_
    refine tm_icmp_gt (tgt := 149) dX2_fill_20 (by decide) (fun c5 => ?_) (fun c5 => ?_)
    · rw [if_pos c5] at h
      obtain rfl := Option.some.inj h
      refine tm_lcp [] rfl ?_
      exact J _ rfl
    · rw [if_neg c5] at h
      refine tm_aload_n dX2_fill_23 rfl rfl ?_
      refine tm_get kX2 rfl (j := 1) (by decide) wfX2_19 dX2_fill_24 (v := tr 5 0) rfl ?_
      refine tm_get kX5 rfl (j := 6) (by decide) wfX2_68 dX2_fill_27 (v := ti (mI M 5 0 6)) rfl ?_
      refine tm_if_le (tgt := 149) dX2_fill_30 (by decide) (fun c6 => ?_) (fun c6 => ?_)
      · rw [if_pos c6] at h
        obtain rfl := Option.some.inj h
        refine tm_lcp [] rfl ?_
        exact J _ rfl
      · rw [if_neg c6] at h
        refine tm_aload_n dX2_fill_33 rfl rfl ?_
        replace h := obind_some h
        obtain ⟨r7, hc8, h⟩ := h
        refine tm_callV kX2 rfl (avs := []) (st := []) (okX2_leastLeft hc8) wcX2_71.1 wcX2_71.2.1 wcX2_71.2.2.1 wcX2_71.2.2.2 ⟨rfl, rfl, Nat.le_of_ble_eq_true rfl, Nat.le_of_ble_eq_true rfl⟩ rfl (Nat.le_of_ble_eq_true rfl) ⟨Nat.zero_le _, Nat.zero_le _⟩ dX2_fill_34 ?_
        refine tm_astore_n (lc' := [(2, tq 7 r7), (0, tr 2 0), (1, ti y1)]) dX2_fill_37 rfl (by decide) rfl ?_
        refine tm_aload_n dX2_fill_38 rfl rfl ?_
        refine tm_ifnonnull (k2 := 7) (q := r7) (tgt := 43) dX2_fill_39 (by decide) (fun c9 => ?_) (fun c9 => ?_)
        · rw [if_neg c9] at h
          refine tm_aload_n dX2_fill_43 rfl rfl ?_
          refine tm_get kX2 rfl (j := 1) (by decide) wfX2_19 dX2_fill_44 (v := tr 5 0) rfl ?_
          refine tm_get kX5 rfl (j := 4) (by decide) wfX2_75 dX2_fill_47 (v := tr 604 0) rfl ?_
          refine tm_aload_n dX2_fill_50 rfl rfl ?_
          replace h := obind_some h
          obtain ⟨i10, ei10, h⟩ := h
          subst ei10
          refine tm_get kX7 rfl (j := 0) (by decide) wfX2_78 dX2_fill_51 (v := ti (mI M 7 i10 0)) rfl ?_
          replace h := chk_some h
          obtain ⟨b11, h⟩ := h
          refine tm_iald rfl dX2_fill_54 (inb_vp b11) ?_
          replace h := bnd_some h
          obtain ⟨x12, ex12, h⟩ := h
          refine tm_nmI ex12 ?_
          refine tm_istore_n (lc' := [(3, ti x12), (2, tr 7 i10), (0, tr 2 0), (1, ti y1)]) dX2_fill_55 rfl (by decide) rfl ?_
          refine tm_aload_n dX2_fill_56 rfl rfl ?_
          refine tm_get kX7 rfl (j := 11) (by decide) wfX2_83 dX2_fill_57 (v := tq 4 (mR M 7 i10 11)) rfl ?_
          replace h := bnd_some h
          obtain ⟨r13, er13, h⟩ := h
          refine tm_nmQ er13 ?_
          refine tm_astore (lc' := [(4, tq 4 r13), (3, ti x12), (2, tr 7 i10), (0, tr 2 0), (1, ti y1)]) dX2_fill_60 (by decide) rfl ?_
          replace h := obind_some h
          obtain ⟨w30, hE31, h⟩ := h
          refine tm_lcp [0, 1, 3, 4] rfl ?_
          refine okX2_fill_l62 y1 x12 FU r13 M _ hE31 (fun M32 e => ?_)
          subst e
          refine tm_aload_n dX2_fill_136 rfl rfl ?_
          refine tm_get kX2 rfl (j := 1) (by decide) wfX2_19 dX2_fill_137 (v := tr 5 0) rfl ?_
          replace h := obind_some h
          obtain ⟨M34, hc33, h⟩ := h
          refine tm_callV kX5 rfl (avs := []) (st := []) (okX5_exhaust hc33) wcX2_65.1 wcX2_65.2.1 wcX2_65.2.2.1 wcX2_65.2.2.2 ⟨rfl, rfl, Nat.le_of_ble_eq_true rfl, Nat.le_of_ble_eq_true rfl⟩ rfl (Nat.le_of_ble_eq_true rfl) ⟨Nat.zero_le _, Nat.zero_le _⟩ dX2_fill_140 ?_
          replace h := bnd_some h
          obtain ⟨x35, ex35, h⟩ := h
          refine tm_iinc (v := x35) (lc' := [(1, ti x35), (0, tr 2 0)]) dX2_fill_143 rfl (by rw [ex35]; rfl) (by decide) rfl ?_
          refine tm_goto (tgt := 16) dX2_fill_146 (by decide) ?_
          refine tm_lcp [0, 1] rfl ?_
          exact ih x35 M34 _ h J JR
        · rw [if_pos c9] at h
          obtain rfl := Option.some.inj h
          obtain ⟨rfl, rfl⟩ := JR _ rfl
          exact tm_vret rfl dX2_fill_42
set_option maxHeartbeats 4000000 in
set_option maxRecDepth 100000 in
theorem okX2_fill {g : tG}  {M : tM} {Mz : tM} (h : fX2_fill  M = some Mz) : TMet g yX2_fill (Cond.code yX2_fill cX2_fill 6 (none) :: tgd) rmX2_fill [tr 2 0] M none Mz 0 0 := by
  have key : TW g iX2_fill rmX2_fill 0 0 none Mz 0 0 0 [(0, tr 2 0)] [] M := by
    rw [fX2_fill] at h
    refine tm_aload_n dX2_fill_0 rfl rfl ?_
    refine tm_get kX2 rfl (j := 1) (by decide) wfX2_19 dX2_fill_1 (v := tr 5 0) rfl ?_
    replace h := obind_some h
    obtain ⟨M2, hc1, h⟩ := h
    refine tm_callV kX5 rfl (avs := []) (st := []) (okX5_begin hc1) wcX2_57.1 wcX2_57.2.1 wcX2_57.2.2.1 wcX2_57.2.2.2 ⟨rfl, rfl, Nat.le_of_ble_eq_true rfl, Nat.le_of_ble_eq_true rfl⟩ rfl (Nat.le_of_ble_eq_true rfl) ⟨Nat.zero_le _, Nat.zero_le _⟩ dX2_fill_4 ?_
    refine tm_aload_n dX2_fill_7 rfl rfl ?_
    refine tm_get kX2 rfl (j := 1) (by decide) wfX2_19 dX2_fill_8 (v := tr 5 0) rfl ?_
    replace h := obind_some h
    obtain ⟨M4, hc3, h⟩ := h
    refine tm_callV kX5 rfl (avs := []) (st := []) (okX5_exhaust hc3) wcX2_65.1 wcX2_65.2.1 wcX2_65.2.2.1 wcX2_65.2.2.2 ⟨rfl, rfl, Nat.le_of_ble_eq_true rfl, Nat.le_of_ble_eq_true rfl⟩ rfl (Nat.le_of_ble_eq_true rfl) ⟨Nat.zero_le _, Nat.zero_le _⟩ dX2_fill_11 ?_
    refine tm_iconst (v := 0) dX2_fill_14 (by decide) ?_
    refine tm_istore_n (lc' := [(1, ti 0), (0, tr 2 0)]) dX2_fill_15 rfl (by decide) rfl ?_
    replace h := obind_some h
    obtain ⟨w36, hE37, h⟩ := h
    refine tm_lcp [0, 1] rfl ?_
    refine okX2_fill_l16  FU 0 M4 _ hE37 (fun M38 e => ?_) (fun Mv41 e => ?_)
    · subst e
      dsimp only at h
      obtain rfl := Option.some.inj h
      exact tm_vret rfl dX2_fill_149
    · subst e
      obtain rfl := Option.some.inj h
      exact ⟨rfl, rfl⟩
  exact TMet.of (by decide) (Nat.le_of_ble_eq_true rfl) key
abbrev iX2_lessen : tY := (RX2, cX2_lessen, 5, none, "lessen")
abbrev rmX2_lessen : Room := { frames := 4, cells := 0, slots := 0, locals := 91 }
def fX2_lessen_l12 (z1 : Int32) : Nat → Int32 → Int32 → Int32 → tM → Option (Int32 × tM)
  | 0, _, _, _, _ => none
  | n + 1, y2, y3, y4, M =>
    if 32 ≤ y4 then (
    some ((y3, M))
    ) else (
    if (y3 - y2) ≤ 1 then (
    some ((y3, M))
    ) else (
    chk (nz4 2) <|
    chk (inb z1 (mN M 302 0)) <|
    bnd (sI M 302 0 (z1.toNatClampNeg) ((y2 + y3) / 2)) fun M7 =>
    (fX2_sticks M7).bind fun (x8, M10) =>
    Option.bind (α := Int32 × Int32) (
    if x8 = 0 then (
    chk (inb z1 (mN M10 302 0)) <|
    bnd (mI M10 302 0 (z1.toNatClampNeg)) fun x13 =>
    some ((y2, x13))
    ) else (
    chk (inb z1 (mN M10 302 0)) <|
    bnd (mI M10 302 0 (z1.toNatClampNeg)) fun x15 =>
    some ((x15, y3))
    )
    ) fun (x12, x13) =>
    bnd (y4 + 1) fun x16 =>
    fX2_lessen_l12 z1 n x12 x13 x16 M10
    )
    )
def fX2_lessen (a1 : Int32) (M : tM) : Option (tM) :=
  chk (inb a1 (mN M 302 0)) <|
  bnd (mI M 302 0 (a1.toNatClampNeg)) fun x2 =>
  Option.bind (fX2_lessen_l12 a1 FU (-1) x2 0 M) fun (x19, M20) =>
  chk (inb a1 (mN M20 302 0)) <|
  bnd (sI M20 302 0 (a1.toNatClampNeg) x19) fun M22 =>
  some M22
set_option maxHeartbeats 4000000 in
set_option maxRecDepth 100000 in
theorem okX2_lessen_l12 {g : tG} (z1 : Int32) {r : Option tV} {Mz : tM} : ∀ (n : Nat) (y2 : Int32) (y3 : Int32) (y4 : Int32) (M : tM) (w : Int32 × tM), fX2_lessen_l12 z1 n y2 y3 y4 M = some w → (∀ (w3 : Int32) (Mw : tM), (w3, Mw) = w → TW g iX2_lessen rmX2_lessen 0 0 r Mz 0 0 67 [(0, tr 2 0), (1, ti z1), (3, ti w3)] [] Mw) → TW g iX2_lessen rmX2_lessen 0 0 r Mz 0 0 12 [(0, tr 2 0), (1, ti z1), (2, ti y2), (3, ti y3), (4, ti y4)] [] M := by
  intro n
  induction n with
  | zero => intro y2 y3 y4 M w h; cases h
  | succ n ih =>
    intro y2 y3 y4 M w h J
    rw [fX2_lessen_l12] at h
    refine tm_iload dX2_lessen_12 rfl ?_
    refine tm_bipush (v := 32) dX2_lessen_14 (by decide) ?_
    refine tm_icmp_ge (tgt := 67) dX2_lessen_16 (by decide) (fun c3 => ?_) (fun c3 => ?_)
    · rw [if_pos c3] at h
      obtain rfl := Option.some.inj h
      refine tm_lcp [0, 1, 3] rfl ?_
      exact J _ _ rfl
    · rw [if_neg c3] at h
      refine tm_iload_n dX2_lessen_19 rfl rfl ?_
      refine tm_iload_n dX2_lessen_20 rfl rfl ?_
      refine tm_isub dX2_lessen_21 ?_
      refine tm_iconst (v := 1) dX2_lessen_22 (by decide) ?_
      refine tm_icmp_le (tgt := 67) dX2_lessen_23 (by decide) (fun c4 => ?_) (fun c4 => ?_)
      · rw [if_pos c4] at h
        obtain rfl := Option.some.inj h
        refine tm_lcp [0, 1, 3] rfl ?_
        exact J _ _ rfl
      · rw [if_neg c4] at h
        refine tm_aload_n dX2_lessen_26 rfl rfl ?_
        refine tm_get kX2 rfl (j := 2) (by decide) wfX2_9 dX2_lessen_27 (v := tr 302 0) rfl ?_
        refine tm_iload_n dX2_lessen_30 rfl rfl ?_
        refine tm_iload_n dX2_lessen_31 rfl rfl ?_
        refine tm_iload_n dX2_lessen_32 rfl rfl ?_
        refine tm_iadd dX2_lessen_33 ?_
        refine tm_iconst (v := 2) dX2_lessen_34 (by decide) ?_
        replace h := chk_some h
        obtain ⟨b5, h⟩ := h
        refine tm_idiv dX2_lessen_35 (nz4_ne b5) ?_
        replace h := chk_some h
        obtain ⟨b6, h⟩ := h
        replace h := bnd_some h
        obtain ⟨M7, eM7, h⟩ := h
        refine tm_iast rfl dX2_lessen_36 (inb_vp b6) ?_
        refine tm_nmM eM7 ?_
        refine tm_aload_n dX2_lessen_37 rfl rfl ?_
        replace h := obind_some h
        obtain ⟨⟨x8, M10⟩, hc9, h⟩ := h
        dsimp only at h
        refine tm_callV kX2 rfl (avs := []) (st := []) (okX2_sticks hc9) wcX2_36.1 wcX2_36.2.1 wcX2_36.2.2.1 wcX2_36.2.2.2 ⟨rfl, rfl, Nat.le_of_ble_eq_true rfl, Nat.le_of_ble_eq_true rfl⟩ rfl (Nat.le_of_ble_eq_true rfl) ⟨Nat.zero_le _, Nat.zero_le _⟩ dX2_lessen_38 ?_
        replace h := obind_some h
        obtain ⟨⟨x12, x13⟩, hE14, h⟩ := h
        dsimp only at h
        have J15 : TW g iX2_lessen rmX2_lessen 0 0 r Mz 0 0 61 [(0, tr 2 0), (1, ti z1), (2, ti x12), (3, ti x13), (4, ti y4)] [] M10 := by
          replace h := bnd_some h
          obtain ⟨x16, ex16, h⟩ := h
          refine tm_iinc (v := x16) (lc' := [(4, ti x16), (0, tr 2 0), (1, ti z1), (2, ti x12), (3, ti x13)]) dX2_lessen_61 rfl (by rw [ex16]; rfl) (by decide) rfl ?_
          refine tm_goto (tgt := 12) dX2_lessen_64 (by decide) ?_
          refine tm_lcp [0, 1, 2, 3, 4] rfl ?_
          exact ih x12 x13 x16 M10 _ h J
        refine tm_if_eq (tgt := 54) dX2_lessen_41 (by decide) (fun c11 => ?_) (fun c11 => ?_)
        · rw [if_pos c11] at hE14
          refine tm_aload_n dX2_lessen_54 rfl rfl ?_
          refine tm_get kX2 rfl (j := 2) (by decide) wfX2_9 dX2_lessen_55 (v := tr 302 0) rfl ?_
          refine tm_iload_n dX2_lessen_58 rfl rfl ?_
          replace hE14 := chk_some hE14
          obtain ⟨b12, hE14⟩ := hE14
          refine tm_iald rfl dX2_lessen_59 (inb_vp b12) ?_
          replace hE14 := bnd_some hE14
          obtain ⟨x13, ex13, hE14⟩ := hE14
          refine tm_nmI ex13 ?_
          refine tm_istore_n (lc' := [(3, ti x13), (0, tr 2 0), (1, ti z1), (2, ti y2), (4, ti y4)]) dX2_lessen_60 rfl (by decide) rfl ?_
          obtain ⟨rfl, rfl⟩ := pj2 hE14
          refine tm_lcp [0, 1, 2, 3, 4] rfl ?_
          exact J15
        · rw [if_neg c11] at hE14
          refine tm_aload_n dX2_lessen_44 rfl rfl ?_
          refine tm_get kX2 rfl (j := 2) (by decide) wfX2_9 dX2_lessen_45 (v := tr 302 0) rfl ?_
          refine tm_iload_n dX2_lessen_48 rfl rfl ?_
          replace hE14 := chk_some hE14
          obtain ⟨b14, hE14⟩ := hE14
          refine tm_iald rfl dX2_lessen_49 (inb_vp b14) ?_
          replace hE14 := bnd_some hE14
          obtain ⟨x15, ex15, hE14⟩ := hE14
          refine tm_nmI ex15 ?_
          refine tm_istore_n (lc' := [(2, ti x15), (0, tr 2 0), (1, ti z1), (3, ti y3), (4, ti y4)]) dX2_lessen_50 rfl (by decide) rfl ?_
          refine tm_goto (tgt := 61) dX2_lessen_51 (by decide) ?_
          obtain ⟨rfl, rfl⟩ := pj2 hE14
          refine tm_lcp [0, 1, 2, 3, 4] rfl ?_
          exact J15
set_option maxHeartbeats 4000000 in
set_option maxRecDepth 100000 in
theorem okX2_lessen {g : tG} {a1 : Int32} {M : tM} {Mz : tM} (h : fX2_lessen a1 M = some Mz) : TMet g yX2_lessen (Cond.code yX2_lessen cX2_lessen 5 (none) :: tgd) rmX2_lessen [tr 2 0, ti a1] M none Mz 0 0 := by
  have key : TW g iX2_lessen rmX2_lessen 0 0 none Mz 0 0 0 [(0, tr 2 0), (1, ti a1)] [] M := by
    rw [fX2_lessen] at h
    refine tm_iconst (v := (-1)) dX2_lessen_0 (by decide) ?_
    refine tm_istore_n (lc' := [(2, ti (-1)), (0, tr 2 0), (1, ti a1)]) dX2_lessen_1 rfl (by decide) rfl ?_
    refine tm_aload_n dX2_lessen_2 rfl rfl ?_
    refine tm_get kX2 rfl (j := 2) (by decide) wfX2_9 dX2_lessen_3 (v := tr 302 0) rfl ?_
    refine tm_iload_n dX2_lessen_6 rfl rfl ?_
    replace h := chk_some h
    obtain ⟨b1, h⟩ := h
    refine tm_iald rfl dX2_lessen_7 (inb_vp b1) ?_
    replace h := bnd_some h
    obtain ⟨x2, ex2, h⟩ := h
    refine tm_nmI ex2 ?_
    refine tm_istore_n (lc' := [(3, ti x2), (2, ti (-1)), (0, tr 2 0), (1, ti a1)]) dX2_lessen_8 rfl (by decide) rfl ?_
    refine tm_iconst (v := 0) dX2_lessen_9 (by decide) ?_
    refine tm_istore (lc' := [(4, ti 0), (3, ti x2), (2, ti (-1)), (0, tr 2 0), (1, ti a1)]) dX2_lessen_10 (by decide) rfl ?_
    replace h := obind_some h
    obtain ⟨w17, hE18, h⟩ := h
    refine tm_lcp [0, 1, 2, 3, 4] rfl ?_
    refine okX2_lessen_l12 a1 FU (-1) x2 0 M _ hE18 (fun x19 M20 e => ?_)
    subst e
    dsimp only at h
    refine tm_aload_n dX2_lessen_67 rfl rfl ?_
    refine tm_get kX2 rfl (j := 2) (by decide) wfX2_9 dX2_lessen_68 (v := tr 302 0) rfl ?_
    refine tm_iload_n dX2_lessen_71 rfl rfl ?_
    refine tm_iload_n dX2_lessen_72 rfl rfl ?_
    replace h := chk_some h
    obtain ⟨b21, h⟩ := h
    replace h := bnd_some h
    obtain ⟨M22, eM22, h⟩ := h
    refine tm_iast rfl dX2_lessen_73 (inb_vp b21) ?_
    refine tm_nmM eM22 ?_
    obtain rfl := Option.some.inj h
    exact tm_vret rfl dX2_lessen_74
  exact TMet.of (by decide) (Nat.le_of_ble_eq_true rfl) key
theorem wcX2_43 : tCB RX2 43 yX2_isStuck cX2_isStuck 1 (some .boolean) 0 ∧ Cond.methodLink RX2 43 yX2_isStuck ∈ tgd ∧ Cond.instanceMethod yX2_isStuck ∈ tgd ∧ Cond.selects RX2 yX2_isStuck yX2_isStuck ∈ tgd := ⟨⟨(tgd_t 768 (by decide +kernel) (by decide +kernel)), (tgd_t 5 (by decide +kernel) (by decide +kernel)), by decide, by decide +kernel⟩, (tgd_t 804 (by decide +kernel) (by decide +kernel)), (tgd_t 766 (by decide +kernel) (by decide +kernel)), (tgd_t 767 (by decide +kernel) (by decide +kernel))⟩
theorem wcX2_45 : tCB RX2 45 yX2_fill cX2_fill 6 (none) 0 ∧ Cond.methodLink RX2 45 yX2_fill ∈ tgd ∧ Cond.instanceMethod yX2_fill ∈ tgd ∧ Cond.selects RX2 yX2_fill yX2_fill ∈ tgd := ⟨⟨(tgd_t 808 (by decide +kernel) (by decide +kernel)), (tgd_t 5 (by decide +kernel) (by decide +kernel)), by decide, by decide +kernel⟩, (tgd_t 805 (by decide +kernel) (by decide +kernel)), (tgd_t 807 (by decide +kernel) (by decide +kernel)), (tgd_p 13 (by decide +kernel) (by decide +kernel))⟩
theorem wcX2_53 : tCB RX2 53 yX2_lessen cX2_lessen 5 (none) 1 ∧ Cond.methodLink RX2 53 yX2_lessen ∈ tgd ∧ Cond.instanceMethod yX2_lessen ∈ tgd ∧ Cond.selects RX2 yX2_lessen yX2_lessen ∈ tgd := ⟨⟨(tgd_t 818 (by decide +kernel) (by decide +kernel)), (tgd_t 5 (by decide +kernel) (by decide +kernel)), by decide, by decide +kernel⟩, (tgd_t 815 (by decide +kernel) (by decide +kernel)), (tgd_t 817 (by decide +kernel) (by decide +kernel)), (tgd_p 15 (by decide +kernel) (by decide +kernel))⟩
abbrev iX2_moreOn : tY := (RX2, cX2_moreOn, 3, some .int, "moreOn")
abbrev rmX2_moreOn : Room := { frames := 5, cells := 0, slots := 0, locals := 115 }
def fX2_moreOn_l20 (z1 : Int32) : Nat → Int32 → tM → Option (tM)
  | 0, _, _ => none
  | n + 1, y2, M =>
    if (mI M 1 0 3) ≤ y2 then (
    some M
    ) else (
    (fX2_lessen y2 M).bind fun M10 =>
    bnd (y2 + 1) fun x11 =>
    fX2_moreOn_l20 z1 n x11 M10
    )
def fX2_moreOn (a1 : Int32) (M : tM) : Option (Int32 × tM) :=
  (fX2_isStuck M).bind fun (x1, M3) =>
  Option.bind (α := tM) (
  if x1 = 0 then (
  some M3
  ) else (
  if (mI M3 2 0 5) = 0 then (
  (fX2_fill M3).bind fun M7 =>
  Option.bind (fX2_moreOn_l20 a1 FU 0 M7) fun M14 =>
  bnd (sI M14 2 0 5 1) fun M15 =>
  some M15
  ) else (
  some M3
  )
  )
  ) fun M5 =>
  chk (inb a1 (mN M5 302 0)) <|
  some ((mI M5 302 0 (a1.toNatClampNeg), M5))
set_option maxHeartbeats 4000000 in
set_option maxRecDepth 100000 in
theorem okX2_moreOn_l20 {g : tG} (z1 : Int32) {r : Option tV} {Mz : tM} : ∀ (n : Nat) (y2 : Int32) (M : tM) (w : tM), fX2_moreOn_l20 z1 n y2 M = some w → (∀ (Mw : tM), Mw = w → TW g iX2_moreOn rmX2_moreOn 0 0 r Mz 0 0 42 [(0, tr 2 0), (1, ti z1)] [] Mw) → TW g iX2_moreOn rmX2_moreOn 0 0 r Mz 0 0 20 [(0, tr 2 0), (1, ti z1), (2, ti y2)] [] M := by
  intro n
  induction n with
  | zero => intro y2 M w h; cases h
  | succ n ih =>
    intro y2 M w h J
    rw [fX2_moreOn_l20] at h
    refine tm_iload_n dX2_moreOn_20 rfl rfl ?_
    refine tm_aload_n dX2_moreOn_21 rfl rfl ?_
    refine tm_get kX2 rfl (j := 0) (by decide) wfX2_15 dX2_moreOn_22 (v := tr 1 0) rfl ?_
    refine tm_get kX1 rfl (j := 3) (by decide) wfX2_47 dX2_moreOn_25 (v := ti (mI M 1 0 3)) rfl ?_
    refine tm_icmp_ge (tgt := 42) dX2_moreOn_28 (by decide) (fun c8 => ?_) (fun c8 => ?_)
    · rw [if_pos c8] at h
      obtain rfl := Option.some.inj h
      refine tm_lcp [0, 1] rfl ?_
      exact J _ rfl
    · rw [if_neg c8] at h
      refine tm_aload_n dX2_moreOn_31 rfl rfl ?_
      refine tm_iload_n dX2_moreOn_32 rfl rfl ?_
      replace h := obind_some h
      obtain ⟨M10, hc9, h⟩ := h
      refine tm_callV kX2 rfl (avs := [ti y2]) (st := []) (okX2_lessen hc9) wcX2_53.1 wcX2_53.2.1 wcX2_53.2.2.1 wcX2_53.2.2.2 ⟨rfl, rfl, Nat.le_of_ble_eq_true rfl, Nat.le_of_ble_eq_true rfl⟩ rfl (Nat.le_of_ble_eq_true rfl) ⟨Nat.zero_le _, Nat.zero_le _⟩ dX2_moreOn_33 ?_
      replace h := bnd_some h
      obtain ⟨x11, ex11, h⟩ := h
      refine tm_iinc (v := x11) (lc' := [(2, ti x11), (0, tr 2 0), (1, ti z1)]) dX2_moreOn_36 rfl (by rw [ex11]; rfl) (by decide) rfl ?_
      refine tm_goto (tgt := 20) dX2_moreOn_39 (by decide) ?_
      refine tm_lcp [0, 1, 2] rfl ?_
      exact ih x11 M10 _ h J
set_option maxHeartbeats 4000000 in
set_option maxRecDepth 100000 in
theorem okX2_moreOn {g : tG} {a1 : Int32} {M : tM} {v : Int32} {Mz : tM} (h : fX2_moreOn a1 M = some ((v, Mz))) : TMet g yX2_moreOn (Cond.code yX2_moreOn cX2_moreOn 3 (some .int) :: tgd) rmX2_moreOn [tr 2 0, ti a1] M (some (ti v)) Mz 0 0 := by
  have key : TW g iX2_moreOn rmX2_moreOn 0 0 (some (ti v)) Mz 0 0 0 [(0, tr 2 0), (1, ti a1)] [] M := by
    rw [fX2_moreOn] at h
    refine tm_aload_n dX2_moreOn_0 rfl rfl ?_
    replace h := obind_some h
    obtain ⟨⟨x1, M3⟩, hc2, h⟩ := h
    dsimp only at h
    refine tm_callV kX2 rfl (avs := []) (st := []) (okX2_isStuck hc2) wcX2_43.1 wcX2_43.2.1 wcX2_43.2.2.1 wcX2_43.2.2.2 ⟨rfl, rfl, Nat.le_of_ble_eq_true rfl, Nat.le_of_ble_eq_true rfl⟩ rfl (Nat.le_of_ble_eq_true rfl) ⟨Nat.zero_le _, Nat.zero_le _⟩ dX2_moreOn_1 ?_
    replace h := obind_some h
    obtain ⟨M5, hE6, h⟩ := h
    have J7 : TW g iX2_moreOn rmX2_moreOn 0 0 (some (ti v)) Mz 0 0 47 [(0, tr 2 0), (1, ti a1)] [] M5 := by
      refine tm_aload_n dX2_moreOn_47 rfl rfl ?_
      refine tm_get kX2 rfl (j := 2) (by decide) wfX2_9 dX2_moreOn_48 (v := tr 302 0) rfl ?_
      refine tm_iload_n dX2_moreOn_51 rfl rfl ?_
      replace h := chk_some h
      obtain ⟨b16, h⟩ := h
      refine tm_iald rfl dX2_moreOn_52 (inb_vp b16) ?_
      obtain ⟨rfl, rfl⟩ := pj2 h
      exact tm_iret rfl dX2_moreOn_53
    refine tm_if_eq (tgt := 47) dX2_moreOn_4 (by decide) (fun c4 => ?_) (fun c4 => ?_)
    · rw [if_pos c4] at hE6
      obtain rfl := Option.some.inj hE6
      refine tm_lcp [0, 1] rfl ?_
      exact J7
    · rw [if_neg c4] at hE6
      refine tm_aload_n dX2_moreOn_7 rfl rfl ?_
      refine tm_get kX2 rfl (j := 5) (by decide) wfX2_27 dX2_moreOn_8 (v := ti (mI M3 2 0 5)) rfl ?_
      refine tm_if_ne (tgt := 47) dX2_moreOn_11 (by decide) (fun c5 => ?_) (fun c5 => ?_)
      · rw [if_neg c5] at hE6
        obtain rfl := Option.some.inj hE6
        refine tm_lcp [0, 1] rfl ?_
        exact J7
      · rw [if_pos c5] at hE6
        refine tm_aload_n dX2_moreOn_14 rfl rfl ?_
        replace hE6 := obind_some hE6
        obtain ⟨M7, hc6, hE6⟩ := hE6
        refine tm_callV kX2 rfl (avs := []) (st := []) (okX2_fill hc6) wcX2_45.1 wcX2_45.2.1 wcX2_45.2.2.1 wcX2_45.2.2.2 ⟨rfl, rfl, Nat.le_of_ble_eq_true rfl, Nat.le_of_ble_eq_true rfl⟩ rfl (Nat.le_of_ble_eq_true rfl) ⟨Nat.zero_le _, Nat.zero_le _⟩ dX2_moreOn_15 ?_
        refine tm_iconst (v := 0) dX2_moreOn_18 (by decide) ?_
        refine tm_istore_n (lc' := [(2, ti 0), (0, tr 2 0), (1, ti a1)]) dX2_moreOn_19 rfl (by decide) rfl ?_
        replace hE6 := obind_some hE6
        obtain ⟨w12, hE13, hE6⟩ := hE6
        refine tm_lcp [0, 1, 2] rfl ?_
        refine okX2_moreOn_l20 a1 FU 0 M7 _ hE13 (fun M14 e => ?_)
        subst e
        refine tm_aload_n dX2_moreOn_42 rfl rfl ?_
        refine tm_iconst (v := 1) dX2_moreOn_43 (by decide) ?_
        replace hE6 := bnd_some hE6
        obtain ⟨M15, eM15, hE6⟩ := hE6
        refine tm_put kX2 rfl (j := 5) (by decide) wfX2_27 rfl dX2_moreOn_44 (tb_f (x := 1) (by decide)) (tPut_I 1 rfl) ?_
        refine tm_nmM eM15 ?_
        obtain rfl := Option.some.inj hE6
        refine tm_lcp [0, 1] rfl ?_
        exact J7
  exact TMet.of (by decide) (Nat.le_of_ble_eq_true rfl) key
theorem wfX3_18 : Cond.fieldLink RX3 18 "EvenFlow$Least" "storesAhead" "[I" ∈ tgd := (tgd_t 207 (by decide +kernel) (by decide +kernel))
theorem wfX3_25 : Cond.fieldLink RX3 25 "EvenFlow$Least" "ahead" "LEvenFlow$Marking;" ∈ tgd := (tgd_t 201 (by decide +kernel) (by decide +kernel))
theorem wfX3_100 : Cond.fieldLink RX3 100 "EvenFlow$Part" "firstOut" "LEvenFlow$Line;" ∈ tgd := (tgd_t 447 (by decide +kernel) (by decide +kernel))
theorem wfX3_104 : Cond.fieldLink RX3 104 "EvenFlow$Line" "number" "I" ∈ tgd := (tgd_t 556 (by decide +kernel) (by decide +kernel))
theorem wfX3_107 : Cond.fieldLink RX3 107 "EvenFlow$Marking" "stores" "[I" ∈ tgd := (tgd_t 106 (by decide +kernel) (by decide +kernel))
theorem wfX3_110 : Cond.fieldLink RX3 110 "EvenFlow$Line" "nextOut" "LEvenFlow$Line;" ∈ tgd := (tgd_t 601 (by decide +kernel) (by decide +kernel))
abbrev iX3_keepStores : tY := (RX3, cX3_keepStores, 4, none, "keepStores")
abbrev rmX3_keepStores : Room := { frames := 0, cells := 0, slots := 0, locals := 0 }
def fX3_keepStores_l5 (z2 : Int32) : Nat → (Option Nat) → tM → Option (tM)
  | 0, _, _ => none
  | n + 1, y3, M =>
    if y3 = none then (
    some M
    ) else (
    Option.bind y3 fun i4 =>
    chk (inb (mI M 4 i4 0) (mN M 602 0)) <|
    chk (inb ((z2 * 20) + (mI M 4 i4 0)) (mN M 405 0)) <|
    bnd (sI M 405 0 (((z2 * 20) + (mI M 4 i4 0)).toNatClampNeg) (mI M 602 0 ((mI M 4 i4 0).toNatClampNeg))) fun M7 =>
    bnd (mR M7 4 i4 13) fun r8 =>
    fX3_keepStores_l5 z2 n r8 M7
    )
def fX3_keepStores (a1 : Option Nat) (a2 : Int32) (M : tM) : Option (tM) :=
  Option.bind a1 fun i1 =>
  bnd (mR M 7 i1 13) fun r2 =>
  Option.bind (fX3_keepStores_l5 a2 FU r2 M) fun M11 =>
  some M11
set_option maxHeartbeats 4000000 in
set_option maxRecDepth 100000 in
theorem okX3_keepStores_l5 {g : tG} (z2 : Int32) {r : Option tV} {Mz : tM} : ∀ (n : Nat) (y3 : Option Nat) (M : tM) (w : tM), fX3_keepStores_l5 z2 n y3 M = some w → (∀ (Mw : tM), Mw = w → TW g iX3_keepStores rmX3_keepStores 0 0 r Mz 0 0 43 [] [] Mw) → TW g iX3_keepStores rmX3_keepStores 0 0 r Mz 0 0 5 [(0, tr 3 0), (2, ti z2), (3, tq 4 y3)] [] M := by
  intro n
  induction n with
  | zero => intro y3 M w h; cases h
  | succ n ih =>
    intro y3 M w h J
    rw [fX3_keepStores_l5] at h
    refine tm_aload_n dX3_keepStores_5 rfl rfl ?_
    refine tm_ifnull (k2 := 4) (q := y3) (tgt := 43) dX3_keepStores_6 (by decide) (fun c3 => ?_) (fun c3 => ?_)
    · rw [if_pos c3] at h
      obtain rfl := Option.some.inj h
      refine tm_lcp [] rfl ?_
      exact J _ rfl
    · rw [if_neg c3] at h
      refine tm_aload_n dX3_keepStores_9 rfl rfl ?_
      refine tm_get kX3 rfl (j := 5) (by decide) wfX3_18 dX3_keepStores_10 (v := tr 405 0) rfl ?_
      refine tm_iload_n dX3_keepStores_13 rfl rfl ?_
      refine tm_bipush (v := 20) dX3_keepStores_14 (by decide) ?_
      refine tm_imul dX3_keepStores_16 ?_
      refine tm_aload_n dX3_keepStores_17 rfl rfl ?_
      replace h := obind_some h
      obtain ⟨i4, ei4, h⟩ := h
      subst ei4
      refine tm_get kX4 rfl (j := 0) (by decide) wfX3_104 dX3_keepStores_18 (v := ti (mI M 4 i4 0)) rfl ?_
      refine tm_iadd dX3_keepStores_21 ?_
      refine tm_aload_n dX3_keepStores_22 rfl rfl ?_
      refine tm_get kX3 rfl (j := 1) (by decide) wfX3_25 dX3_keepStores_23 (v := tr 5 0) rfl ?_
      refine tm_get kX5 rfl (j := 2) (by decide) wfX3_107 dX3_keepStores_26 (v := tr 602 0) rfl ?_
      refine tm_aload_n dX3_keepStores_29 rfl rfl ?_
      refine tm_get kX4 rfl (j := 0) (by decide) wfX3_104 dX3_keepStores_30 (v := ti (mI M 4 i4 0)) rfl ?_
      replace h := chk_some h
      obtain ⟨b5, h⟩ := h
      refine tm_iald rfl dX3_keepStores_33 (inb_vp b5) ?_
      replace h := chk_some h
      obtain ⟨b6, h⟩ := h
      replace h := bnd_some h
      obtain ⟨M7, eM7, h⟩ := h
      refine tm_iast rfl dX3_keepStores_34 (inb_vp b6) ?_
      refine tm_nmM eM7 ?_
      refine tm_aload_n dX3_keepStores_35 rfl rfl ?_
      refine tm_get kX4 rfl (j := 13) (by decide) wfX3_110 dX3_keepStores_36 (v := tq 4 (mR M7 4 i4 13)) rfl ?_
      replace h := bnd_some h
      obtain ⟨r8, er8, h⟩ := h
      refine tm_nmQ er8 ?_
      refine tm_astore_n (lc' := [(3, tq 4 r8), (0, tr 3 0), (2, ti z2)]) dX3_keepStores_39 rfl (by decide) rfl ?_
      refine tm_goto (tgt := 5) dX3_keepStores_40 (by decide) ?_
      refine tm_lcp [0, 2, 3] rfl ?_
      exact ih r8 M7 _ h J
set_option maxHeartbeats 4000000 in
set_option maxRecDepth 100000 in
theorem okX3_keepStores {g : tG} {a1 : Option Nat} {a2 : Int32} {M : tM} {Mz : tM} (h : fX3_keepStores a1 a2 M = some Mz) : TMet g yX3_keepStores (Cond.code yX3_keepStores cX3_keepStores 4 (none) :: tgd) rmX3_keepStores [tr 3 0, tq 7 a1, ti a2] M none Mz 0 0 := by
  have key : TW g iX3_keepStores rmX3_keepStores 0 0 none Mz 0 0 0 [(0, tr 3 0), (1, tq 7 a1), (2, ti a2)] [] M := by
    rw [fX3_keepStores] at h
    refine tm_aload_n dX3_keepStores_0 rfl rfl ?_
    replace h := obind_some h
    obtain ⟨i1, ei1, h⟩ := h
    subst ei1
    refine tm_get kX7 rfl (j := 13) (by decide) wfX3_100 dX3_keepStores_1 (v := tq 4 (mR M 7 i1 13)) rfl ?_
    replace h := bnd_some h
    obtain ⟨r2, er2, h⟩ := h
    refine tm_nmQ er2 ?_
    refine tm_astore_n (lc' := [(3, tq 4 r2), (0, tr 3 0), (1, tr 7 i1), (2, ti a2)]) dX3_keepStores_4 rfl (by decide) rfl ?_
    replace h := obind_some h
    obtain ⟨w9, hE10, h⟩ := h
    refine tm_lcp [0, 2, 3] rfl ?_
    refine okX3_keepStores_l5 a2 FU r2 M _ hE10 (fun M11 e => ?_)
    subst e
    obtain rfl := Option.some.inj h
    exact tm_vret rfl dX3_keepStores_43
  exact TMet.of (by decide) (Nat.le_of_ble_eq_true rfl) key
abbrev iX7_phaseAhead : tY := (RX7, cX7_phaseAhead, 2, some .int, "phaseAhead")
abbrev rmX7_phaseAhead : Room := { frames := 0, cells := 0, slots := 0, locals := 0 }
def fX7_phaseAhead (i : Nat) (a1 : Int32) (M : tM) : Option (Int32) :=
  if a1 ≤ 0 then (
  some ((mI M 7 i 3) - 1)
  ) else (
  some (a1 - 1)
  )
set_option maxHeartbeats 4000000 in
set_option maxRecDepth 100000 in
theorem okX7_phaseAhead {g : tG} {i : Nat} {a1 : Int32} {M : tM} {v : Int32} (h : fX7_phaseAhead i a1 M = some v) : TMet g yX7_phaseAhead (Cond.code yX7_phaseAhead cX7_phaseAhead 2 (some .int) :: tgd) rmX7_phaseAhead [tr 7 i, ti a1] M (some (ti v)) M 0 0 := by
  have key : TW g iX7_phaseAhead rmX7_phaseAhead 0 0 (some (ti v)) M 0 0 0 [(0, tr 7 i), (1, ti a1)] [] M := by
    rw [fX7_phaseAhead] at h
    refine tm_iload_n dX7_phaseAhead_0 rfl rfl ?_
    refine tm_if_le (tgt := 10) dX7_phaseAhead_1 (by decide) (fun c1 => ?_) (fun c1 => ?_)
    · rw [if_pos c1] at h
      refine tm_aload_n dX7_phaseAhead_10 rfl rfl ?_
      refine tm_get kX7 rfl (j := 3) (by decide) wfX7_31 dX7_phaseAhead_11 (v := ti (mI M 7 i 3)) rfl ?_
      refine tm_iconst (v := 1) dX7_phaseAhead_14 (by decide) ?_
      refine tm_isub dX7_phaseAhead_15 ?_
      obtain rfl := Option.some.inj h
      exact tm_iret rfl dX7_phaseAhead_16
    · rw [if_neg c1] at h
      refine tm_iload_n dX7_phaseAhead_4 rfl rfl ?_
      refine tm_iconst (v := 1) dX7_phaseAhead_5 (by decide) ?_
      refine tm_isub dX7_phaseAhead_6 ?_
      refine tm_goto (tgt := 16) dX7_phaseAhead_7 (by decide) ?_
      obtain rfl := Option.some.inj h
      exact tm_iret rfl dX7_phaseAhead_16
  exact TMet.of (by decide) (Nat.le_of_ble_eq_true rfl) key
theorem wcX5_95 : tCB RX5 95 yX7_phaseAhead cX7_phaseAhead 2 (some .int) 1 ∧ Cond.methodLink RX5 95 yX7_phaseAhead ∈ tgd ∧ Cond.instanceMethod yX7_phaseAhead ∈ tgd ∧ Cond.selects RX7 yX7_phaseAhead yX7_phaseAhead ∈ tgd := ⟨⟨(tgd_t 884 (by decide +kernel) (by decide +kernel)), (tgd_t 11 (by decide +kernel) (by decide +kernel)), by decide, by decide +kernel⟩, (tgd_t 881 (by decide +kernel) (by decide +kernel)), (tgd_t 882 (by decide +kernel) (by decide +kernel)), (tgd_t 883 (by decide +kernel) (by decide +kernel))⟩
abbrev iX5_stepBack : tY := (RX5, cX5_stepBack, 4, none, "stepBack")
abbrev rmX5_stepBack : Room := { frames := 1, cells := 0, slots := 0, locals := 21 }
def fX5_stepBack_l19 (z1 : Nat) (z2 : Int32) : Nat → (Option Nat) → tM → Option (tM)
  | 0, _, _ => none
  | n + 1, y3, M =>
    if y3 = none then (
    some M
    ) else (
    Option.bind y3 fun i7 =>
    bnd (mI M 4 i7 0) fun x8 =>
    chk (inb x8 (mN M 601 0)) <|
    (fX4_givesIn i7 z2 M).bind fun x10 =>
    chk (inb x8 (mN M 601 0)) <|
    bnd (sI M 601 0 (x8.toNatClampNeg) ((mI M 601 0 (x8.toNatClampNeg)) - x10)) fun M13 =>
    bnd (mR M13 4 i7 13) fun r14 =>
    fX5_stepBack_l19 z1 z2 n r14 M13
    )
def fX5_stepBack_l53 (z1 : Nat) (z2 : Int32) : Nat → (Option Nat) → tM → Option (tM)
  | 0, _, _ => none
  | n + 1, y3, M =>
    if y3 = none then (
    some M
    ) else (
    Option.bind y3 fun i20 =>
    bnd (mI M 4 i20 0) fun x21 =>
    chk (inb x21 (mN M 601 0)) <|
    (fX4_takesIn i20 z2 M).bind fun x23 =>
    chk (inb x21 (mN M 601 0)) <|
    bnd (sI M 601 0 (x21.toNatClampNeg) ((mI M 601 0 (x21.toNatClampNeg)) + x23)) fun M26 =>
    bnd (mR M26 4 i20 12) fun r27 =>
    fX5_stepBack_l53 z1 z2 n r27 M26
    )
def fX5_stepBack (a1 : Option Nat) (M : tM) : Option (tM) :=
  Option.bind a1 fun i1 =>
  chk (inb (mI M 7 i1 0) (mN M 604 0)) <|
  (fX7_phaseAhead i1 (mI M 604 0 ((mI M 7 i1 0).toNatClampNeg)) M).bind fun x3 =>
  bnd (mR M 7 i1 13) fun r5 =>
  Option.bind (fX5_stepBack_l19 i1 x3 FU r5 M) fun M17 =>
  bnd (mR M17 7 i1 11) fun r18 =>
  Option.bind (fX5_stepBack_l53 i1 x3 FU r18 M17) fun M30 =>
  chk (inb (mI M30 7 i1 0) (mN M30 604 0)) <|
  bnd (sI M30 604 0 ((mI M30 7 i1 0).toNatClampNeg) x3) fun M32 =>
  bnd (mI M32 7 i1 0) fun x33 =>
  chk (inb x33 (mN M32 603 0)) <|
  chk (inb x33 (mN M32 603 0)) <|
  bnd (sI M32 603 0 (x33.toNatClampNeg) ((mI M32 603 0 (x33.toNatClampNeg)) + 1)) fun M36 =>
  bnd (sI M36 5 0 6 ((mI M36 5 0 6) + 1)) fun M37 =>
  bnd (sI M37 5 0 8 ((mI M37 5 0 8) - 1)) fun M38 =>
  some M38
set_option maxHeartbeats 4000000 in
set_option maxRecDepth 100000 in
theorem okX5_stepBack_l19 {g : tG} (z1 : Nat) (z2 : Int32) {r : Option tV} {Mz : tM} : ∀ (n : Nat) (y3 : Option Nat) (M : tM) (w : tM), fX5_stepBack_l19 z1 z2 n y3 M = some w → (∀ (Mw : tM), Mw = w → TW g iX5_stepBack rmX5_stepBack 0 0 r Mz 0 0 48 [(0, tr 5 0), (1, tr 7 z1), (2, ti z2)] [] Mw) → TW g iX5_stepBack rmX5_stepBack 0 0 r Mz 0 0 19 [(0, tr 5 0), (1, tr 7 z1), (2, ti z2), (3, tq 4 y3)] [] M := by
  intro n
  induction n with
  | zero => intro y3 M w h; cases h
  | succ n ih =>
    intro y3 M w h J
    rw [fX5_stepBack_l19] at h
    refine tm_aload_n dX5_stepBack_19 rfl rfl ?_
    refine tm_ifnull (k2 := 4) (q := y3) (tgt := 48) dX5_stepBack_20 (by decide) (fun c6 => ?_) (fun c6 => ?_)
    · rw [if_pos c6] at h
      obtain rfl := Option.some.inj h
      refine tm_lcp [0, 1, 2] rfl ?_
      exact J _ rfl
    · rw [if_neg c6] at h
      refine tm_aload_n dX5_stepBack_23 rfl rfl ?_
      refine tm_get kX5 rfl (j := 1) (by decide) wfX5_9 dX5_stepBack_24 (v := tr 601 0) rfl ?_
      refine tm_aload_n dX5_stepBack_27 rfl rfl ?_
      replace h := obind_some h
      obtain ⟨i7, ei7, h⟩ := h
      subst ei7
      refine tm_get kX4 rfl (j := 0) (by decide) wfX5_75 dX5_stepBack_28 (v := ti (mI M 4 i7 0)) rfl ?_
      replace h := bnd_some h
      obtain ⟨x8, ex8, h⟩ := h
      refine tm_nmI ex8 ?_
      refine tm_dup2 dX5_stepBack_31 rfl rfl ?_
      replace h := chk_some h
      obtain ⟨b9, h⟩ := h
      refine tm_iald rfl dX5_stepBack_32 (inb_vp b9) ?_
      refine tm_aload_n dX5_stepBack_33 rfl rfl ?_
      refine tm_iload_n dX5_stepBack_34 rfl rfl ?_
      replace h := obind_some h
      obtain ⟨x10, hc11, h⟩ := h
      refine tm_callV kX4 rfl (avs := [ti z2]) (st := [ti (mI M 601 0 (x8.toNatClampNeg)), ti x8, tr 601 0]) (okX4_givesIn hc11) wcX5_86.1 wcX5_86.2.1 wcX5_86.2.2.1 wcX5_86.2.2.2 ⟨rfl, rfl, Nat.le_of_ble_eq_true rfl, Nat.le_of_ble_eq_true rfl⟩ rfl (Nat.le_of_ble_eq_true rfl) ⟨Nat.zero_le _, Nat.zero_le _⟩ dX5_stepBack_35 ?_
      refine tm_isub dX5_stepBack_38 ?_
      replace h := chk_some h
      obtain ⟨b12, h⟩ := h
      replace h := bnd_some h
      obtain ⟨M13, eM13, h⟩ := h
      refine tm_iast rfl dX5_stepBack_39 (inb_vp b12) ?_
      refine tm_nmM eM13 ?_
      refine tm_aload_n dX5_stepBack_40 rfl rfl ?_
      refine tm_get kX4 rfl (j := 13) (by decide) wfX5_89 dX5_stepBack_41 (v := tq 4 (mR M13 4 i7 13)) rfl ?_
      replace h := bnd_some h
      obtain ⟨r14, er14, h⟩ := h
      refine tm_nmQ er14 ?_
      refine tm_astore_n (lc' := [(3, tq 4 r14), (0, tr 5 0), (1, tr 7 z1), (2, ti z2)]) dX5_stepBack_44 rfl (by decide) rfl ?_
      refine tm_goto (tgt := 19) dX5_stepBack_45 (by decide) ?_
      refine tm_lcp [0, 1, 2, 3] rfl ?_
      exact ih r14 M13 _ h J
set_option maxHeartbeats 4000000 in
set_option maxRecDepth 100000 in
theorem okX5_stepBack_l53 {g : tG} (z1 : Nat) (z2 : Int32) {r : Option tV} {Mz : tM} : ∀ (n : Nat) (y3 : Option Nat) (M : tM) (w : tM), fX5_stepBack_l53 z1 z2 n y3 M = some w → (∀ (Mw : tM), Mw = w → TW g iX5_stepBack rmX5_stepBack 0 0 r Mz 0 0 82 [(0, tr 5 0), (1, tr 7 z1), (2, ti z2)] [] Mw) → TW g iX5_stepBack rmX5_stepBack 0 0 r Mz 0 0 53 [(0, tr 5 0), (1, tr 7 z1), (2, ti z2), (3, tq 4 y3)] [] M := by
  intro n
  induction n with
  | zero => intro y3 M w h; cases h
  | succ n ih =>
    intro y3 M w h J
    rw [fX5_stepBack_l53] at h
    refine tm_aload_n dX5_stepBack_53 rfl rfl ?_
    refine tm_ifnull (k2 := 4) (q := y3) (tgt := 82) dX5_stepBack_54 (by decide) (fun c19 => ?_) (fun c19 => ?_)
    · rw [if_pos c19] at h
      obtain rfl := Option.some.inj h
      refine tm_lcp [0, 1, 2] rfl ?_
      exact J _ rfl
    · rw [if_neg c19] at h
      refine tm_aload_n dX5_stepBack_57 rfl rfl ?_
      refine tm_get kX5 rfl (j := 1) (by decide) wfX5_9 dX5_stepBack_58 (v := tr 601 0) rfl ?_
      refine tm_aload_n dX5_stepBack_61 rfl rfl ?_
      replace h := obind_some h
      obtain ⟨i20, ei20, h⟩ := h
      subst ei20
      refine tm_get kX4 rfl (j := 0) (by decide) wfX5_75 dX5_stepBack_62 (v := ti (mI M 4 i20 0)) rfl ?_
      replace h := bnd_some h
      obtain ⟨x21, ex21, h⟩ := h
      refine tm_nmI ex21 ?_
      refine tm_dup2 dX5_stepBack_65 rfl rfl ?_
      replace h := chk_some h
      obtain ⟨b22, h⟩ := h
      refine tm_iald rfl dX5_stepBack_66 (inb_vp b22) ?_
      refine tm_aload_n dX5_stepBack_67 rfl rfl ?_
      refine tm_iload_n dX5_stepBack_68 rfl rfl ?_
      replace h := obind_some h
      obtain ⟨x23, hc24, h⟩ := h
      refine tm_callV kX4 rfl (avs := [ti z2]) (st := [ti (mI M 601 0 (x21.toNatClampNeg)), ti x21, tr 601 0]) (okX4_takesIn hc24) wcX5_76.1 wcX5_76.2.1 wcX5_76.2.2.1 wcX5_76.2.2.2 ⟨rfl, rfl, Nat.le_of_ble_eq_true rfl, Nat.le_of_ble_eq_true rfl⟩ rfl (Nat.le_of_ble_eq_true rfl) ⟨Nat.zero_le _, Nat.zero_le _⟩ dX5_stepBack_69 ?_
      refine tm_iadd dX5_stepBack_72 ?_
      replace h := chk_some h
      obtain ⟨b25, h⟩ := h
      replace h := bnd_some h
      obtain ⟨M26, eM26, h⟩ := h
      refine tm_iast rfl dX5_stepBack_73 (inb_vp b25) ?_
      refine tm_nmM eM26 ?_
      refine tm_aload_n dX5_stepBack_74 rfl rfl ?_
      refine tm_get kX4 rfl (j := 12) (by decide) wfX5_80 dX5_stepBack_75 (v := tq 4 (mR M26 4 i20 12)) rfl ?_
      replace h := bnd_some h
      obtain ⟨r27, er27, h⟩ := h
      refine tm_nmQ er27 ?_
      refine tm_astore_n (lc' := [(3, tq 4 r27), (0, tr 5 0), (1, tr 7 z1), (2, ti z2)]) dX5_stepBack_78 rfl (by decide) rfl ?_
      refine tm_goto (tgt := 53) dX5_stepBack_79 (by decide) ?_
      refine tm_lcp [0, 1, 2, 3] rfl ?_
      exact ih r27 M26 _ h J
set_option maxHeartbeats 4000000 in
set_option maxRecDepth 100000 in
theorem okX5_stepBack {g : tG} {a1 : Option Nat} {M : tM} {Mz : tM} (h : fX5_stepBack a1 M = some Mz) : TMet g yX5_stepBack (Cond.code yX5_stepBack cX5_stepBack 4 (none) :: tgd) rmX5_stepBack [tr 5 0, tq 7 a1] M none Mz 0 0 := by
  have key : TW g iX5_stepBack rmX5_stepBack 0 0 none Mz 0 0 0 [(0, tr 5 0), (1, tq 7 a1)] [] M := by
    rw [fX5_stepBack] at h
    refine tm_aload_n dX5_stepBack_0 rfl rfl ?_
    refine tm_aload_n dX5_stepBack_1 rfl rfl ?_
    refine tm_get kX5 rfl (j := 4) (by decide) wfX5_21 dX5_stepBack_2 (v := tr 604 0) rfl ?_
    refine tm_aload_n dX5_stepBack_5 rfl rfl ?_
    replace h := obind_some h
    obtain ⟨i1, ei1, h⟩ := h
    subst ei1
    refine tm_get kX7 rfl (j := 0) (by decide) wfX5_68 dX5_stepBack_6 (v := ti (mI M 7 i1 0)) rfl ?_
    replace h := chk_some h
    obtain ⟨b2, h⟩ := h
    refine tm_iald rfl dX5_stepBack_9 (inb_vp b2) ?_
    replace h := obind_some h
    obtain ⟨x3, hc4, h⟩ := h
    refine tm_callV kX7 rfl (avs := [ti (mI M 604 0 ((mI M 7 i1 0).toNatClampNeg))]) (st := []) (okX7_phaseAhead hc4) wcX5_95.1 wcX5_95.2.1 wcX5_95.2.2.1 wcX5_95.2.2.2 ⟨rfl, rfl, Nat.le_of_ble_eq_true rfl, Nat.le_of_ble_eq_true rfl⟩ rfl (Nat.le_of_ble_eq_true rfl) ⟨Nat.zero_le _, Nat.zero_le _⟩ dX5_stepBack_10 ?_
    refine tm_istore_n (lc' := [(2, ti x3), (0, tr 5 0), (1, tr 7 i1)]) dX5_stepBack_13 rfl (by decide) rfl ?_
    refine tm_aload_n dX5_stepBack_14 rfl rfl ?_
    refine tm_get kX7 rfl (j := 13) (by decide) wfX5_83 dX5_stepBack_15 (v := tq 4 (mR M 7 i1 13)) rfl ?_
    replace h := bnd_some h
    obtain ⟨r5, er5, h⟩ := h
    refine tm_nmQ er5 ?_
    refine tm_astore_n (lc' := [(3, tq 4 r5), (2, ti x3), (0, tr 5 0), (1, tr 7 i1)]) dX5_stepBack_18 rfl (by decide) rfl ?_
    replace h := obind_some h
    obtain ⟨w15, hE16, h⟩ := h
    refine tm_lcp [0, 1, 2, 3] rfl ?_
    refine okX5_stepBack_l19 i1 x3 FU r5 M _ hE16 (fun M17 e => ?_)
    subst e
    refine tm_aload_n dX5_stepBack_48 rfl rfl ?_
    refine tm_get kX7 rfl (j := 11) (by decide) wfX5_71 dX5_stepBack_49 (v := tq 4 (mR M17 7 i1 11)) rfl ?_
    replace h := bnd_some h
    obtain ⟨r18, er18, h⟩ := h
    refine tm_nmQ er18 ?_
    refine tm_astore_n (lc' := [(3, tq 4 r18), (0, tr 5 0), (1, tr 7 i1), (2, ti x3)]) dX5_stepBack_52 rfl (by decide) rfl ?_
    replace h := obind_some h
    obtain ⟨w28, hE29, h⟩ := h
    refine tm_lcp [0, 1, 2, 3] rfl ?_
    refine okX5_stepBack_l53 i1 x3 FU r18 M17 _ hE29 (fun M30 e => ?_)
    subst e
    refine tm_aload_n dX5_stepBack_82 rfl rfl ?_
    refine tm_get kX5 rfl (j := 4) (by decide) wfX5_21 dX5_stepBack_83 (v := tr 604 0) rfl ?_
    refine tm_aload_n dX5_stepBack_86 rfl rfl ?_
    refine tm_get kX7 rfl (j := 0) (by decide) wfX5_68 dX5_stepBack_87 (v := ti (mI M30 7 i1 0)) rfl ?_
    refine tm_iload_n dX5_stepBack_90 rfl rfl ?_
    replace h := chk_some h
    obtain ⟨b31, h⟩ := h
    replace h := bnd_some h
    obtain ⟨M32, eM32, h⟩ := h
    refine tm_iast rfl dX5_stepBack_91 (inb_vp b31) ?_
    refine tm_nmM eM32 ?_
    refine tm_aload_n dX5_stepBack_92 rfl rfl ?_
    refine tm_get kX5 rfl (j := 3) (by decide) wfX5_18 dX5_stepBack_93 (v := tr 603 0) rfl ?_
    refine tm_aload_n dX5_stepBack_96 rfl rfl ?_
    refine tm_get kX7 rfl (j := 0) (by decide) wfX5_68 dX5_stepBack_97 (v := ti (mI M32 7 i1 0)) rfl ?_
    replace h := bnd_some h
    obtain ⟨x33, ex33, h⟩ := h
    refine tm_nmI ex33 ?_
    refine tm_dup2 dX5_stepBack_100 rfl rfl ?_
    replace h := chk_some h
    obtain ⟨b34, h⟩ := h
    refine tm_iald rfl dX5_stepBack_101 (inb_vp b34) ?_
    refine tm_iconst (v := 1) dX5_stepBack_102 (by decide) ?_
    refine tm_iadd dX5_stepBack_103 ?_
    replace h := chk_some h
    obtain ⟨b35, h⟩ := h
    replace h := bnd_some h
    obtain ⟨M36, eM36, h⟩ := h
    refine tm_iast rfl dX5_stepBack_104 (inb_vp b35) ?_
    refine tm_nmM eM36 ?_
    refine tm_aload_n dX5_stepBack_105 rfl rfl ?_
    refine tm_dup dX5_stepBack_106 rfl ?_
    refine tm_get kX5 rfl (j := 6) (by decide) wfX5_40 dX5_stepBack_107 (v := ti (mI M36 5 0 6)) rfl ?_
    refine tm_iconst (v := 1) dX5_stepBack_110 (by decide) ?_
    refine tm_iadd dX5_stepBack_111 ?_
    replace h := bnd_some h
    obtain ⟨M37, eM37, h⟩ := h
    refine tm_put kX5 rfl (j := 6) (by decide) wfX5_40 rfl dX5_stepBack_112 (fun _ => ⟨rfl, rfl⟩) (tPut_I ((mI M36 5 0 6) + 1) rfl) ?_
    refine tm_nmM eM37 ?_
    refine tm_aload_n dX5_stepBack_115 rfl rfl ?_
    refine tm_dup dX5_stepBack_116 rfl ?_
    refine tm_get kX5 rfl (j := 8) (by decide) wfX5_31 dX5_stepBack_117 (v := ti (mI M37 5 0 8)) rfl ?_
    refine tm_iconst (v := 1) dX5_stepBack_120 (by decide) ?_
    refine tm_isub dX5_stepBack_121 ?_
    replace h := bnd_some h
    obtain ⟨M38, eM38, h⟩ := h
    refine tm_put kX5 rfl (j := 8) (by decide) wfX5_31 rfl dX5_stepBack_122 (fun _ => ⟨rfl, rfl⟩) (tPut_I ((mI M37 5 0 8) - 1) rfl) ?_
    refine tm_nmM eM38 ?_
    obtain rfl := Option.some.inj h
    exact tm_vret rfl dX5_stepBack_125
  exact TMet.of (by decide) (Nat.le_of_ble_eq_true rfl) key
