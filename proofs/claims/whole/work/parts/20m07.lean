theorem wcX11_333 : tCB RX11 333 yX11_unfireMark cX11_unfireMark 3 (none) 1 ∧ Cond.methodLink RX11 333 yX11_unfireMark ∈ tgd ∧ Cond.instanceMethod yX11_unfireMark ∈ tgd ∧ Cond.selects RX11 yX11_unfireMark yX11_unfireMark ∈ tgd := ⟨⟨(tgd_t 1657 (by decide +kernel) (by decide +kernel)), (tgd_t 10 (by decide +kernel) (by decide +kernel)), by decide, by decide +kernel⟩, (tgd_t 1654 (by decide +kernel) (by decide +kernel)), (tgd_t 1656 (by decide +kernel) (by decide +kernel)), (tgd_p 81 (by decide +kernel) (by decide +kernel))⟩
theorem wcX11_336 : tCB RX11 336 yX11_bringStores cX11_bringStores 3 (none) 1 ∧ Cond.methodLink RX11 336 yX11_bringStores ∈ tgd ∧ Cond.instanceMethod yX11_bringStores ∈ tgd ∧ Cond.selects RX11 yX11_bringStores yX11_bringStores ∈ tgd := ⟨⟨(tgd_t 1661 (by decide +kernel) (by decide +kernel)), (tgd_t 10 (by decide +kernel) (by decide +kernel)), by decide, by decide +kernel⟩, (tgd_t 1658 (by decide +kernel) (by decide +kernel)), (tgd_t 1660 (by decide +kernel) (by decide +kernel)), (tgd_p 82 (by decide +kernel) (by decide +kernel))⟩
theorem wcX11_339 : tCB RX11 339 yX11_keepStores cX11_keepStores 3 (none) 1 ∧ Cond.methodLink RX11 339 yX11_keepStores ∈ tgd ∧ Cond.instanceMethod yX11_keepStores ∈ tgd ∧ Cond.selects RX11 yX11_keepStores yX11_keepStores ∈ tgd := ⟨⟨(tgd_t 1665 (by decide +kernel) (by decide +kernel)), (tgd_t 10 (by decide +kernel) (by decide +kernel)), by decide, by decide +kernel⟩, (tgd_t 1662 (by decide +kernel) (by decide +kernel)), (tgd_t 1664 (by decide +kernel) (by decide +kernel)), (tgd_p 83 (by decide +kernel) (by decide +kernel))⟩
theorem wcX11_342 : tCB RX11 342 yX11_keepBest cX11_keepBest 2 (none) 0 ∧ Cond.methodLink RX11 342 yX11_keepBest ∈ tgd ∧ Cond.instanceMethod yX11_keepBest ∈ tgd ∧ Cond.selects RX11 yX11_keepBest yX11_keepBest ∈ tgd := ⟨⟨(tgd_t 1669 (by decide +kernel) (by decide +kernel)), (tgd_t 10 (by decide +kernel) (by decide +kernel)), by decide, by decide +kernel⟩, (tgd_t 1666 (by decide +kernel) (by decide +kernel)), (tgd_t 1668 (by decide +kernel) (by decide +kernel)), (tgd_p 84 (by decide +kernel) (by decide +kernel))⟩
theorem wconstX11_332 : Cond.constant RX11 332 2000000000 ∈ tgd := (tgd_t 1653 (by decide +kernel) (by decide +kernel))
theorem wfX11_129 : Cond.fieldLink RX11 129 "EvenFlowModel" "next" "[I" ∈ tgd := (tgd_t 1274 (by decide +kernel) (by decide +kernel))
theorem wfX11_329 : Cond.fieldLink RX11 329 "EvenFlowModel" "tries" "I" ∈ tgd := (tgd_t 1273 (by decide +kernel) (by decide +kernel))
abbrev iX11_least : tY := (RX11, cX11_least, 7, some .int, "least")
abbrev rmX11_least : Room := { frames := 5, cells := 0, slots := 0, locals := 146 }
def fX11_least_l92 (z1 : Int32) : Nat → Int32 → Int32 → tM → Option ((Int32 × tM) ⊕ (tM))
  | 0, _, _, _ => none
  | n + 1, y3, y4, M =>
    if y4 < 0 then (
    some (Sum.inr M)
    ) else (
    chk (inb y4 (mN M 1249 0)) <|
    if (mI M 1249 0 (y4.toNatClampNeg)) = (mI M 11 0 2) then (
    bnd (y4 + (-1)) fun x70 =>
    if x70 < 0 then (
    fX11_least_l92 z1 n y3 x70 M
    ) else (
    chk (inb x70 (mN M 1250 0)) <|
    (fX11_unfireMark (mI M 1250 0 (x70.toNatClampNeg)) M).bind fun M74 =>
    (fX11_bringStores x70 M74).bind fun M76 =>
    fX11_least_l92 z1 n y3 x70 M76
    )
    ) else (
    chk (inb y4 (mN M 1249 0)) <|
    bnd (mI M 1249 0 (y4.toNatClampNeg)) fun x26 =>
    chk (inb y4 (mN M 1249 0)) <|
    chk (inb y4 (mN M 1249 0)) <|
    bnd (sI M 1249 0 (y4.toNatClampNeg) ((mI M 1249 0 (y4.toNatClampNeg)) + 1)) fun M29 =>
    chk (inb x26 (mN M29 1240 0)) <|
    if (mI M29 1240 0 (x26.toNatClampNeg)) = 0 then (
    fX11_least_l92 z1 n y3 y4 M29
    ) else (
    (fX11_mayMark x26 M29).bind fun x32 =>
    if x32 = 0 then (
    fX11_least_l92 z1 n y3 y4 M29
    ) else (
    if (mI M29 11 0 48) = z1 then (
    some (Sum.inl (((-6), M29)))
    ) else (
    bnd (sI M29 11 0 48 ((mI M29 11 0 48) + 1)) fun M36 =>
    (fX11_keepStores y4 M36).bind fun M38 =>
    chk (inb y4 (mN M38 1250 0)) <|
    bnd (sI M38 1250 0 (y4.toNatClampNeg) x26) fun M40 =>
    (fX11_fireMark x26 M40).bind fun M42 =>
    (fX11_storeMore M42).bind fun M44 =>
    (fX11_stored M44).bind fun x45 =>
    Option.bind (α := Int32) (
    if y3 ≤ x45 then (
    some 0
    ) else (
    some 1
    )
    ) fun x48 =>
    Option.bind (α := Int32 × tM) (
    if x48 = 0 then (
    some ((y3, M44))
    ) else (
    if (y4 + 1) = (mI M44 11 0 36) then (
    (fX11_stored M44).bind fun x53 =>
    (fX11_keepBest M44).bind fun M56 =>
    some ((x53, M56))
    ) else (
    some ((y3, M44))
    )
    )
    ) fun (x52, M53) =>
    Option.bind (α := Int32 × tM) (
    if x48 = 0 then (
    (fX11_unfireMark x26 M53).bind fun M59 =>
    (fX11_bringStores y4 M59).bind fun M61 =>
    some ((y4, M61))
    ) else (
    if (mI M53 11 0 36) ≤ (y4 + 1) then (
    (fX11_unfireMark x26 M53).bind fun M64 =>
    (fX11_bringStores y4 M64).bind fun M66 =>
    some ((y4, M66))
    ) else (
    bnd (y4 + 1) fun x67 =>
    chk (inb x67 (mN M53 1249 0)) <|
    bnd (sI M53 1249 0 (x67.toNatClampNeg) 0) fun M69 =>
    some ((x67, M69))
    )
    )
    ) fun (x58, M59) =>
    fX11_least_l92 z1 n x52 x58 M59
    )
    )
    )
    )
    )
def fX11_least_l315  : Nat → Int32 → tM → Option (tM)
  | 0, _, _ => none
  | n + 1, y5, M =>
    if (mI M 11 0 36) ≤ y5 then (
    some M
    ) else (
    chk (inb y5 (mN M 1252 0)) <|
    chk (inb y5 (mN M 1245 0)) <|
    bnd (sI M 1245 0 (y5.toNatClampNeg) (mI M 1252 0 (y5.toNatClampNeg))) fun M83 =>
    bnd (y5 + 1) fun x84 =>
    fX11_least_l315 n x84 M83
    )
def fX11_least_l347  : Nat → Int32 → tM → Option (tM)
  | 0, _, _ => none
  | n + 1, y5, M =>
    if (mI M 11 0 12) ≤ y5 then (
    some M
    ) else (
    chk (inb y5 (mN M 1253 0)) <|
    chk (inb y5 (mN M 1246 0)) <|
    bnd (sI M 1246 0 (y5.toNatClampNeg) (mI M 1253 0 (y5.toNatClampNeg))) fun M91 =>
    bnd (y5 + 1) fun x92 =>
    fX11_least_l347 n x92 M91
    )
def fX11_least (a1 : Int32) (M : tM) : Option (Int32 × tM) :=
  (fX11_in a1 1 20000 M).bind fun x1 =>
  if x1 = 0 then (
  some (((-1), M))
  ) else (
  if (mI M 11 0 2) = 0 then (
  some (((-4), M))
  ) else (
  if (mI M 11 0 2) ≤ 8 then (
  (fX11_barred 0 M).bind fun (x6, M8) =>
  if 0 ≤ x6 then (
  if 40 < (mI M8 11 0 36) then (
  some (((-4), M8))
  ) else (
  (fX11_isStuck 0 M8).bind fun (x11, M13) =>
  if x11 = 0 then (
  (fX11_markFirst 0 M13).bind fun M16 =>
  (fX11_storeFirst M16).bind fun M18 =>
  bnd (sI M18 11 0 48 0) fun M19 =>
  chk (inb 0 (mN M19 1249 0)) <|
  bnd (sI M19 1249 0 ((0 : Int32).toNatClampNeg) 0) fun M21 =>
  Option.bind (fX11_least_l92 a1 FU 2000000000 0 M21) fun w77 => match w77 with
  | Sum.inl q99 => some q99
  | Sum.inr M79 =>
    Option.bind (fX11_least_l315 FU 0 M79) fun M87 =>
    Option.bind (fX11_least_l347 FU 0 M87) fun M95 =>
    (fX11_settle (mI M95 11 0 36) M95).bind fun (x96, M98) =>
    some ((x96, M98))
  ) else (
  some (((-4), M13))
  )
  )
  ) else (
  some ((x6, M8))
  )
  ) else (
  some (((-4), M))
  )
  )
  )
set_option maxHeartbeats 4000000 in
set_option maxRecDepth 100000 in
theorem okX11_least_l92 {g : tG} (z1 : Int32) {r : Option tV} {Mz : tM} : ∀ (n : Nat) (y3 : Int32) (y4 : Int32) (M : tM) (w : (Int32 × tM) ⊕ (tM)), fX11_least_l92 z1 n y3 y4 M = some w → (∀ (Mw : tM), Sum.inr Mw = w → TW g iX11_least rmX11_least 0 0 r Mz 0 0 312 [(0, tr 11 0)] [] Mw) → (∀ (v : Int32) (Mv : tM), Sum.inl ((v, Mv)) = w → r = (some (ti v)) ∧ Mz = Mv) → TW g iX11_least rmX11_least 0 0 r Mz 0 0 92 [(0, tr 11 0), (1, ti z1), (3, ti y3), (4, ti y4)] [] M := by
  intro n
  induction n with
  | zero => intro y3 y4 M w h; cases h
  | succ n ih =>
    intro y3 y4 M w h J JR
    rw [fX11_least_l92] at h
    refine tm_iload dX11_least_92 rfl ?_
    refine tm_if_lt (tgt := 312) dX11_least_94 (by decide) (fun c22 => ?_) (fun c22 => ?_)
    · rw [if_pos c22] at h
      obtain rfl := Option.some.inj h
      refine tm_lcp [0] rfl ?_
      exact J _ rfl
    · rw [if_neg c22] at h
      refine tm_aload_n dX11_least_97 rfl rfl ?_
      refine tm_get kX11 rfl (j := 49) (by decide) wfX11_129 dX11_least_98 (v := tr 1249 0) rfl ?_
      refine tm_iload dX11_least_101 rfl ?_
      obtain ⟨b23, h⟩ := chk_some h
      refine tm_iald rfl dX11_least_103 (inb_vp b23) ?_
      refine tm_aload_n dX11_least_104 rfl rfl ?_
      refine tm_get kX11 rfl (j := 2) (by decide) wfX11_202 dX11_least_105 (v := ti (mI M 11 0 2)) rfl ?_
      refine tm_icmp_ne (tgt := 139) dX11_least_108 (by decide) (fun c24 => ?_) (fun c24 => ?_)
      · rw [if_neg c24] at h
        refine tm_aload_n dX11_least_139 rfl rfl ?_
        refine tm_get kX11 rfl (j := 49) (by decide) wfX11_129 dX11_least_140 (v := tr 1249 0) rfl ?_
        refine tm_iload dX11_least_143 rfl ?_
        obtain ⟨b25, h⟩ := chk_some h
        refine tm_iald rfl dX11_least_145 (inb_vp b25) ?_
        obtain ⟨x26, ex26, h⟩ := bnd_some h
        refine tm_nmI ex26 ?_
        refine tm_istore (lc' := [(5, ti x26), (0, tr 11 0), (1, ti z1), (3, ti y3), (4, ti y4)]) dX11_least_146 (by decide) rfl ?_
        refine tm_aload_n dX11_least_148 rfl rfl ?_
        refine tm_get kX11 rfl (j := 49) (by decide) wfX11_129 dX11_least_149 (v := tr 1249 0) rfl ?_
        refine tm_iload dX11_least_152 rfl ?_
        refine tm_dup2 dX11_least_154 rfl rfl ?_
        obtain ⟨b27, h⟩ := chk_some h
        refine tm_iald rfl dX11_least_155 (inb_vp b27) ?_
        refine tm_iconst (v := 1) dX11_least_156 (by decide) ?_
        refine tm_iadd dX11_least_157 ?_
        obtain ⟨b28, h⟩ := chk_some h
        obtain ⟨M29, eM29, h⟩ := bnd_some h
        refine tm_iast rfl dX11_least_158 (inb_vp b28) ?_
        refine tm_nmM eM29 ?_
        refine tm_aload_n dX11_least_159 rfl rfl ?_
        refine tm_get kX11 rfl (j := 40) (by decide) wfX11_104 dX11_least_160 (v := tr 1240 0) rfl ?_
        refine tm_iload dX11_least_163 rfl ?_
        obtain ⟨b30, h⟩ := chk_some h
        refine tm_iald rfl dX11_least_165 (inb_vp b30) ?_
        refine tm_if_eq (tgt := 92) dX11_least_166 (by decide) (fun c31 => ?_) (fun c31 => ?_)
        · rw [if_pos c31] at h
          refine tm_lcp [0, 1, 3, 4] rfl ?_
          exact ih y3 y4 M29 _ h J JR
        · rw [if_neg c31] at h
          refine tm_aload_n dX11_least_169 rfl rfl ?_
          refine tm_iload dX11_least_170 rfl ?_
          obtain ⟨x32, hc33, h⟩ := obind_some h
          refine tm_callV kX11 rfl (avs := [ti x26]) (st := []) (okX11_mayMark hc33) wcX11_283.1 wcX11_283.2.1 wcX11_283.2.2.1 wcX11_283.2.2.2 ⟨rfl, rfl, Nat.le_of_ble_eq_true rfl, Nat.le_of_ble_eq_true rfl⟩ rfl (Nat.le_of_ble_eq_true rfl) ⟨Nat.zero_le _, Nat.zero_le _⟩ dX11_least_172 ?_
          refine tm_if_ne (tgt := 181) dX11_least_175 (by decide) (fun c34 => ?_) (fun c34 => ?_)
          · rw [if_neg c34] at h
            refine tm_aload_n dX11_least_181 rfl rfl ?_
            refine tm_get kX11 rfl (j := 48) (by decide) wfX11_329 dX11_least_182 (v := ti (mI M29 11 0 48)) rfl ?_
            refine tm_iload_n dX11_least_185 rfl rfl ?_
            refine tm_icmp_ne (tgt := 192) dX11_least_186 (by decide) (fun c35 => ?_) (fun c35 => ?_)
            · rw [if_neg c35] at h
              refine tm_aload_n dX11_least_192 rfl rfl ?_
              refine tm_dup dX11_least_193 rfl ?_
              refine tm_get kX11 rfl (j := 48) (by decide) wfX11_329 dX11_least_194 (v := ti (mI M29 11 0 48)) rfl ?_
              refine tm_iconst (v := 1) dX11_least_197 (by decide) ?_
              refine tm_iadd dX11_least_198 ?_
              obtain ⟨M36, eM36, h⟩ := bnd_some h
              refine tm_put kX11 rfl (j := 48) (by decide) wfX11_329 rfl dX11_least_199 (fun _ => ⟨rfl, rfl⟩) (tPut_I ((mI M29 11 0 48) + 1) rfl) ?_
              refine tm_nmM eM36 ?_
              refine tm_aload_n dX11_least_202 rfl rfl ?_
              refine tm_iload dX11_least_203 rfl ?_
              obtain ⟨M38, hc37, h⟩ := obind_some h
              refine tm_callV kX11 rfl (avs := [ti y4]) (st := []) (okX11_keepStores hc37) wcX11_339.1 wcX11_339.2.1 wcX11_339.2.2.1 wcX11_339.2.2.2 ⟨rfl, rfl, Nat.le_of_ble_eq_true rfl, Nat.le_of_ble_eq_true rfl⟩ rfl (Nat.le_of_ble_eq_true rfl) ⟨Nat.zero_le _, Nat.zero_le _⟩ dX11_least_205 ?_
              refine tm_aload_n dX11_least_208 rfl rfl ?_
              refine tm_get kX11 rfl (j := 50) (by decide) wfX11_132 dX11_least_209 (v := tr 1250 0) rfl ?_
              refine tm_iload dX11_least_212 rfl ?_
              refine tm_iload dX11_least_214 rfl ?_
              obtain ⟨b39, h⟩ := chk_some h
              obtain ⟨M40, eM40, h⟩ := bnd_some h
              refine tm_iast rfl dX11_least_216 (inb_vp b39) ?_
              refine tm_nmM eM40 ?_
              refine tm_aload_n dX11_least_217 rfl rfl ?_
              refine tm_iload dX11_least_218 rfl ?_
              obtain ⟨M42, hc41, h⟩ := obind_some h
              refine tm_callV kX11 rfl (avs := [ti x26]) (st := []) (okX11_fireMark hc41) wcX11_293.1 wcX11_293.2.1 wcX11_293.2.2.1 wcX11_293.2.2.2 ⟨rfl, rfl, Nat.le_of_ble_eq_true rfl, Nat.le_of_ble_eq_true rfl⟩ rfl (Nat.le_of_ble_eq_true rfl) ⟨Nat.zero_le _, Nat.zero_le _⟩ dX11_least_220 ?_
              refine tm_aload_n dX11_least_223 rfl rfl ?_
              obtain ⟨M44, hc43, h⟩ := obind_some h
              refine tm_callV kX11 rfl (avs := []) (st := []) (okX11_storeMore hc43) wcX11_323.1 wcX11_323.2.1 wcX11_323.2.2.1 wcX11_323.2.2.2 ⟨rfl, rfl, Nat.le_of_ble_eq_true rfl, Nat.le_of_ble_eq_true rfl⟩ rfl (Nat.le_of_ble_eq_true rfl) ⟨Nat.zero_le _, Nat.zero_le _⟩ dX11_least_224 ?_
              refine tm_aload_n dX11_least_227 rfl rfl ?_
              obtain ⟨x45, hc46, h⟩ := obind_some h
              refine tm_callV kX11 rfl (avs := []) (st := []) (okX11_stored hc46) wcX11_311.1 wcX11_311.2.1 wcX11_311.2.2.1 wcX11_311.2.2.2 ⟨rfl, rfl, Nat.le_of_ble_eq_true rfl, Nat.le_of_ble_eq_true rfl⟩ rfl (Nat.le_of_ble_eq_true rfl) ⟨Nat.zero_le _, Nat.zero_le _⟩ dX11_least_228 ?_
              refine tm_iload_n dX11_least_231 rfl rfl ?_
              obtain ⟨x48, hE49, h⟩ := obind_some h
              have J50 : TW g iX11_least rmX11_least 0 0 r Mz 0 0 240 [(0, tr 11 0), (1, ti z1), (3, ti y3), (4, ti y4), (5, ti x26)] [ti x48] M44 := by
                refine tm_istore (lc' := [(6, ti x48), (0, tr 11 0), (1, ti z1), (3, ti y3), (4, ti y4), (5, ti x26)]) dX11_least_240 (by decide) rfl ?_
                refine tm_iload dX11_least_242 rfl ?_
                obtain ⟨⟨x52, M53⟩, hE54, h⟩ := obind_some h
                dsimp only at h
                have J55 : TW g iX11_least rmX11_least 0 0 r Mz 0 0 267 [(0, tr 11 0), (1, ti z1), (3, ti x52), (4, ti y4), (5, ti x26), (6, ti x48)] [] M53 := by
                  refine tm_iload dX11_least_267 rfl ?_
                  obtain ⟨⟨x58, M59⟩, hE60, h⟩ := obind_some h
                  dsimp only at h
                  have J61 : TW g iX11_least rmX11_least 0 0 r Mz 0 0 309 [(0, tr 11 0), (1, ti z1), (3, ti x52), (4, ti x58)] [] M59 := by
                    refine tm_goto (tgt := 92) dX11_least_309 (by decide) ?_
                    refine tm_lcp [0, 1, 3, 4] rfl ?_
                    exact ih x52 x58 M59 _ h J JR
                  refine tm_if_eq (tgt := 297) dX11_least_269 (by decide) (fun c57 => ?_) (fun c57 => ?_)
                  · rw [if_pos c57] at hE60
                    refine tm_aload_n dX11_least_297 rfl rfl ?_
                    refine tm_iload dX11_least_298 rfl ?_
                    obtain ⟨M59, hc58, hE60⟩ := obind_some hE60
                    refine tm_callV kX11 rfl (avs := [ti x26]) (st := []) (okX11_unfireMark hc58) wcX11_333.1 wcX11_333.2.1 wcX11_333.2.2.1 wcX11_333.2.2.2 ⟨rfl, rfl, Nat.le_of_ble_eq_true rfl, Nat.le_of_ble_eq_true rfl⟩ rfl (Nat.le_of_ble_eq_true rfl) ⟨Nat.zero_le _, Nat.zero_le _⟩ dX11_least_300 ?_
                    refine tm_aload_n dX11_least_303 rfl rfl ?_
                    refine tm_iload dX11_least_304 rfl ?_
                    obtain ⟨M61, hc60, hE60⟩ := obind_some hE60
                    refine tm_callV kX11 rfl (avs := [ti y4]) (st := []) (okX11_bringStores hc60) wcX11_336.1 wcX11_336.2.1 wcX11_336.2.2.1 wcX11_336.2.2.2 ⟨rfl, rfl, Nat.le_of_ble_eq_true rfl, Nat.le_of_ble_eq_true rfl⟩ rfl (Nat.le_of_ble_eq_true rfl) ⟨Nat.zero_le _, Nat.zero_le _⟩ dX11_least_306 ?_
                    obtain ⟨rfl, rfl⟩ := pj2 hE60
                    refine tm_lcp [0, 1, 3, 4] rfl ?_
                    exact J61
                  · rw [if_neg c57] at hE60
                    refine tm_iload dX11_least_272 rfl ?_
                    refine tm_iconst (v := 1) dX11_least_274 (by decide) ?_
                    refine tm_iadd dX11_least_275 ?_
                    refine tm_aload_n dX11_least_276 rfl rfl ?_
                    refine tm_get kX11 rfl (j := 36) (by decide) wfX11_273 dX11_least_277 (v := ti (mI M53 11 0 36)) rfl ?_
                    refine tm_icmp_ge (tgt := 297) dX11_least_280 (by decide) (fun c62 => ?_) (fun c62 => ?_)
                    · rw [if_pos c62] at hE60
                      refine tm_aload_n dX11_least_297 rfl rfl ?_
                      refine tm_iload dX11_least_298 rfl ?_
                      obtain ⟨M64, hc63, hE60⟩ := obind_some hE60
                      refine tm_callV kX11 rfl (avs := [ti x26]) (st := []) (okX11_unfireMark hc63) wcX11_333.1 wcX11_333.2.1 wcX11_333.2.2.1 wcX11_333.2.2.2 ⟨rfl, rfl, Nat.le_of_ble_eq_true rfl, Nat.le_of_ble_eq_true rfl⟩ rfl (Nat.le_of_ble_eq_true rfl) ⟨Nat.zero_le _, Nat.zero_le _⟩ dX11_least_300 ?_
                      refine tm_aload_n dX11_least_303 rfl rfl ?_
                      refine tm_iload dX11_least_304 rfl ?_
                      obtain ⟨M66, hc65, hE60⟩ := obind_some hE60
                      refine tm_callV kX11 rfl (avs := [ti y4]) (st := []) (okX11_bringStores hc65) wcX11_336.1 wcX11_336.2.1 wcX11_336.2.2.1 wcX11_336.2.2.2 ⟨rfl, rfl, Nat.le_of_ble_eq_true rfl, Nat.le_of_ble_eq_true rfl⟩ rfl (Nat.le_of_ble_eq_true rfl) ⟨Nat.zero_le _, Nat.zero_le _⟩ dX11_least_306 ?_
                      obtain ⟨rfl, rfl⟩ := pj2 hE60
                      refine tm_lcp [0, 1, 3, 4] rfl ?_
                      exact J61
                    · rw [if_neg c62] at hE60
                      obtain ⟨x67, ex67, hE60⟩ := bnd_some hE60
                      refine tm_iinc (v := x67) (lc' := [(4, ti x67), (0, tr 11 0), (1, ti z1), (3, ti x52), (5, ti x26), (6, ti x48)]) dX11_least_283 rfl (by rw [ex67]; rfl) (by decide) rfl ?_
                      refine tm_aload_n dX11_least_286 rfl rfl ?_
                      refine tm_get kX11 rfl (j := 49) (by decide) wfX11_129 dX11_least_287 (v := tr 1249 0) rfl ?_
                      refine tm_iload dX11_least_290 rfl ?_
                      refine tm_iconst (v := 0) dX11_least_292 (by decide) ?_
                      obtain ⟨b68, hE60⟩ := chk_some hE60
                      obtain ⟨M69, eM69, hE60⟩ := bnd_some hE60
                      refine tm_iast rfl dX11_least_293 (inb_vp b68) ?_
                      refine tm_nmM eM69 ?_
                      refine tm_goto (tgt := 309) dX11_least_294 (by decide) ?_
                      obtain ⟨rfl, rfl⟩ := pj2 hE60
                      refine tm_lcp [0, 1, 3, 4] rfl ?_
                      exact J61
                refine tm_if_eq (tgt := 267) dX11_least_244 (by decide) (fun c51 => ?_) (fun c51 => ?_)
                · rw [if_pos c51] at hE54
                  obtain ⟨rfl, rfl⟩ := pj2 hE54
                  refine tm_lcp [0, 1, 3, 4, 5, 6] rfl ?_
                  exact J55
                · rw [if_neg c51] at hE54
                  refine tm_iload dX11_least_247 rfl ?_
                  refine tm_iconst (v := 1) dX11_least_249 (by decide) ?_
                  refine tm_iadd dX11_least_250 ?_
                  refine tm_aload_n dX11_least_251 rfl rfl ?_
                  refine tm_get kX11 rfl (j := 36) (by decide) wfX11_273 dX11_least_252 (v := ti (mI M44 11 0 36)) rfl ?_
                  refine tm_icmp_ne (tgt := 267) dX11_least_255 (by decide) (fun c52 => ?_) (fun c52 => ?_)
                  · rw [if_neg c52] at hE54
                    obtain ⟨rfl, rfl⟩ := pj2 hE54
                    refine tm_lcp [0, 1, 3, 4, 5, 6] rfl ?_
                    exact J55
                  · rw [if_pos c52] at hE54
                    refine tm_aload_n dX11_least_258 rfl rfl ?_
                    obtain ⟨x53, hc54, hE54⟩ := obind_some hE54
                    refine tm_callV kX11 rfl (avs := []) (st := []) (okX11_stored hc54) wcX11_311.1 wcX11_311.2.1 wcX11_311.2.2.1 wcX11_311.2.2.2 ⟨rfl, rfl, Nat.le_of_ble_eq_true rfl, Nat.le_of_ble_eq_true rfl⟩ rfl (Nat.le_of_ble_eq_true rfl) ⟨Nat.zero_le _, Nat.zero_le _⟩ dX11_least_259 ?_
                    refine tm_istore_n (lc' := [(3, ti x53), (6, ti x48), (0, tr 11 0), (1, ti z1), (4, ti y4), (5, ti x26)]) dX11_least_262 rfl (by decide) rfl ?_
                    refine tm_aload_n dX11_least_263 rfl rfl ?_
                    obtain ⟨M56, hc55, hE54⟩ := obind_some hE54
                    refine tm_callV kX11 rfl (avs := []) (st := []) (okX11_keepBest hc55) wcX11_342.1 wcX11_342.2.1 wcX11_342.2.2.1 wcX11_342.2.2.2 ⟨rfl, rfl, Nat.le_of_ble_eq_true rfl, Nat.le_of_ble_eq_true rfl⟩ rfl (Nat.le_of_ble_eq_true rfl) ⟨Nat.zero_le _, Nat.zero_le _⟩ dX11_least_264 ?_
                    obtain ⟨rfl, rfl⟩ := pj2 hE54
                    refine tm_lcp [0, 1, 3, 4, 5, 6] rfl ?_
                    exact J55
              refine tm_icmp_ge (tgt := 239) dX11_least_232 (by decide) (fun c47 => ?_) (fun c47 => ?_)
              · rw [if_pos c47] at hE49
                refine tm_iconst (v := 0) dX11_least_239 (by decide) ?_
                obtain rfl := Option.some.inj hE49
                refine tm_lcp [0, 1, 3, 4, 5] rfl ?_
                exact J50
              · rw [if_neg c47] at hE49
                refine tm_iconst (v := 1) dX11_least_235 (by decide) ?_
                refine tm_goto (tgt := 240) dX11_least_236 (by decide) ?_
                obtain rfl := Option.some.inj hE49
                refine tm_lcp [0, 1, 3, 4, 5] rfl ?_
                exact J50
            · rw [if_pos c35] at h
              refine tm_bipush (v := (-6)) dX11_least_189 (by decide) ?_
              obtain rfl := Option.some.inj h
              obtain ⟨rfl, rfl⟩ := JR _ _ rfl
              exact tm_iret rfl dX11_least_191
          · rw [if_pos c34] at h
            refine tm_goto (tgt := 92) dX11_least_178 (by decide) ?_
            refine tm_lcp [0, 1, 3, 4] rfl ?_
            exact ih y3 y4 M29 _ h J JR
      · rw [if_pos c24] at h
        obtain ⟨x70, ex70, h⟩ := bnd_some h
        refine tm_iinc (v := x70) (lc' := [(4, ti x70), (0, tr 11 0), (1, ti z1), (3, ti y3)]) dX11_least_111 rfl (by rw [ex70]; rfl) (by decide) rfl ?_
        refine tm_iload dX11_least_114 rfl ?_
        refine tm_if_lt (tgt := 92) dX11_least_116 (by decide) (fun c71 => ?_) (fun c71 => ?_)
        · rw [if_pos c71] at h
          refine tm_lcp [0, 1, 3, 4] rfl ?_
          exact ih y3 x70 M _ h J JR
        · rw [if_neg c71] at h
          refine tm_aload_n dX11_least_119 rfl rfl ?_
          refine tm_aload_n dX11_least_120 rfl rfl ?_
          refine tm_get kX11 rfl (j := 50) (by decide) wfX11_132 dX11_least_121 (v := tr 1250 0) rfl ?_
          refine tm_iload dX11_least_124 rfl ?_
          obtain ⟨b72, h⟩ := chk_some h
          refine tm_iald rfl dX11_least_126 (inb_vp b72) ?_
          obtain ⟨M74, hc73, h⟩ := obind_some h
          refine tm_callV kX11 rfl (avs := [ti (mI M 1250 0 (x70.toNatClampNeg))]) (st := []) (okX11_unfireMark hc73) wcX11_333.1 wcX11_333.2.1 wcX11_333.2.2.1 wcX11_333.2.2.2 ⟨rfl, rfl, Nat.le_of_ble_eq_true rfl, Nat.le_of_ble_eq_true rfl⟩ rfl (Nat.le_of_ble_eq_true rfl) ⟨Nat.zero_le _, Nat.zero_le _⟩ dX11_least_127 ?_
          refine tm_aload_n dX11_least_130 rfl rfl ?_
          refine tm_iload dX11_least_131 rfl ?_
          obtain ⟨M76, hc75, h⟩ := obind_some h
          refine tm_callV kX11 rfl (avs := [ti x70]) (st := []) (okX11_bringStores hc75) wcX11_336.1 wcX11_336.2.1 wcX11_336.2.2.1 wcX11_336.2.2.2 ⟨rfl, rfl, Nat.le_of_ble_eq_true rfl, Nat.le_of_ble_eq_true rfl⟩ rfl (Nat.le_of_ble_eq_true rfl) ⟨Nat.zero_le _, Nat.zero_le _⟩ dX11_least_133 ?_
          refine tm_goto (tgt := 92) dX11_least_136 (by decide) ?_
          refine tm_lcp [0, 1, 3, 4] rfl ?_
          exact ih y3 x70 M76 _ h J JR
set_option maxHeartbeats 4000000 in
set_option maxRecDepth 100000 in
theorem okX11_least_l315 {g : tG}  {r : Option tV} {Mz : tM} : ∀ (n : Nat) (y5 : Int32) (M : tM) (w : tM), fX11_least_l315 n y5 M = some w → (∀ (Mw : tM), Mw = w → TW g iX11_least rmX11_least 0 0 r Mz 0 0 344 [(0, tr 11 0)] [] Mw) → TW g iX11_least rmX11_least 0 0 r Mz 0 0 315 [(0, tr 11 0), (5, ti y5)] [] M := by
  intro n
  induction n with
  | zero => intro y5 M w h; cases h
  | succ n ih =>
    intro y5 M w h J
    rw [fX11_least_l315] at h
    refine tm_iload dX11_least_315 rfl ?_
    refine tm_aload_n dX11_least_317 rfl rfl ?_
    refine tm_get kX11 rfl (j := 36) (by decide) wfX11_273 dX11_least_318 (v := ti (mI M 11 0 36)) rfl ?_
    refine tm_icmp_ge (tgt := 344) dX11_least_321 (by decide) (fun c80 => ?_) (fun c80 => ?_)
    · rw [if_pos c80] at h
      obtain rfl := Option.some.inj h
      refine tm_lcp [0] rfl ?_
      exact J _ rfl
    · rw [if_neg c80] at h
      refine tm_aload_n dX11_least_324 rfl rfl ?_
      refine tm_get kX11 rfl (j := 45) (by decide) wfX11_120 dX11_least_325 (v := tr 1245 0) rfl ?_
      refine tm_iload dX11_least_328 rfl ?_
      refine tm_aload_n dX11_least_330 rfl rfl ?_
      refine tm_get kX11 rfl (j := 52) (by decide) wfX11_138 dX11_least_331 (v := tr 1252 0) rfl ?_
      refine tm_iload dX11_least_334 rfl ?_
      obtain ⟨b81, h⟩ := chk_some h
      refine tm_iald rfl dX11_least_336 (inb_vp b81) ?_
      obtain ⟨b82, h⟩ := chk_some h
      obtain ⟨M83, eM83, h⟩ := bnd_some h
      refine tm_iast rfl dX11_least_337 (inb_vp b82) ?_
      refine tm_nmM eM83 ?_
      obtain ⟨x84, ex84, h⟩ := bnd_some h
      refine tm_iinc (v := x84) (lc' := [(5, ti x84), (0, tr 11 0)]) dX11_least_338 rfl (by rw [ex84]; rfl) (by decide) rfl ?_
      refine tm_goto (tgt := 315) dX11_least_341 (by decide) ?_
      refine tm_lcp [0, 5] rfl ?_
      exact ih x84 M83 _ h J
set_option maxHeartbeats 4000000 in
set_option maxRecDepth 100000 in
theorem okX11_least_l347 {g : tG}  {r : Option tV} {Mz : tM} : ∀ (n : Nat) (y5 : Int32) (M : tM) (w : tM), fX11_least_l347 n y5 M = some w → (∀ (Mw : tM), Mw = w → TW g iX11_least rmX11_least 0 0 r Mz 0 0 376 [(0, tr 11 0)] [] Mw) → TW g iX11_least rmX11_least 0 0 r Mz 0 0 347 [(0, tr 11 0), (5, ti y5)] [] M := by
  intro n
  induction n with
  | zero => intro y5 M w h; cases h
  | succ n ih =>
    intro y5 M w h J
    rw [fX11_least_l347] at h
    refine tm_iload dX11_least_347 rfl ?_
    refine tm_aload_n dX11_least_349 rfl rfl ?_
    refine tm_get kX11 rfl (j := 12) (by decide) wfX11_209 dX11_least_350 (v := ti (mI M 11 0 12)) rfl ?_
    refine tm_icmp_ge (tgt := 376) dX11_least_353 (by decide) (fun c88 => ?_) (fun c88 => ?_)
    · rw [if_pos c88] at h
      obtain rfl := Option.some.inj h
      refine tm_lcp [0] rfl ?_
      exact J _ rfl
    · rw [if_neg c88] at h
      refine tm_aload_n dX11_least_356 rfl rfl ?_
      refine tm_get kX11 rfl (j := 46) (by decide) wfX11_123 dX11_least_357 (v := tr 1246 0) rfl ?_
      refine tm_iload dX11_least_360 rfl ?_
      refine tm_aload_n dX11_least_362 rfl rfl ?_
      refine tm_get kX11 rfl (j := 53) (by decide) wfX11_141 dX11_least_363 (v := tr 1253 0) rfl ?_
      refine tm_iload dX11_least_366 rfl ?_
      obtain ⟨b89, h⟩ := chk_some h
      refine tm_iald rfl dX11_least_368 (inb_vp b89) ?_
      obtain ⟨b90, h⟩ := chk_some h
      obtain ⟨M91, eM91, h⟩ := bnd_some h
      refine tm_iast rfl dX11_least_369 (inb_vp b90) ?_
      refine tm_nmM eM91 ?_
      obtain ⟨x92, ex92, h⟩ := bnd_some h
      refine tm_iinc (v := x92) (lc' := [(5, ti x92), (0, tr 11 0)]) dX11_least_370 rfl (by rw [ex92]; rfl) (by decide) rfl ?_
      refine tm_goto (tgt := 347) dX11_least_373 (by decide) ?_
      refine tm_lcp [0, 5] rfl ?_
      exact ih x92 M91 _ h J
set_option maxHeartbeats 4000000 in
set_option maxRecDepth 100000 in
theorem okX11_least {g : tG} {a1 : Int32} {M : tM} {v : Int32} {Mz : tM} (h : fX11_least a1 M = some ((v, Mz))) : TMet g yX11_least (Cond.code yX11_least cX11_least 7 (some .int) :: tgd) rmX11_least [tr 11 0, ti a1] M (some (ti v)) Mz 0 0 := by
  have key : TW g iX11_least rmX11_least 0 0 (some (ti v)) Mz 0 0 0 [(0, tr 11 0), (1, ti a1)] [] M := by
    rw [fX11_least] at h
    refine tm_iload_n dX11_least_0 rfl rfl ?_
    refine tm_iconst (v := 1) dX11_least_1 (by decide) ?_
    refine tm_sipush (v := 20000) dX11_least_2 (by decide) ?_
    obtain ⟨x1, hc2, h⟩ := obind_some h
    refine tm_callS (avs := [ti a1, ti 1, ti 20000]) (st := []) (okX11_in hc2) wcX11_205.1 wcX11_205.2.1 wcX11_205.2.2 ⟨rfl, rfl, Nat.le_of_ble_eq_true rfl, Nat.le_of_ble_eq_true rfl⟩ rfl (Nat.le_of_ble_eq_true rfl) ⟨Nat.zero_le _, Nat.zero_le _⟩ dX11_least_5 ?_
    refine tm_if_ne (tgt := 13) dX11_least_8 (by decide) (fun c3 => ?_) (fun c3 => ?_)
    · rw [if_neg c3] at h
      refine tm_aload_n dX11_least_13 rfl rfl ?_
      refine tm_get kX11 rfl (j := 2) (by decide) wfX11_202 dX11_least_14 (v := ti (mI M 11 0 2)) rfl ?_
      refine tm_if_eq (tgt := 29) dX11_least_17 (by decide) (fun c4 => ?_) (fun c4 => ?_)
      · rw [if_pos c4] at h
        refine tm_bipush (v := (-4)) dX11_least_29 (by decide) ?_
        obtain ⟨rfl, rfl⟩ := pj2 h
        exact tm_iret rfl dX11_least_31
      · rw [if_neg c4] at h
        refine tm_aload_n dX11_least_20 rfl rfl ?_
        refine tm_get kX11 rfl (j := 2) (by decide) wfX11_202 dX11_least_21 (v := ti (mI M 11 0 2)) rfl ?_
        refine tm_bipush (v := 8) dX11_least_24 (by decide) ?_
        refine tm_icmp_le (tgt := 32) dX11_least_26 (by decide) (fun c5 => ?_) (fun c5 => ?_)
        · rw [if_pos c5] at h
          refine tm_aload_n dX11_least_32 rfl rfl ?_
          refine tm_iconst (v := 0) dX11_least_33 (by decide) ?_
          obtain ⟨⟨x6, M8⟩, hc7, h⟩ := obind_some h
          dsimp only at h
          refine tm_callV kX11 rfl (avs := [ti 0]) (st := []) (okX11_barred hc7) wcX11_304.1 wcX11_304.2.1 wcX11_304.2.2.1 wcX11_304.2.2.2 ⟨rfl, rfl, Nat.le_of_ble_eq_true rfl, Nat.le_of_ble_eq_true rfl⟩ rfl (Nat.le_of_ble_eq_true rfl) ⟨Nat.zero_le _, Nat.zero_le _⟩ dX11_least_34 ?_
          refine tm_istore_n (lc' := [(2, ti x6), (0, tr 11 0), (1, ti a1)]) dX11_least_37 rfl (by decide) rfl ?_
          refine tm_iload_n dX11_least_38 rfl rfl ?_
          refine tm_if_ge (tgt := 44) dX11_least_39 (by decide) (fun c9 => ?_) (fun c9 => ?_)
          · rw [if_pos c9] at h
            refine tm_aload_n dX11_least_44 rfl rfl ?_
            refine tm_get kX11 rfl (j := 36) (by decide) wfX11_273 dX11_least_45 (v := ti (mI M8 11 0 36)) rfl ?_
            refine tm_bipush (v := 40) dX11_least_48 (by decide) ?_
            refine tm_icmp_gt (tgt := 61) dX11_least_50 (by decide) (fun c10 => ?_) (fun c10 => ?_)
            · rw [if_pos c10] at h
              refine tm_bipush (v := (-4)) dX11_least_61 (by decide) ?_
              obtain ⟨rfl, rfl⟩ := pj2 h
              exact tm_iret rfl dX11_least_63
            · rw [if_neg c10] at h
              refine tm_aload_n dX11_least_53 rfl rfl ?_
              refine tm_iconst (v := 0) dX11_least_54 (by decide) ?_
              obtain ⟨⟨x11, M13⟩, hc12, h⟩ := obind_some h
              dsimp only at h
              refine tm_callV kX11 rfl (avs := [ti 0]) (st := []) (okX11_isStuck hc12) wcX11_300.1 wcX11_300.2.1 wcX11_300.2.2.1 wcX11_300.2.2.2 ⟨rfl, rfl, Nat.le_of_ble_eq_true rfl, Nat.le_of_ble_eq_true rfl⟩ rfl (Nat.le_of_ble_eq_true rfl) ⟨Nat.zero_le _, Nat.zero_le _⟩ dX11_least_55 ?_
              refine tm_if_eq (tgt := 64) dX11_least_58 (by decide) (fun c14 => ?_) (fun c14 => ?_)
              · rw [if_pos c14] at h
                refine tm_aload_n dX11_least_64 rfl rfl ?_
                refine tm_iconst (v := 0) dX11_least_65 (by decide) ?_
                obtain ⟨M16, hc15, h⟩ := obind_some h
                refine tm_callV kX11 rfl (avs := [ti 0]) (st := []) (okX11_markFirst hc15) wcX11_286.1 wcX11_286.2.1 wcX11_286.2.2.1 wcX11_286.2.2.2 ⟨rfl, rfl, Nat.le_of_ble_eq_true rfl, Nat.le_of_ble_eq_true rfl⟩ rfl (Nat.le_of_ble_eq_true rfl) ⟨Nat.zero_le _, Nat.zero_le _⟩ dX11_least_66 ?_
                refine tm_aload_n dX11_least_69 rfl rfl ?_
                obtain ⟨M18, hc17, h⟩ := obind_some h
                refine tm_callV kX11 rfl (avs := []) (st := []) (okX11_storeFirst hc17) wcX11_317.1 wcX11_317.2.1 wcX11_317.2.2.1 wcX11_317.2.2.2 ⟨rfl, rfl, Nat.le_of_ble_eq_true rfl, Nat.le_of_ble_eq_true rfl⟩ rfl (Nat.le_of_ble_eq_true rfl) ⟨Nat.zero_le _, Nat.zero_le _⟩ dX11_least_70 ?_
                refine tm_aload_n dX11_least_73 rfl rfl ?_
                refine tm_iconst (v := 0) dX11_least_74 (by decide) ?_
                obtain ⟨M19, eM19, h⟩ := bnd_some h
                refine tm_put kX11 rfl (j := 48) (by decide) wfX11_329 rfl dX11_least_75 (fun _ => ⟨rfl, rfl⟩) (tPut_I 0 rfl) ?_
                refine tm_nmM eM19 ?_
                refine tm_ldcw (v := 2000000000) dX11_least_78 wconstX11_332 ?_
                refine tm_istore_n (lc' := [(3, ti 2000000000), (2, ti x6), (0, tr 11 0), (1, ti a1)]) dX11_least_81 rfl (by decide) rfl ?_
                refine tm_iconst (v := 0) dX11_least_82 (by decide) ?_
                refine tm_istore (lc' := [(4, ti 0), (3, ti 2000000000), (2, ti x6), (0, tr 11 0), (1, ti a1)]) dX11_least_83 (by decide) rfl ?_
                refine tm_aload_n dX11_least_85 rfl rfl ?_
                refine tm_get kX11 rfl (j := 49) (by decide) wfX11_129 dX11_least_86 (v := tr 1249 0) rfl ?_
                refine tm_iconst (v := 0) dX11_least_89 (by decide) ?_
                refine tm_iconst (v := 0) dX11_least_90 (by decide) ?_
                obtain ⟨b20, h⟩ := chk_some h
                obtain ⟨M21, eM21, h⟩ := bnd_some h
                refine tm_iast rfl dX11_least_91 (inb_vp b20) ?_
                refine tm_nmM eM21 ?_
                obtain ⟨w77, hE78, h⟩ := obind_some h
                refine tm_lcp [0, 1, 3, 4] rfl ?_
                refine okX11_least_l92 a1 FU 2000000000 0 M21 _ hE78 (fun M79 e => ?_) (fun v100 Mv101 e => ?_)
                · subst e
                  dsimp only at h
                  refine tm_iconst (v := 0) dX11_least_312 (by decide) ?_
                  refine tm_istore (lc' := [(5, ti 0), (0, tr 11 0)]) dX11_least_313 (by decide) rfl ?_
                  obtain ⟨w85, hE86, h⟩ := obind_some h
                  refine tm_lcp [0, 5] rfl ?_
                  refine okX11_least_l315  FU 0 M79 _ hE86 (fun M87 e => ?_)
                  subst e
                  refine tm_iconst (v := 0) dX11_least_344 (by decide) ?_
                  refine tm_istore (lc' := [(5, ti 0), (0, tr 11 0)]) dX11_least_345 (by decide) rfl ?_
                  obtain ⟨w93, hE94, h⟩ := obind_some h
                  refine tm_lcp [0, 5] rfl ?_
                  refine okX11_least_l347  FU 0 M87 _ hE94 (fun M95 e => ?_)
                  subst e
                  refine tm_aload_n dX11_least_376 rfl rfl ?_
                  refine tm_aload_n dX11_least_377 rfl rfl ?_
                  refine tm_get kX11 rfl (j := 36) (by decide) wfX11_273 dX11_least_378 (v := ti (mI M95 11 0 36)) rfl ?_
                  obtain ⟨⟨x96, M98⟩, hc97, h⟩ := obind_some h
                  dsimp only at h
                  refine tm_callV kX11 rfl (avs := [ti (mI M95 11 0 36)]) (st := []) (okX11_settle hc97) wcX11_326.1 wcX11_326.2.1 wcX11_326.2.2.1 wcX11_326.2.2.2 ⟨rfl, rfl, Nat.le_of_ble_eq_true rfl, Nat.le_of_ble_eq_true rfl⟩ rfl (Nat.le_of_ble_eq_true rfl) ⟨Nat.zero_le _, Nat.zero_le _⟩ dX11_least_381 ?_
                  obtain ⟨rfl, rfl⟩ := pj2 h
                  exact tm_iret rfl dX11_least_384
                · subst e
                  obtain ⟨rfl, rfl⟩ := pj2 h
                  exact ⟨rfl, rfl⟩
              · rw [if_neg c14] at h
                refine tm_bipush (v := (-4)) dX11_least_61 (by decide) ?_
                obtain ⟨rfl, rfl⟩ := pj2 h
                exact tm_iret rfl dX11_least_63
          · rw [if_neg c9] at h
            refine tm_iload_n dX11_least_42 rfl rfl ?_
            obtain ⟨rfl, rfl⟩ := pj2 h
            exact tm_iret rfl dX11_least_43
        · rw [if_neg c5] at h
          refine tm_bipush (v := (-4)) dX11_least_29 (by decide) ?_
          obtain ⟨rfl, rfl⟩ := pj2 h
          exact tm_iret rfl dX11_least_31
    · rw [if_pos c3] at h
      refine tm_iconst (v := (-1)) dX11_least_11 (by decide) ?_
      obtain ⟨rfl, rfl⟩ := pj2 h
      exact tm_iret rfl dX11_least_12
  exact TMet.of (by decide) (Nat.le_of_ble_eq_true rfl) key
abbrev iX11_tries : tY := (RX11, cX11_tries, 1, some .int, "tries")
abbrev rmX11_tries : Room := { frames := 0, cells := 0, slots := 0, locals := 0 }
def fX11_tries  (M : tM) : Option (Int32) :=
  some (mI M 11 0 48)
set_option maxHeartbeats 4000000 in
set_option maxRecDepth 100000 in
theorem okX11_tries {g : tG}  {M : tM} {v : Int32} (h : fX11_tries  M = some v) : TMet g yX11_tries (Cond.code yX11_tries cX11_tries 1 (some .int) :: tgd) rmX11_tries [tr 11 0] M (some (ti v)) M 0 0 := by
  have key : TW g iX11_tries rmX11_tries 0 0 (some (ti v)) M 0 0 0 [(0, tr 11 0)] [] M := by
    rw [fX11_tries] at h
    refine tm_aload_n dX11_tries_0 rfl rfl ?_
    refine tm_get kX11 rfl (j := 48) (by decide) wfX11_329 dX11_tries_1 (v := ti (mI M 11 0 48)) rfl ?_
    obtain rfl := Option.some.inj h
    exact tm_iret rfl dX11_tries_4
  exact TMet.of (by decide) (Nat.le_of_ble_eq_true rfl) key
theorem wfX11_144 : Cond.fieldLink RX11 144 "EvenFlowModel" "line" "[I" ∈ tgd := (tgd_t 1279 (by decide +kernel) (by decide +kernel))
theorem wfX11_147 : Cond.fieldLink RX11 147 "EvenFlowModel" "gone" "[Z" ∈ tgd := (tgd_t 1280 (by decide +kernel) (by decide +kernel))
abbrev iX11_isRow : tY := (RX11, cX11_isRow, 6, some .boolean, "isRow")
abbrev rmX11_isRow : Room := { frames := 0, cells := 0, slots := 0, locals := 0 }
def fX11_isRow_l2  : Nat → Int32 → tM → Option (tM)
  | 0, _, _ => none
  | n + 1, y1, M =>
    if (mI M 11 0 2) ≤ y1 then (
    some M
    ) else (
    chk (inb y1 (mN M 1255 0)) <|
    bnd (sI M 1255 0 (y1.toNatClampNeg) 0) fun M3 =>
    bnd (y1 + 1) fun x4 =>
    fX11_isRow_l2 n x4 M3
    )
def fX11_isRow_l69 (z1 : Int32) (z2 : Int32) (z3 : Int32) (M : tM) : Nat → Int32 → Int32 → Option (Int32)
  | 0, _, _ => none
  | n + 1, y4, y5 =>
    if (mI M 11 0 12) ≤ y5 then (
    some y4
    ) else (
    if y4 = 0 then (
    some y4
    ) else (
    chk (inb y5 (mN M 1214 0)) <|
    Option.bind (α := Int32) (
    if (mI M 1214 0 (y5.toNatClampNeg)) = z3 then (
    chk (inb y5 (mN M 1213 0)) <|
    chk (inb (mI M 1213 0 (y5.toNatClampNeg)) (mN M 1255 0)) <|
    if (mI M 1255 0 ((mI M 1213 0 (y5.toNatClampNeg)).toNatClampNeg)) = 0 then (
    some 0
    ) else (
    some 1
    )
    ) else (
    some 1
    )
    ) fun x19 =>
    bnd (y5 + 1) fun x22 =>
    fX11_isRow_l69 z1 z2 z3 M n x19 x22
    )
    )
def fX11_isRow_l38 (z1 : Int32) (M : tM) : Nat → Int32 → Int32 → Option (Int32)
  | 0, _, _ => none
  | n + 1, y2, y3 =>
    if (mI M 11 0 2) ≤ y3 then (
    some y2
    ) else (
    chk (inb y3 (mN M 1255 0)) <|
    Option.bind (α := Int32) (
    if (mI M 1255 0 (y3.toNatClampNeg)) = 0 then (
    if 0 ≤ y2 then (
    some 0
    ) else (
    some 1
    )
    ) else (
    some 0
    )
    ) fun x12 =>
    Option.bind (fX11_isRow_l69 z1 y2 y3 M FU x12 0) fun x25 =>
    Option.bind (α := Int32) (
    if x25 = 0 then (
    some y2
    ) else (
    some y3
    )
    ) fun x27 =>
    bnd (y3 + 1) fun x30 =>
    fX11_isRow_l38 z1 M n x27 x30
    )
def fX11_isRow_l25  : Nat → Int32 → tM → Option ((Int32 × tM) ⊕ (tM))
  | 0, _, _ => none
  | n + 1, y1, M =>
    if (mI M 11 0 2) ≤ y1 then (
    some (Sum.inr M)
    ) else (
    Option.bind (fX11_isRow_l38 y1 M FU (-9) 0) fun x33 =>
    if 0 ≤ x33 then (
    chk (inb x33 (mN M 1255 0)) <|
    bnd (sI M 1255 0 (x33.toNatClampNeg) 1) fun M36 =>
    chk (inb y1 (mN M36 1254 0)) <|
    bnd (sI M36 1254 0 (y1.toNatClampNeg) x33) fun M38 =>
    bnd (y1 + 1) fun x39 =>
    fX11_isRow_l25 n x39 M38
    ) else (
    some (Sum.inl ((0, M)))
    )
    )
def fX11_isRow  (M : tM) : Option (Int32 × tM) :=
  Option.bind (fX11_isRow_l2 FU 0 M) fun M7 =>
  Option.bind (fX11_isRow_l25 FU 0 M7) fun w40 => match w40 with
  | Sum.inl q43 => some q43
  | Sum.inr M42 =>
    some ((1, M42))
set_option maxHeartbeats 4000000 in
set_option maxRecDepth 100000 in
theorem okX11_isRow_l2 {g : tG}  {r : Option tV} {Mz : tM} : ∀ (n : Nat) (y1 : Int32) (M : tM) (w : tM), fX11_isRow_l2 n y1 M = some w → (∀ (Mw : tM), Mw = w → TW g iX11_isRow rmX11_isRow 0 0 r Mz 0 0 23 [(0, tr 11 0)] [] Mw) → TW g iX11_isRow rmX11_isRow 0 0 r Mz 0 0 2 [(0, tr 11 0), (1, ti y1)] [] M := by
  intro n
  induction n with
  | zero => intro y1 M w h; cases h
  | succ n ih =>
    intro y1 M w h J
    rw [fX11_isRow_l2] at h
    refine tm_iload_n dX11_isRow_2 rfl rfl ?_
    refine tm_aload_n dX11_isRow_3 rfl rfl ?_
    refine tm_get kX11 rfl (j := 2) (by decide) wfX11_202 dX11_isRow_4 (v := ti (mI M 11 0 2)) rfl ?_
    refine tm_icmp_ge (tgt := 23) dX11_isRow_7 (by decide) (fun c1 => ?_) (fun c1 => ?_)
    · rw [if_pos c1] at h
      obtain rfl := Option.some.inj h
      refine tm_lcp [0] rfl ?_
      exact J _ rfl
    · rw [if_neg c1] at h
      refine tm_aload_n dX11_isRow_10 rfl rfl ?_
      refine tm_get kX11 rfl (j := 55) (by decide) wfX11_147 dX11_isRow_11 (v := tr 1255 0) rfl ?_
      refine tm_iload_n dX11_isRow_14 rfl rfl ?_
      refine tm_iconst (v := 0) dX11_isRow_15 (by decide) ?_
      obtain ⟨b2, h⟩ := chk_some h
      obtain ⟨M3, eM3, h⟩ := bnd_some h
      refine tm_zast rfl (tb_n (x := 0) (by decide)) dX11_isRow_16 (inb_vp b2) ?_
      refine tm_nmM eM3 ?_
      obtain ⟨x4, ex4, h⟩ := bnd_some h
      refine tm_iinc (v := x4) (lc' := [(1, ti x4), (0, tr 11 0)]) dX11_isRow_17 rfl (by rw [ex4]; rfl) (by decide) rfl ?_
      refine tm_goto (tgt := 2) dX11_isRow_20 (by decide) ?_
      refine tm_lcp [0, 1] rfl ?_
      exact ih x4 M3 _ h J
set_option maxHeartbeats 4000000 in
set_option maxRecDepth 100000 in
theorem okX11_isRow_l69 {g : tG} (z1 : Int32) (z2 : Int32) (z3 : Int32) (M : tM) {r : Option tV} {Mz : tM} : ∀ (n : Nat) (y4 : Int32) (y5 : Int32) (w : Int32), fX11_isRow_l69 z1 z2 z3 M n y4 y5 = some w → (∀ (w4 : Int32), w4 = w → TW g iX11_isRow rmX11_isRow 0 0 r Mz 0 0 122 [(0, tr 11 0), (1, ti z1), (2, ti z2), (3, ti z3), (4, ti w4)] [] M) → TW g iX11_isRow rmX11_isRow 0 0 r Mz 0 0 69 [(0, tr 11 0), (1, ti z1), (2, ti z2), (3, ti z3), (4, ti y4), (5, ti y5)] [] M := by
  intro n
  induction n with
  | zero => intro y4 y5 w h; cases h
  | succ n ih =>
    intro y4 y5 w h J
    rw [fX11_isRow_l69] at h
    refine tm_iload dX11_isRow_69 rfl ?_
    refine tm_aload_n dX11_isRow_71 rfl rfl ?_
    refine tm_get kX11 rfl (j := 12) (by decide) wfX11_209 dX11_isRow_72 (v := ti (mI M 11 0 12)) rfl ?_
    refine tm_icmp_ge (tgt := 122) dX11_isRow_75 (by decide) (fun c15 => ?_) (fun c15 => ?_)
    · rw [if_pos c15] at h
      obtain rfl := Option.some.inj h
      refine tm_lcp [0, 1, 2, 3, 4] rfl ?_
      exact J _ rfl
    · rw [if_neg c15] at h
      refine tm_iload dX11_isRow_78 rfl ?_
      refine tm_if_eq (tgt := 122) dX11_isRow_80 (by decide) (fun c16 => ?_) (fun c16 => ?_)
      · rw [if_pos c16] at h
        obtain rfl := Option.some.inj h
        refine tm_lcp [0, 1, 2, 3, 4] rfl ?_
        exact J _ rfl
      · rw [if_neg c16] at h
        refine tm_aload_n dX11_isRow_83 rfl rfl ?_
        refine tm_get kX11 rfl (j := 14) (by decide) wfX11_44 dX11_isRow_84 (v := tr 1214 0) rfl ?_
        refine tm_iload dX11_isRow_87 rfl ?_
        obtain ⟨b17, h⟩ := chk_some h
        refine tm_iald rfl dX11_isRow_89 (inb_vp b17) ?_
        refine tm_iload_n dX11_isRow_90 rfl rfl ?_
        obtain ⟨x19, hE20, h⟩ := obind_some h
        have J21 : TW g iX11_isRow rmX11_isRow 0 0 r Mz 0 0 114 [(0, tr 11 0), (1, ti z1), (2, ti z2), (3, ti z3), (5, ti y5)] [ti x19] M := by
          refine tm_istore (lc' := [(4, ti x19), (0, tr 11 0), (1, ti z1), (2, ti z2), (3, ti z3), (5, ti y5)]) dX11_isRow_114 (by decide) rfl ?_
          obtain ⟨x22, ex22, h⟩ := bnd_some h
          refine tm_iinc (v := x22) (lc' := [(5, ti x22), (4, ti x19), (0, tr 11 0), (1, ti z1), (2, ti z2), (3, ti z3)]) dX11_isRow_116 rfl (by rw [ex22]; rfl) (by decide) rfl ?_
          refine tm_goto (tgt := 69) dX11_isRow_119 (by decide) ?_
          refine tm_lcp [0, 1, 2, 3, 4, 5] rfl ?_
          exact ih x19 x22 _ h J
        refine tm_icmp_ne (tgt := 109) dX11_isRow_91 (by decide) (fun c18 => ?_) (fun c18 => ?_)
        · rw [if_neg c18] at hE20
          refine tm_iconst (v := 1) dX11_isRow_109 (by decide) ?_
          refine tm_goto (tgt := 114) dX11_isRow_110 (by decide) ?_
          obtain rfl := Option.some.inj hE20
          refine tm_lcp [0, 1, 2, 3, 5] rfl ?_
          exact J21
        · rw [if_pos c18] at hE20
          refine tm_aload_n dX11_isRow_94 rfl rfl ?_
          refine tm_get kX11 rfl (j := 55) (by decide) wfX11_147 dX11_isRow_95 (v := tr 1255 0) rfl ?_
          refine tm_aload_n dX11_isRow_98 rfl rfl ?_
          refine tm_get kX11 rfl (j := 13) (by decide) wfX11_41 dX11_isRow_99 (v := tr 1213 0) rfl ?_
          refine tm_iload dX11_isRow_102 rfl ?_
          obtain ⟨b19, hE20⟩ := chk_some hE20
          refine tm_iald rfl dX11_isRow_104 (inb_vp b19) ?_
          obtain ⟨b20, hE20⟩ := chk_some hE20
          refine tm_zald rfl dX11_isRow_105 (inb_vp b20) ?_
          refine tm_if_eq (tgt := 113) dX11_isRow_106 (by decide) (fun c21 => ?_) (fun c21 => ?_)
          · rw [if_pos c21] at hE20
            refine tm_iconst (v := 0) dX11_isRow_113 (by decide) ?_
            obtain rfl := Option.some.inj hE20
            refine tm_lcp [0, 1, 2, 3, 5] rfl ?_
            exact J21
          · rw [if_neg c21] at hE20
            refine tm_iconst (v := 1) dX11_isRow_109 (by decide) ?_
            refine tm_goto (tgt := 114) dX11_isRow_110 (by decide) ?_
            obtain rfl := Option.some.inj hE20
            refine tm_lcp [0, 1, 2, 3, 5] rfl ?_
            exact J21
set_option maxHeartbeats 4000000 in
set_option maxRecDepth 100000 in
theorem okX11_isRow_l38 {g : tG} (z1 : Int32) (M : tM) {r : Option tV} {Mz : tM} : ∀ (n : Nat) (y2 : Int32) (y3 : Int32) (w : Int32), fX11_isRow_l38 z1 M n y2 y3 = some w → (∀ (w2 : Int32), w2 = w → TW g iX11_isRow rmX11_isRow 0 0 r Mz 0 0 139 [(0, tr 11 0), (1, ti z1), (2, ti w2)] [] M) → TW g iX11_isRow rmX11_isRow 0 0 r Mz 0 0 38 [(0, tr 11 0), (1, ti z1), (2, ti y2), (3, ti y3)] [] M := by
  intro n
  induction n with
  | zero => intro y2 y3 w h; cases h
  | succ n ih =>
    intro y2 y3 w h J
    rw [fX11_isRow_l38] at h
    refine tm_iload_n dX11_isRow_38 rfl rfl ?_
    refine tm_aload_n dX11_isRow_39 rfl rfl ?_
    refine tm_get kX11 rfl (j := 2) (by decide) wfX11_202 dX11_isRow_40 (v := ti (mI M 11 0 2)) rfl ?_
    refine tm_icmp_ge (tgt := 139) dX11_isRow_43 (by decide) (fun c9 => ?_) (fun c9 => ?_)
    · rw [if_pos c9] at h
      obtain rfl := Option.some.inj h
      refine tm_lcp [0, 1, 2] rfl ?_
      exact J _ rfl
    · rw [if_neg c9] at h
      refine tm_aload_n dX11_isRow_46 rfl rfl ?_
      refine tm_get kX11 rfl (j := 55) (by decide) wfX11_147 dX11_isRow_47 (v := tr 1255 0) rfl ?_
      refine tm_iload_n dX11_isRow_50 rfl rfl ?_
      obtain ⟨b10, h⟩ := chk_some h
      refine tm_zald rfl dX11_isRow_51 (inb_vp b10) ?_
      obtain ⟨x12, hE13, h⟩ := obind_some h
      have J14 : TW g iX11_isRow rmX11_isRow 0 0 r Mz 0 0 64 [(0, tr 11 0), (1, ti z1), (2, ti y2), (3, ti y3)] [ti x12] M := by
        refine tm_istore (lc' := [(4, ti x12), (0, tr 11 0), (1, ti z1), (2, ti y2), (3, ti y3)]) dX11_isRow_64 (by decide) rfl ?_
        refine tm_iconst (v := 0) dX11_isRow_66 (by decide) ?_
        refine tm_istore (lc' := [(5, ti 0), (4, ti x12), (0, tr 11 0), (1, ti z1), (2, ti y2), (3, ti y3)]) dX11_isRow_67 (by decide) rfl ?_
        obtain ⟨w23, hE24, h⟩ := obind_some h
        refine tm_lcp [0, 1, 2, 3, 4, 5] rfl ?_
        refine okX11_isRow_l69 z1 y2 y3 M FU x12 0 _ hE24 (fun x25 e => ?_)
        subst e
        refine tm_iload dX11_isRow_122 rfl ?_
        obtain ⟨x27, hE28, h⟩ := obind_some h
        have J29 : TW g iX11_isRow rmX11_isRow 0 0 r Mz 0 0 132 [(0, tr 11 0), (1, ti z1), (3, ti y3)] [ti x27] M := by
          refine tm_istore_n (lc' := [(2, ti x27), (0, tr 11 0), (1, ti z1), (3, ti y3)]) dX11_isRow_132 rfl (by decide) rfl ?_
          obtain ⟨x30, ex30, h⟩ := bnd_some h
          refine tm_iinc (v := x30) (lc' := [(3, ti x30), (2, ti x27), (0, tr 11 0), (1, ti z1)]) dX11_isRow_133 rfl (by rw [ex30]; rfl) (by decide) rfl ?_
          refine tm_goto (tgt := 38) dX11_isRow_136 (by decide) ?_
          refine tm_lcp [0, 1, 2, 3] rfl ?_
          exact ih x27 x30 _ h J
        refine tm_if_eq (tgt := 131) dX11_isRow_124 (by decide) (fun c26 => ?_) (fun c26 => ?_)
        · rw [if_pos c26] at hE28
          refine tm_iload_n dX11_isRow_131 rfl rfl ?_
          obtain rfl := Option.some.inj hE28
          refine tm_lcp [0, 1, 3] rfl ?_
          exact J29
        · rw [if_neg c26] at hE28
          refine tm_iload_n dX11_isRow_127 rfl rfl ?_
          refine tm_goto (tgt := 132) dX11_isRow_128 (by decide) ?_
          obtain rfl := Option.some.inj hE28
          refine tm_lcp [0, 1, 3] rfl ?_
          exact J29
      refine tm_if_ne (tgt := 63) dX11_isRow_52 (by decide) (fun c11 => ?_) (fun c11 => ?_)
      · rw [if_neg c11] at hE13
        refine tm_iconst (v := 0) dX11_isRow_63 (by decide) ?_
        obtain rfl := Option.some.inj hE13
        refine tm_lcp [0, 1, 2, 3] rfl ?_
        exact J14
      · rw [if_pos c11] at hE13
        refine tm_iload_n dX11_isRow_55 rfl rfl ?_
        refine tm_if_ge (tgt := 63) dX11_isRow_56 (by decide) (fun c12 => ?_) (fun c12 => ?_)
        · rw [if_pos c12] at hE13
          refine tm_iconst (v := 0) dX11_isRow_63 (by decide) ?_
          obtain rfl := Option.some.inj hE13
          refine tm_lcp [0, 1, 2, 3] rfl ?_
          exact J14
        · rw [if_neg c12] at hE13
          refine tm_iconst (v := 1) dX11_isRow_59 (by decide) ?_
          refine tm_goto (tgt := 64) dX11_isRow_60 (by decide) ?_
          obtain rfl := Option.some.inj hE13
          refine tm_lcp [0, 1, 2, 3] rfl ?_
          exact J14
set_option maxHeartbeats 4000000 in
set_option maxRecDepth 100000 in
theorem okX11_isRow_l25 {g : tG}  {r : Option tV} {Mz : tM} : ∀ (n : Nat) (y1 : Int32) (M : tM) (w : (Int32 × tM) ⊕ (tM)), fX11_isRow_l25 n y1 M = some w → (∀ (Mw : tM), Sum.inr Mw = w → TW g iX11_isRow rmX11_isRow 0 0 r Mz 0 0 165 [] [] Mw) → (∀ (v : Int32) (Mv : tM), Sum.inl ((v, Mv)) = w → r = (some (ti v)) ∧ Mz = Mv) → TW g iX11_isRow rmX11_isRow 0 0 r Mz 0 0 25 [(0, tr 11 0), (1, ti y1)] [] M := by
  intro n
  induction n with
  | zero => intro y1 M w h; cases h
  | succ n ih =>
    intro y1 M w h J JR
    rw [fX11_isRow_l25] at h
    refine tm_iload_n dX11_isRow_25 rfl rfl ?_
    refine tm_aload_n dX11_isRow_26 rfl rfl ?_
    refine tm_get kX11 rfl (j := 2) (by decide) wfX11_202 dX11_isRow_27 (v := ti (mI M 11 0 2)) rfl ?_
    refine tm_icmp_ge (tgt := 165) dX11_isRow_30 (by decide) (fun c8 => ?_) (fun c8 => ?_)
    · rw [if_pos c8] at h
      obtain rfl := Option.some.inj h
      refine tm_lcp [] rfl ?_
      exact J _ rfl
    · rw [if_neg c8] at h
      refine tm_bipush (v := (-9)) dX11_isRow_33 (by decide) ?_
      refine tm_istore_n (lc' := [(2, ti (-9)), (0, tr 11 0), (1, ti y1)]) dX11_isRow_35 rfl (by decide) rfl ?_
      refine tm_iconst (v := 0) dX11_isRow_36 (by decide) ?_
      refine tm_istore_n (lc' := [(3, ti 0), (2, ti (-9)), (0, tr 11 0), (1, ti y1)]) dX11_isRow_37 rfl (by decide) rfl ?_
      obtain ⟨w31, hE32, h⟩ := obind_some h
      refine tm_lcp [0, 1, 2, 3] rfl ?_
      refine okX11_isRow_l38 y1 M FU (-9) 0 _ hE32 (fun x33 e => ?_)
      subst e
      refine tm_iload_n dX11_isRow_139 rfl rfl ?_
      refine tm_if_ge (tgt := 145) dX11_isRow_140 (by decide) (fun c34 => ?_) (fun c34 => ?_)
      · rw [if_pos c34] at h
        refine tm_aload_n dX11_isRow_145 rfl rfl ?_
        refine tm_get kX11 rfl (j := 55) (by decide) wfX11_147 dX11_isRow_146 (v := tr 1255 0) rfl ?_
        refine tm_iload_n dX11_isRow_149 rfl rfl ?_
        refine tm_iconst (v := 1) dX11_isRow_150 (by decide) ?_
        obtain ⟨b35, h⟩ := chk_some h
        obtain ⟨M36, eM36, h⟩ := bnd_some h
        refine tm_zast rfl (tb_n (x := 1) (by decide)) dX11_isRow_151 (inb_vp b35) ?_
        refine tm_nmM eM36 ?_
        refine tm_aload_n dX11_isRow_152 rfl rfl ?_
        refine tm_get kX11 rfl (j := 54) (by decide) wfX11_144 dX11_isRow_153 (v := tr 1254 0) rfl ?_
        refine tm_iload_n dX11_isRow_156 rfl rfl ?_
        refine tm_iload_n dX11_isRow_157 rfl rfl ?_
        obtain ⟨b37, h⟩ := chk_some h
        obtain ⟨M38, eM38, h⟩ := bnd_some h
        refine tm_iast rfl dX11_isRow_158 (inb_vp b37) ?_
        refine tm_nmM eM38 ?_
        obtain ⟨x39, ex39, h⟩ := bnd_some h
        refine tm_iinc (v := x39) (lc' := [(1, ti x39), (0, tr 11 0), (2, ti x33)]) dX11_isRow_159 rfl (by rw [ex39]; rfl) (by decide) rfl ?_
        refine tm_goto (tgt := 25) dX11_isRow_162 (by decide) ?_
        refine tm_lcp [0, 1] rfl ?_
        exact ih x39 M38 _ h J JR
      · rw [if_neg c34] at h
        refine tm_iconst (v := 0) dX11_isRow_143 (by decide) ?_
        obtain rfl := Option.some.inj h
        obtain ⟨rfl, rfl⟩ := JR _ _ rfl
        exact tm_zret (by decide) rfl dX11_isRow_144
set_option maxHeartbeats 4000000 in
set_option maxRecDepth 100000 in
theorem okX11_isRow {g : tG}  {M : tM} {v : Int32} {Mz : tM} (h : fX11_isRow  M = some ((v, Mz))) : TMet g yX11_isRow (Cond.code yX11_isRow cX11_isRow 6 (some .boolean) :: tgd) rmX11_isRow [tr 11 0] M (some (ti v)) Mz 0 0 := by
  have key : TW g iX11_isRow rmX11_isRow 0 0 (some (ti v)) Mz 0 0 0 [(0, tr 11 0)] [] M := by
    rw [fX11_isRow] at h
    refine tm_iconst (v := 0) dX11_isRow_0 (by decide) ?_
    refine tm_istore_n (lc' := [(1, ti 0), (0, tr 11 0)]) dX11_isRow_1 rfl (by decide) rfl ?_
    obtain ⟨w5, hE6, h⟩ := obind_some h
    refine tm_lcp [0, 1] rfl ?_
    refine okX11_isRow_l2  FU 0 M _ hE6 (fun M7 e => ?_)
    subst e
    refine tm_iconst (v := 0) dX11_isRow_23 (by decide) ?_
    refine tm_istore_n (lc' := [(1, ti 0), (0, tr 11 0)]) dX11_isRow_24 rfl (by decide) rfl ?_
    obtain ⟨w40, hE41, h⟩ := obind_some h
    refine tm_lcp [0, 1] rfl ?_
    refine okX11_isRow_l25  FU 0 M7 _ hE41 (fun M42 e => ?_) (fun v44 Mv45 e => ?_)
    · subst e
      dsimp only at h
      refine tm_iconst (v := 1) dX11_isRow_165 (by decide) ?_
      obtain ⟨rfl, rfl⟩ := pj2 h
      exact tm_zret (by decide) rfl dX11_isRow_166
    · subst e
      obtain ⟨rfl, rfl⟩ := pj2 h
      exact ⟨rfl, rfl⟩
  exact TMet.of (by decide) (Nat.le_of_ble_eq_true rfl) key
