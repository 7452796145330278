theorem ite_01 (c : Prop) [Decidable c] : (if c then (0 : Int32) else 1) = 0 ∨ (if c then (0 : Int32) else 1) = 1 := by
  by_cases h : c
  · exact Or.inl (if_pos h)
  · exact Or.inr (if_neg h)
def call0 (Rl : tM → Prop) : Prop := ∀ (a1 : Int32) (a2 : Int64) (a3 : Int32) (M : tM), Rl M → ∃ v M1 M2, fX10_part a1 a2 a3 M = some (v, M1) ∧ fX11_part a1 a2 a3 M1 = some (v, M2) ∧ Rl M2
def call1 (Rl : tM → Prop) : Prop := ∀ (a1 : Int32) (a2 : Int32) (a3 : Int32) (a4 : Int32) (M : tM), Rl M → ∃ v M1 M2, fX10_line a1 a2 a3 a4 M = some (v, M1) ∧ fX11_line a1 a2 a3 a4 M1 = some (v, M2) ∧ Rl M2
def call2 (Rl : tM → Prop) : Prop := ∀ (a1 : Int32) (a2 : Int32) (a3 : Int32) (a4 : Int32) (M : tM), (a2 = 0 ∨ a2 = 1) → Rl M → ∃ v M1 M2, fX10_count a1 a2 a3 a4 M = some (v, M1) ∧ fX11_count a1 a2 a3 a4 M1 = some (v, M2) ∧ Rl M2
def call3 (Rl : tM → Prop) : Prop := ∀ (a1 : Int32) (a2 : Int32) (M : tM), Rl M → ∃ v M1 M2, fX10_first a1 a2 M = some (v, M1) ∧ fX11_first a1 a2 M1 = some (v, M2) ∧ Rl M2
def call4 (Rl : tM → Prop) : Prop := ∀ (a1 : Int32) (a2 : Int32) (a3 : Int64) (M : tM), Rl M → ∃ v M1 M2, fX10_thing a1 a2 a3 M = some (v, M1) ∧ fX11_thing a1 a2 a3 M1 = some (v, M2) ∧ Rl M2
def call5 (Rl : tM → Prop) : Prop := ∀ (a1 : Int32) (a2 : Int32) (a3 : Int64) (M : tM), Rl M → ∃ v M1 M2, fX10_row a1 a2 a3 M = some (v, M1) ∧ fX11_row a1 a2 a3 M1 = some (v, M2) ∧ Rl M2
def call6 (Rl : tM → Prop) : Prop := ∀ (a1 : Int32) (a2 : Int32) (a3 : Int32) (a4 : Int32) (a5 : Int32) (M : tM), Rl M → ∃ v M1 M2, fX10_copy a1 a2 a3 a4 a5 M = some (v, M1) ∧ fX11_copy a1 a2 a3 a4 a5 M1 = some (v, M2) ∧ Rl M2
def call7 (Rl : tM → Prop) : Prop := ∀ (a1 : Int32) (M : tM), Rl M → ∃ v M1 M2, fX10_tear a1 M = some (v, M1) ∧ fX11_tear a1 M1 = some (v, M2) ∧ Rl M2
def call8 (Rl : tM → Prop) : Prop := ∀ (a1 : Int32) (a2 : Int32) (M : tM), Rl M → ∃ v, fX10_told a1 a2 M = some v ∧ fX11_told a1 a2 M = some v ∧ Rl M
def call9 (Rl : tM → Prop) : Prop := ∀ (a1 : Int32) (a2 : Int32) (M : tM), Rl M → ∃ v, fX10_is a1 a2 M = some v ∧ fX11_is a1 a2 M = some v ∧ Rl M
def call10 (Rl : tM → Prop) : Prop := ∀ (a1 : Int32) (a2 : Int32) (M : tM), Rl M → ∃ v, fX10_ends a1 a2 M = some v ∧ fX11_ends a1 a2 M = some v ∧ Rl M
def call11 (Rl : tM → Prop) : Prop := ∀ (M : tM), Rl M → ∃ v M1 M2, fX10_round M = some (v, M1) ∧ fX11_round M1 = some (v, M2) ∧ Rl M2
def call12 (Rl : tM → Prop) : Prop := ∀ (a1 : Int32) (M : tM), Rl M → ∃ v M1 M2, fX10_firings a1 M = some (v, M1) ∧ fX11_firings a1 M1 = some (v, M2) ∧ Rl M2
def call13 (Rl : tM → Prop) : Prop := ∀ (M : tM), Rl M → ∃ v M1 M2, fX10_uneven M = some (v, M1) ∧ fX11_uneven M1 = some (v, M2) ∧ Rl M2
def call14 (Rl : tM → Prop) : Prop := ∀ (M : tM), Rl M → ∃ v M1 M2, fX10_stuck M = some (v, M1) ∧ fX11_stuck M1 = some (v, M2) ∧ Rl M2
def call15 (Rl : tM → Prop) : Prop := ∀ (a1 : Int32) (M : tM), Rl M → ∃ v M1 M2, fX10_lacks a1 M = some (v, M1) ∧ fX11_lacks a1 M1 = some (v, M2) ∧ Rl M2
def call16 (Rl : tM → Prop) : Prop := ∀ (a1 : Int32) (M : tM), Rl M → ∃ v M1 M2, fX10_schedule a1 M = some (v, M1) ∧ fX11_schedule a1 M1 = some (v, M2) ∧ Rl M2
def call17 (Rl : tM → Prop) : Prop := ∀ (a1 : Int32) (M : tM), Rl M → ∃ v M1 M2, fX10_least a1 M = some (v, M1) ∧ fX11_least a1 M1 = some (v, M2) ∧ Rl M2
def call18 (Rl : tM → Prop) : Prop := ∀ (M : tM), Rl M → ∃ v, fX10_tries M = some v ∧ fX11_tries M = some v ∧ Rl M
def call19 (Rl : tM → Prop) : Prop := ∀ (M : tM), Rl M → ∃ v M1 M2, fX10_once M = some (v, M1) ∧ fX11_once M1 = some (v, M2) ∧ Rl M2
def call20 (Rl : tM → Prop) : Prop := ∀ (a1 : Int32) (M : tM), Rl M → ∃ v, fX10_bracket a1 M = some v ∧ fX11_bracket a1 M = some v ∧ Rl M
def call21 (Rl : tM → Prop) : Prop := ∀ (a1 : Int32) (M : tM), Rl M → ∃ v, fX10_firing a1 M = some v ∧ fX11_firing a1 M = some v ∧ Rl M
def call22 (Rl : tM → Prop) : Prop := ∀ (a1 : Int32) (M : tM), Rl M → ∃ v, fX10_store a1 M = some v ∧ fX11_store a1 M = some v ∧ Rl M
def call23 (Rl : tM → Prop) : Prop := ∀ (a1 : Int32) (a2 : Int32) (M : tM), Rl M → ∃ v M2, fX10_marking a1 a2 M = some v ∧ fX11_marking a1 a2 M = some (v, M2) ∧ Rl M2
def call24 (Rl : tM → Prop) : Prop := ∀ (a1 : Int32) (M : tM), Rl M → ∃ v M1 M2, fX10_draft a1 M = some (v, M1) ∧ fX11_draft a1 M1 = some (v, M2) ∧ Rl M2
def call25 (Rl : tM → Prop) : Prop := ∀ (M : tM), Rl M → ∃ v M1 M2, fX10_check M = some (v, M1) ∧ fX11_check M1 = some (v, M2) ∧ Rl M2
def call26 (Rl : tM → Prop) : Prop := ∀ (a1 : Int32) (a2 : Int32) (M : tM), Rl M → ∃ v M1 M2, fX10_time a1 a2 M = some (v, M1) ∧ fX11_time a1 a2 M1 = some (v, M2) ∧ Rl M2
def call27 (Rl : tM → Prop) : Prop := ∀ (a1 : Int32) (M : tM), (a1 = 0 ∨ a1 = 1) → Rl M → ∃ v M1 M2, fX10_beat a1 M = some (v, M1) ∧ fX11_beat a1 M1 = some (v, M2) ∧ Rl M2
def call28 (Rl : tM → Prop) : Prop := ∀ (a1 : Int32) (M : tM), Rl M → ∃ v, fX10_may a1 M = some v ∧ fX11_may a1 M = some v ∧ Rl M
def call29 (Rl : tM → Prop) : Prop := ∀ (a1 : Int32) (M : tM), Rl M → ∃ v M1 M2, fX10_fire a1 M = some (v, M1) ∧ fX11_fire a1 M1 = some (v, M2) ∧ Rl M2
def call30 (Rl : tM → Prop) : Prop := ∀ (M : tM), Rl M → ∃ v, fX10_gave M = some v ∧ fX11_gave M = some v ∧ Rl M
def call31 (Rl : tM → Prop) : Prop := ∀ (a1 : Int32) (M : tM), Rl M → ∃ v, fX10_trace a1 M = some v ∧ fX11_trace a1 M = some v ∧ Rl M
def call32 (Rl : tM → Prop) : Prop := ∀ (a1 : Int32) (a2 : Int32) (M : tM), Rl M → ∃ v M1 M2, fX10_deal a1 a2 M = some (v, M1) ∧ fX11_deal a1 a2 M1 = some (v, M2) ∧ Rl M2
def call33 (Rl : tM → Prop) : Prop := ∀ (a1 : Int32) (M : tM), Rl M → ∃ v M1 M2, fX10_go a1 M = some (v, M1) ∧ fX11_go a1 M1 = some (v, M2) ∧ Rl M2
def call34 (Rl : tM → Prop) : Prop := ∀ (M : tM), Rl M → ∃ v M1 M2, fX10_reset M = some (v, M1) ∧ fX11_reset M1 = some (v, M2) ∧ Rl M2
def call35 (Rl : tM → Prop) : Prop := ∀ (a1 : Int32) (M : tM), Rl M → ∃ v, fX10_things a1 M = some v ∧ fX11_things a1 M = some v ∧ Rl M
def call36 (Rl : tM → Prop) : Prop := ∀ (a1 : Int32) (a2 : Int32) (M : tM), Rl M → ∃ v M1 M2, fX10_look a1 a2 M = some (v, M1) ∧ fX11_look a1 a2 M1 = some (v, M2) ∧ Rl M2
def call37 (Rl : tM → Prop) : Prop := ∀ (a1 : Int32) (a2 : Int32) (M : tM), Rl M → ∃ v M1 M2, fX10_given a1 a2 M = some (v, M1) ∧ fX11_given a1 a2 M1 = some (v, M2) ∧ Rl M2
def call38 (Rl : tM → Prop) : Prop := ∀ (M : tM), Rl M → ∃ v, fX10_asked M = some v ∧ fX11_asked M = some v ∧ Rl M
def call39 (Rl : tM → Prop) : Prop := ∀ (a1 : Int32) (M : tM), Rl M → ∃ v, fX10_many a1 M = some v ∧ fX11_many a1 M = some v ∧ Rl M
def call40 (Rl : tM → Prop) : Prop := ∀ (M : tM), Rl M → ∃ v, fX10_finding M = some v ∧ fX11_finding M = some v ∧ Rl M
def call41 (Rl : tM → Prop) : Prop := ∀ (a1 : Int32) (M : tM), Rl M → ∃ v, fX10_findings a1 M = some v ∧ fX11_findings a1 M = some v ∧ Rl M
def call42 (Rl : tM → Prop) : Prop := ∀ (M : tM), Rl M → ∃ v, fX10_digest M = some v ∧ fX11_digest M = some v ∧ Rl M
set_option maxHeartbeats 8000000 in
set_option maxRecDepth 100000 in
theorem law_loop {g : tG} {nm : String} {Rl : tM → Prop} (h0 : call0 Rl) (h1 : call1 Rl) (h2 : call2 Rl) (h3 : call3 Rl) (h4 : call4 Rl) (h5 : call5 Rl) (h6 : call6 Rl) (h7 : call7 Rl) (h8 : call8 Rl) (h9 : call9 Rl) (h10 : call10 Rl) (h11 : call11 Rl) (h12 : call12 Rl) (h13 : call13 Rl) (h14 : call14 Rl) (h15 : call15 Rl) (h16 : call16 Rl) (h17 : call17 Rl) (h18 : call18 Rl) (h19 : call19 Rl) (h20 : call20 Rl) (h21 : call21 Rl) (h22 : call22 Rl) (h23 : call23 Rl) (h24 : call24 Rl) (h25 : call25 Rl) (h26 : call26 Rl) (h27 : call27 Rl) (h28 : call28 Rl) (h29 : call29 Rl) (h30 : call30 Rl) (h31 : call31 Rl) (h32 : call32 Rl) (h33 : call33 Rl) (h34 : call34 Rl) (h35 : call35 Rl) (h36 : call36 Rl) (h37 : call37 Rl) (h38 : call38 Rl) (h39 : call39 Rl) (h40 : call40 Rl) (h41 : call41 Rl) (h42 : call42 Rl) (hL : gL g ≤ 3072) : ∀ (k i : Nat) (M : tM), gL g < i + 6 * k → i ≤ gL g → Rl M → ∃ M', TW g (iL nm) rL 600000 7302250 (some (ti 1)) M' (200 + i) (40000 + 114 * i) 18 [(0, tr 91 0), (1, tr 10 0), (2, tr 11 0), (3, ti (nI i))] [] M := by
  intro k
  induction k with
  | zero => intro i M h1 h2; omega
  | succ k ih =>
    intro i M hk hi hM
    have e6 : nI (gL g) - 6 < nI i ↔ gL g < i + 6 := by
      rw [Int32.lt_iff_toInt_lt, nI_toInt (by omega), show (6 : Int32) = nI 6 from rfl, pk_sub_toInt (by omega) (by omega)]
      omega
    by_cases hx : gL g < i + 6
    · refine ⟨M, ?_⟩
      refine tm_iload_n dL_law_18 rfl rfl ?_
      refine tm_aload_n dL_law_19 rfl rfl ?_
      refine tm_slen dL_law_20 ?_
      refine tm_bipush (v := 6) dL_law_21 (by decide) ?_
      refine tm_isub dL_law_23 ?_
      refine tm_icmp_gt (tgt := 1480) dL_law_24 (by decide) (fun _ => ?_) (fun q => absurd (e6.mpr hx) q)
      refine tm_iconst (v := 1) dL_law_1480 (by decide) ?_
      refine tm_widen (c2 := 600000) (s2 := 7302250) (by omega) (by omega) ?_
      exact tm_zret (by decide) rfl dL_law_1481
    · have hq : ∀ d, d < 6 → nI i + nI d = nI (i + d) := fun d _ => nI_add i d
      have hb : ∀ d, d < 6 → vp_in (nI i + nI d) (gL g) := fun d hd => by rw [hq d hd]; exact vp_in_nI (by omega) (by omega)
      have hb0 : vp_in (nI i) (gL g) := vp_in_nI (by omega) (by omega)
      have hend : ∀ (M2 : tM), Rl M2 → ∃ M', TW g (iL nm) rL 600000 7302250 (some (ti 1)) M' (200 + i + 6) (40000 + 114 * i + 682) 1474 [(0, tr 91 0), (1, tr 10 0), (2, tr 11 0), (3, ti (nI i))] [] M2 := by
        intro M2 h2
        obtain ⟨M', hM'⟩ := ih (i + 6) M2 (by omega) (by omega) h2
        refine ⟨M', ?_⟩
        refine tm_iinc (v := nI (i + 6)) (lc' := [(3, ti (nI (i + 6))), (0, tr 91 0), (1, tr 10 0), (2, tr 11 0)]) dL_law_1474 rfl (by rw [← nI_add]; rfl) (show 3 < 4 by decide) rfl ?_
        refine tm_goto (tgt := 18) dL_law_1477 (by decide) ?_
        refine tm_lcp [0, 1, 2, 3] rfl ?_
        exact tm_widen (by omega) (by omega) hM'
      obtain ⟨j, hj, ej⟩ := pk_andE (gx g (nI i).toNatClampNeg) (m := 63) 6 (by decide)
      have hpre : ∀ M', TW g (iL nm) rL 600000 7302250 (some (ti 1)) M' (200 + i) (40000 + 114 * i) 33 [(0, tr 91 0), (1, tr 10 0), (2, tr 11 0), (3, ti (nI i))] [ti (nI j)] M → TW g (iL nm) rL 600000 7302250 (some (ti 1)) M' (200 + i) (40000 + 114 * i) 18 [(0, tr 91 0), (1, tr 10 0), (2, tr 11 0), (3, ti (nI i))] [] M := by
        intro M' kk
        refine tm_iload_n dL_law_18 rfl rfl ?_
        refine tm_aload_n dL_law_19 rfl rfl ?_
        refine tm_slen dL_law_20 ?_
        refine tm_bipush (v := 6) dL_law_21 (by decide) ?_
        refine tm_isub dL_law_23 ?_
        refine tm_icmp_gt (tgt := 1480) dL_law_24 (by decide) (fun q => absurd (e6.mp q) hx) (fun _ => ?_)
        refine tm_aload_n dL_law_27 rfl rfl ?_
        refine tm_iload_n dL_law_28 rfl rfl ?_
        refine tm_sld dL_law_29 hb0 ?_
        refine tm_bipush (v := 63) dL_law_30 (by decide) ?_
        refine tm_iand dL_law_32 ?_
        refine tm_nmI ej.symm ?_
        exact kk
      by_cases h43 : j < 43
      · rcases (show j = 0 ∨ j = 1 ∨ j = 2 ∨ j = 3 ∨ j = 4 ∨ j = 5 ∨ j = 6 ∨ j = 7 ∨ j = 8 ∨ j = 9 ∨ j = 10 ∨ j = 11 ∨ j = 12 ∨ j = 13 ∨ j = 14 ∨ j = 15 ∨ j = 16 ∨ j = 17 ∨ j = 18 ∨ j = 19 ∨ j = 20 ∨ j = 21 ∨ j = 22 ∨ j = 23 ∨ j = 24 ∨ j = 25 ∨ j = 26 ∨ j = 27 ∨ j = 28 ∨ j = 29 ∨ j = 30 ∨ j = 31 ∨ j = 32 ∨ j = 33 ∨ j = 34 ∨ j = 35 ∨ j = 36 ∨ j = 37 ∨ j = 38 ∨ j = 39 ∨ j = 40 ∨ j = 41 ∨ j = 42 by omega) with rfl | rfl | rfl | rfl | rfl | rfl | rfl | rfl | rfl | rfl | rfl | rfl | rfl | rfl | rfl | rfl | rfl | rfl | rfl | rfl | rfl | rfl | rfl | rfl | rfl | rfl | rfl | rfl | rfl | rfl | rfl | rfl | rfl | rfl | rfl | rfl | rfl | rfl | rfl | rfl | rfl | rfl | rfl
        · obtain ⟨v, M1, M2, e1, e2, h2⟩ := h0 (gx g (nI i + 1).toNatClampNeg) ((((gx g (nI i + 2).toNatClampNeg).toInt64) <<< ((32 : Int32).toInt64 &&& 63)) ||| (((gx g (nI i + 3).toNatClampNeg).toInt64) &&& 4294967295)) (gx g (nI i + 4).toNatClampNeg) M hM
          obtain ⟨M', kk⟩ := hend M2 h2
          refine ⟨M', hpre M' ?_⟩
          refine tm_tableIn (tgt := 220) dL_law_33 (by decide) (by decide) rfl (by decide) ?_
          exact law_c0 (hb 1 (by decide)) (hb 2 (by decide)) (hb 3 (by decide)) (hb 4 (by decide)) (hb 5 (by decide)) e1 e2 (by omega) kk
        · obtain ⟨v, M1, M2, e1, e2, h2⟩ := h1 (gx g (nI i + 1).toNatClampNeg) (gx g (nI i + 2).toNatClampNeg) (gx g (nI i + 3).toNatClampNeg) (gx g (nI i + 4).toNatClampNeg) M hM
          obtain ⟨M', kk⟩ := hend M2 h2
          refine ⟨M', hpre M' ?_⟩
          refine tm_tableIn (tgt := 293) dL_law_33 (by decide) (by decide) rfl (by decide) ?_
          exact law_c1 (hb 1 (by decide)) (hb 2 (by decide)) (hb 3 (by decide)) (hb 4 (by decide)) (hb 5 (by decide)) e1 e2 (by omega) kk
        · obtain ⟨v, M1, M2, e1, e2, h2⟩ := h2 (gx g (nI i + 1).toNatClampNeg) (if (gx g (nI i + 2).toNatClampNeg) = 0 then 0 else 1) (gx g (nI i + 3).toNatClampNeg) (gx g (nI i + 4).toNatClampNeg) M (ite_01 _) hM
          obtain ⟨M', kk⟩ := hend M2 h2
          refine ⟨M', hpre M' ?_⟩
          refine tm_tableIn (tgt := 346) dL_law_33 (by decide) (by decide) rfl (by decide) ?_
          exact law_c2 (hb 1 (by decide)) (hb 2 (by decide)) (hb 3 (by decide)) (hb 4 (by decide)) (hb 5 (by decide)) e1 e2 (by omega) kk
        · obtain ⟨v, M1, M2, e1, e2, h2⟩ := h3 (gx g (nI i + 1).toNatClampNeg) (gx g (nI i + 2).toNatClampNeg) M hM
          obtain ⟨M', kk⟩ := hend M2 h2
          refine ⟨M', hpre M' ?_⟩
          refine tm_tableIn (tgt := 415) dL_law_33 (by decide) (by decide) rfl (by decide) ?_
          exact law_c3 (hb 1 (by decide)) (hb 2 (by decide)) (hb 3 (by decide)) (hb 4 (by decide)) (hb 5 (by decide)) e1 e2 (by omega) kk
        · obtain ⟨v, M1, M2, e1, e2, h2⟩ := h4 (gx g (nI i + 1).toNatClampNeg) (gx g (nI i + 2).toNatClampNeg) ((((gx g (nI i + 3).toNatClampNeg).toInt64) <<< ((32 : Int32).toInt64 &&& 63)) ||| (((gx g (nI i + 4).toNatClampNeg).toInt64) &&& 4294967295)) M hM
          obtain ⟨M', kk⟩ := hend M2 h2
          refine ⟨M', hpre M' ?_⟩
          refine tm_tableIn (tgt := 448) dL_law_33 (by decide) (by decide) rfl (by decide) ?_
          exact law_c4 (hb 1 (by decide)) (hb 2 (by decide)) (hb 3 (by decide)) (hb 4 (by decide)) (hb 5 (by decide)) e1 e2 (by omega) kk
        · obtain ⟨v, M1, M2, e1, e2, h2⟩ := h5 (gx g (nI i + 1).toNatClampNeg) (gx g (nI i + 2).toNatClampNeg) ((((gx g (nI i + 3).toNatClampNeg).toInt64) <<< ((32 : Int32).toInt64 &&& 63)) ||| (((gx g (nI i + 4).toNatClampNeg).toInt64) &&& 4294967295)) M hM
          obtain ⟨M', kk⟩ := hend M2 h2
          refine ⟨M', hpre M' ?_⟩
          refine tm_tableIn (tgt := 521) dL_law_33 (by decide) (by decide) rfl (by decide) ?_
          exact law_c5 (hb 1 (by decide)) (hb 2 (by decide)) (hb 3 (by decide)) (hb 4 (by decide)) (hb 5 (by decide)) e1 e2 (by omega) kk
        · obtain ⟨v, M1, M2, e1, e2, h2⟩ := h6 (gx g (nI i + 1).toNatClampNeg) (gx g (nI i + 2).toNatClampNeg) (gx g (nI i + 3).toNatClampNeg) (gx g (nI i + 4).toNatClampNeg) (gx g (nI i + 5).toNatClampNeg) M hM
          obtain ⟨M', kk⟩ := hend M2 h2
          refine ⟨M', hpre M' ?_⟩
          refine tm_tableIn (tgt := 594) dL_law_33 (by decide) (by decide) rfl (by decide) ?_
          exact law_c6 (hb 1 (by decide)) (hb 2 (by decide)) (hb 3 (by decide)) (hb 4 (by decide)) (hb 5 (by decide)) e1 e2 (by omega) kk
        · obtain ⟨v, M1, M2, e1, e2, h2⟩ := h7 (gx g (nI i + 1).toNatClampNeg) M hM
          obtain ⟨M', kk⟩ := hend M2 h2
          refine ⟨M', hpre M' ?_⟩
          refine tm_tableIn (tgt := 657) dL_law_33 (by decide) (by decide) rfl (by decide) ?_
          exact law_c7 (hb 1 (by decide)) (hb 2 (by decide)) (hb 3 (by decide)) (hb 4 (by decide)) (hb 5 (by decide)) e1 e2 (by omega) kk
        · obtain ⟨v, e1, e2, h2⟩ := h8 (gx g (nI i + 1).toNatClampNeg) (gx g (nI i + 2).toNatClampNeg) M hM
          obtain ⟨M', kk⟩ := hend M h2
          refine ⟨M', hpre M' ?_⟩
          refine tm_tableIn (tgt := 680) dL_law_33 (by decide) (by decide) rfl (by decide) ?_
          exact law_c8 (hb 1 (by decide)) (hb 2 (by decide)) (hb 3 (by decide)) (hb 4 (by decide)) (hb 5 (by decide)) e1 e2 (by omega) kk
        · obtain ⟨v, e1, e2, h2⟩ := h9 (gx g (nI i + 1).toNatClampNeg) (gx g (nI i + 2).toNatClampNeg) M hM
          obtain ⟨M', kk⟩ := hend M h2
          refine ⟨M', hpre M' ?_⟩
          refine tm_tableIn (tgt := 713) dL_law_33 (by decide) (by decide) rfl (by decide) ?_
          exact law_c9 (hb 1 (by decide)) (hb 2 (by decide)) (hb 3 (by decide)) (hb 4 (by decide)) (hb 5 (by decide)) e1 e2 (by omega) kk
        · obtain ⟨v, e1, e2, h2⟩ := h10 (gx g (nI i + 1).toNatClampNeg) (gx g (nI i + 2).toNatClampNeg) M hM
          obtain ⟨M', kk⟩ := hend M h2
          refine ⟨M', hpre M' ?_⟩
          refine tm_tableIn (tgt := 746) dL_law_33 (by decide) (by decide) rfl (by decide) ?_
          exact law_c10 (hb 1 (by decide)) (hb 2 (by decide)) (hb 3 (by decide)) (hb 4 (by decide)) (hb 5 (by decide)) e1 e2 (by omega) kk
        · obtain ⟨v, M1, M2, e1, e2, h2⟩ := h11  M hM
          obtain ⟨M', kk⟩ := hend M2 h2
          refine ⟨M', hpre M' ?_⟩
          refine tm_tableIn (tgt := 779) dL_law_33 (by decide) (by decide) rfl (by decide) ?_
          exact law_c11 (hb 1 (by decide)) (hb 2 (by decide)) (hb 3 (by decide)) (hb 4 (by decide)) (hb 5 (by decide)) e1 e2 (by omega) kk
        · obtain ⟨v, M1, M2, e1, e2, h2⟩ := h12 (gx g (nI i + 1).toNatClampNeg) M hM
          obtain ⟨M', kk⟩ := hend M2 h2
          refine ⟨M', hpre M' ?_⟩
          refine tm_tableIn (tgt := 792) dL_law_33 (by decide) (by decide) rfl (by decide) ?_
          exact law_c12 (hb 1 (by decide)) (hb 2 (by decide)) (hb 3 (by decide)) (hb 4 (by decide)) (hb 5 (by decide)) e1 e2 (by omega) kk
        · obtain ⟨v, M1, M2, e1, e2, h2⟩ := h13  M hM
          obtain ⟨M', kk⟩ := hend M2 h2
          refine ⟨M', hpre M' ?_⟩
          refine tm_tableIn (tgt := 815) dL_law_33 (by decide) (by decide) rfl (by decide) ?_
          exact law_c13 (hb 1 (by decide)) (hb 2 (by decide)) (hb 3 (by decide)) (hb 4 (by decide)) (hb 5 (by decide)) e1 e2 (by omega) kk
        · obtain ⟨v, M1, M2, e1, e2, h2⟩ := h14  M hM
          obtain ⟨M', kk⟩ := hend M2 h2
          refine ⟨M', hpre M' ?_⟩
          refine tm_tableIn (tgt := 828) dL_law_33 (by decide) (by decide) rfl (by decide) ?_
          exact law_c14 (hb 1 (by decide)) (hb 2 (by decide)) (hb 3 (by decide)) (hb 4 (by decide)) (hb 5 (by decide)) e1 e2 (by omega) kk
        · obtain ⟨v, M1, M2, e1, e2, h2⟩ := h15 (gx g (nI i + 1).toNatClampNeg) M hM
          obtain ⟨M', kk⟩ := hend M2 h2
          refine ⟨M', hpre M' ?_⟩
          refine tm_tableIn (tgt := 841) dL_law_33 (by decide) (by decide) rfl (by decide) ?_
          exact law_c15 (hb 1 (by decide)) (hb 2 (by decide)) (hb 3 (by decide)) (hb 4 (by decide)) (hb 5 (by decide)) e1 e2 (by omega) kk
        · obtain ⟨v, M1, M2, e1, e2, h2⟩ := h16 (gx g (nI i + 1).toNatClampNeg) M hM
          obtain ⟨M', kk⟩ := hend M2 h2
          refine ⟨M', hpre M' ?_⟩
          refine tm_tableIn (tgt := 864) dL_law_33 (by decide) (by decide) rfl (by decide) ?_
          exact law_c16 (hb 1 (by decide)) (hb 2 (by decide)) (hb 3 (by decide)) (hb 4 (by decide)) (hb 5 (by decide)) e1 e2 (by omega) kk
        · obtain ⟨v, M1, M2, e1, e2, h2⟩ := h17 (gx g (nI i + 1).toNatClampNeg) M hM
          obtain ⟨M', kk⟩ := hend M2 h2
          refine ⟨M', hpre M' ?_⟩
          refine tm_tableIn (tgt := 887) dL_law_33 (by decide) (by decide) rfl (by decide) ?_
          exact law_c17 (hb 1 (by decide)) (hb 2 (by decide)) (hb 3 (by decide)) (hb 4 (by decide)) (hb 5 (by decide)) e1 e2 (by omega) kk
        · obtain ⟨v, e1, e2, h2⟩ := h18  M hM
          obtain ⟨M', kk⟩ := hend M h2
          refine ⟨M', hpre M' ?_⟩
          refine tm_tableIn (tgt := 910) dL_law_33 (by decide) (by decide) rfl (by decide) ?_
          exact law_c18 (hb 1 (by decide)) (hb 2 (by decide)) (hb 3 (by decide)) (hb 4 (by decide)) (hb 5 (by decide)) e1 e2 (by omega) kk
        · obtain ⟨v, M1, M2, e1, e2, h2⟩ := h19  M hM
          obtain ⟨M', kk⟩ := hend M2 h2
          refine ⟨M', hpre M' ?_⟩
          refine tm_tableIn (tgt := 923) dL_law_33 (by decide) (by decide) rfl (by decide) ?_
          exact law_c19 (hb 1 (by decide)) (hb 2 (by decide)) (hb 3 (by decide)) (hb 4 (by decide)) (hb 5 (by decide)) e1 e2 (by omega) kk
        · obtain ⟨v, e1, e2, h2⟩ := h20 (gx g (nI i + 1).toNatClampNeg) M hM
          obtain ⟨M', kk⟩ := hend M h2
          refine ⟨M', hpre M' ?_⟩
          refine tm_tableIn (tgt := 936) dL_law_33 (by decide) (by decide) rfl (by decide) ?_
          exact law_c20 (hb 1 (by decide)) (hb 2 (by decide)) (hb 3 (by decide)) (hb 4 (by decide)) (hb 5 (by decide)) e1 e2 (by omega) kk
        · obtain ⟨v, e1, e2, h2⟩ := h21 (gx g (nI i + 1).toNatClampNeg) M hM
          obtain ⟨M', kk⟩ := hend M h2
          refine ⟨M', hpre M' ?_⟩
          refine tm_tableIn (tgt := 959) dL_law_33 (by decide) (by decide) rfl (by decide) ?_
          exact law_c21 (hb 1 (by decide)) (hb 2 (by decide)) (hb 3 (by decide)) (hb 4 (by decide)) (hb 5 (by decide)) e1 e2 (by omega) kk
        · obtain ⟨v, e1, e2, h2⟩ := h22 (gx g (nI i + 1).toNatClampNeg) M hM
          obtain ⟨M', kk⟩ := hend M h2
          refine ⟨M', hpre M' ?_⟩
          refine tm_tableIn (tgt := 982) dL_law_33 (by decide) (by decide) rfl (by decide) ?_
          exact law_c22 (hb 1 (by decide)) (hb 2 (by decide)) (hb 3 (by decide)) (hb 4 (by decide)) (hb 5 (by decide)) e1 e2 (by omega) kk
        · obtain ⟨v, M2, e1, e2, h2⟩ := h23 (gx g (nI i + 1).toNatClampNeg) (gx g (nI i + 2).toNatClampNeg) M hM
          obtain ⟨M', kk⟩ := hend M2 h2
          refine ⟨M', hpre M' ?_⟩
          refine tm_tableIn (tgt := 1005) dL_law_33 (by decide) (by decide) rfl (by decide) ?_
          exact law_c23 (hb 1 (by decide)) (hb 2 (by decide)) (hb 3 (by decide)) (hb 4 (by decide)) (hb 5 (by decide)) e1 e2 (by omega) kk
        · obtain ⟨v, M1, M2, e1, e2, h2⟩ := h24 (gx g (nI i + 1).toNatClampNeg) M hM
          obtain ⟨M', kk⟩ := hend M2 h2
          refine ⟨M', hpre M' ?_⟩
          refine tm_tableIn (tgt := 1038) dL_law_33 (by decide) (by decide) rfl (by decide) ?_
          exact law_c24 (hb 1 (by decide)) (hb 2 (by decide)) (hb 3 (by decide)) (hb 4 (by decide)) (hb 5 (by decide)) e1 e2 (by omega) kk
        · obtain ⟨v, M1, M2, e1, e2, h2⟩ := h25  M hM
          obtain ⟨M', kk⟩ := hend M2 h2
          refine ⟨M', hpre M' ?_⟩
          refine tm_tableIn (tgt := 1061) dL_law_33 (by decide) (by decide) rfl (by decide) ?_
          exact law_c25 (hb 1 (by decide)) (hb 2 (by decide)) (hb 3 (by decide)) (hb 4 (by decide)) (hb 5 (by decide)) e1 e2 (by omega) kk
        · obtain ⟨v, M1, M2, e1, e2, h2⟩ := h26 (gx g (nI i + 1).toNatClampNeg) (gx g (nI i + 2).toNatClampNeg) M hM
          obtain ⟨M', kk⟩ := hend M2 h2
          refine ⟨M', hpre M' ?_⟩
          refine tm_tableIn (tgt := 1074) dL_law_33 (by decide) (by decide) rfl (by decide) ?_
          exact law_c26 (hb 1 (by decide)) (hb 2 (by decide)) (hb 3 (by decide)) (hb 4 (by decide)) (hb 5 (by decide)) e1 e2 (by omega) kk
        · obtain ⟨v, M1, M2, e1, e2, h2⟩ := h27 (if (gx g (nI i + 1).toNatClampNeg) = 0 then 0 else 1) M (ite_01 _) hM
          obtain ⟨M', kk⟩ := hend M2 h2
          refine ⟨M', hpre M' ?_⟩
          refine tm_tableIn (tgt := 1107) dL_law_33 (by decide) (by decide) rfl (by decide) ?_
          exact law_c27 (hb 1 (by decide)) (hb 2 (by decide)) (hb 3 (by decide)) (hb 4 (by decide)) (hb 5 (by decide)) e1 e2 (by omega) kk
        · obtain ⟨v, e1, e2, h2⟩ := h28 (gx g (nI i + 1).toNatClampNeg) M hM
          obtain ⟨M', kk⟩ := hend M h2
          refine ⟨M', hpre M' ?_⟩
          refine tm_tableIn (tgt := 1146) dL_law_33 (by decide) (by decide) rfl (by decide) ?_
          exact law_c28 (hb 1 (by decide)) (hb 2 (by decide)) (hb 3 (by decide)) (hb 4 (by decide)) (hb 5 (by decide)) e1 e2 (by omega) kk
        · obtain ⟨v, M1, M2, e1, e2, h2⟩ := h29 (gx g (nI i + 1).toNatClampNeg) M hM
          obtain ⟨M', kk⟩ := hend M2 h2
          refine ⟨M', hpre M' ?_⟩
          refine tm_tableIn (tgt := 1169) dL_law_33 (by decide) (by decide) rfl (by decide) ?_
          exact law_c29 (hb 1 (by decide)) (hb 2 (by decide)) (hb 3 (by decide)) (hb 4 (by decide)) (hb 5 (by decide)) e1 e2 (by omega) kk
        · obtain ⟨v, e1, e2, h2⟩ := h30  M hM
          obtain ⟨M', kk⟩ := hend M h2
          refine ⟨M', hpre M' ?_⟩
          refine tm_tableIn (tgt := 1192) dL_law_33 (by decide) (by decide) rfl (by decide) ?_
          exact law_c30 (hb 1 (by decide)) (hb 2 (by decide)) (hb 3 (by decide)) (hb 4 (by decide)) (hb 5 (by decide)) e1 e2 (by omega) kk
        · obtain ⟨v, e1, e2, h2⟩ := h31 (gx g (nI i + 1).toNatClampNeg) M hM
          obtain ⟨M', kk⟩ := hend M h2
          refine ⟨M', hpre M' ?_⟩
          refine tm_tableIn (tgt := 1206) dL_law_33 (by decide) (by decide) rfl (by decide) ?_
          exact law_c31 (hb 1 (by decide)) (hb 2 (by decide)) (hb 3 (by decide)) (hb 4 (by decide)) (hb 5 (by decide)) e1 e2 (by omega) kk
        · obtain ⟨v, M1, M2, e1, e2, h2⟩ := h32 (gx g (nI i + 1).toNatClampNeg) (gx g (nI i + 2).toNatClampNeg) M hM
          obtain ⟨M', kk⟩ := hend M2 h2
          refine ⟨M', hpre M' ?_⟩
          refine tm_tableIn (tgt := 1229) dL_law_33 (by decide) (by decide) rfl (by decide) ?_
          exact law_c32 (hb 1 (by decide)) (hb 2 (by decide)) (hb 3 (by decide)) (hb 4 (by decide)) (hb 5 (by decide)) e1 e2 (by omega) kk
        · obtain ⟨v, M1, M2, e1, e2, h2⟩ := h33 (gx g (nI i + 1).toNatClampNeg) M hM
          obtain ⟨M', kk⟩ := hend M2 h2
          refine ⟨M', hpre M' ?_⟩
          refine tm_tableIn (tgt := 1262) dL_law_33 (by decide) (by decide) rfl (by decide) ?_
          exact law_c33 (hb 1 (by decide)) (hb 2 (by decide)) (hb 3 (by decide)) (hb 4 (by decide)) (hb 5 (by decide)) e1 e2 (by omega) kk
        · obtain ⟨v, M1, M2, e1, e2, h2⟩ := h34  M hM
          obtain ⟨M', kk⟩ := hend M2 h2
          refine ⟨M', hpre M' ?_⟩
          refine tm_tableIn (tgt := 1285) dL_law_33 (by decide) (by decide) rfl (by decide) ?_
          exact law_c34 (hb 1 (by decide)) (hb 2 (by decide)) (hb 3 (by decide)) (hb 4 (by decide)) (hb 5 (by decide)) e1 e2 (by omega) kk
        · obtain ⟨v, e1, e2, h2⟩ := h35 (gx g (nI i + 1).toNatClampNeg) M hM
          obtain ⟨M', kk⟩ := hend M h2
          refine ⟨M', hpre M' ?_⟩
          refine tm_tableIn (tgt := 1298) dL_law_33 (by decide) (by decide) rfl (by decide) ?_
          exact law_c35 (hb 1 (by decide)) (hb 2 (by decide)) (hb 3 (by decide)) (hb 4 (by decide)) (hb 5 (by decide)) e1 e2 (by omega) kk
        · obtain ⟨v, M1, M2, e1, e2, h2⟩ := h36 (gx g (nI i + 1).toNatClampNeg) (gx g (nI i + 2).toNatClampNeg) M hM
          obtain ⟨M', kk⟩ := hend M2 h2
          refine ⟨M', hpre M' ?_⟩
          refine tm_tableIn (tgt := 1321) dL_law_33 (by decide) (by decide) rfl (by decide) ?_
          exact law_c36 (hb 1 (by decide)) (hb 2 (by decide)) (hb 3 (by decide)) (hb 4 (by decide)) (hb 5 (by decide)) e1 e2 (by omega) kk
        · obtain ⟨v, M1, M2, e1, e2, h2⟩ := h37 (gx g (nI i + 1).toNatClampNeg) (gx g (nI i + 2).toNatClampNeg) M hM
          obtain ⟨M', kk⟩ := hend M2 h2
          refine ⟨M', hpre M' ?_⟩
          refine tm_tableIn (tgt := 1354) dL_law_33 (by decide) (by decide) rfl (by decide) ?_
          exact law_c37 (hb 1 (by decide)) (hb 2 (by decide)) (hb 3 (by decide)) (hb 4 (by decide)) (hb 5 (by decide)) e1 e2 (by omega) kk
        · obtain ⟨v, e1, e2, h2⟩ := h38  M hM
          obtain ⟨M', kk⟩ := hend M h2
          refine ⟨M', hpre M' ?_⟩
          refine tm_tableIn (tgt := 1387) dL_law_33 (by decide) (by decide) rfl (by decide) ?_
          exact law_c38 (hb 1 (by decide)) (hb 2 (by decide)) (hb 3 (by decide)) (hb 4 (by decide)) (hb 5 (by decide)) e1 e2 (by omega) kk
        · obtain ⟨v, e1, e2, h2⟩ := h39 (gx g (nI i + 1).toNatClampNeg) M hM
          obtain ⟨M', kk⟩ := hend M h2
          refine ⟨M', hpre M' ?_⟩
          refine tm_tableIn (tgt := 1401) dL_law_33 (by decide) (by decide) rfl (by decide) ?_
          exact law_c39 (hb 1 (by decide)) (hb 2 (by decide)) (hb 3 (by decide)) (hb 4 (by decide)) (hb 5 (by decide)) e1 e2 (by omega) kk
        · obtain ⟨v, e1, e2, h2⟩ := h40  M hM
          obtain ⟨M', kk⟩ := hend M h2
          refine ⟨M', hpre M' ?_⟩
          refine tm_tableIn (tgt := 1424) dL_law_33 (by decide) (by decide) rfl (by decide) ?_
          exact law_c40 (hb 1 (by decide)) (hb 2 (by decide)) (hb 3 (by decide)) (hb 4 (by decide)) (hb 5 (by decide)) e1 e2 (by omega) kk
        · obtain ⟨v, e1, e2, h2⟩ := h41 (gx g (nI i + 1).toNatClampNeg) M hM
          obtain ⟨M', kk⟩ := hend M h2
          refine ⟨M', hpre M' ?_⟩
          refine tm_tableIn (tgt := 1437) dL_law_33 (by decide) (by decide) rfl (by decide) ?_
          exact law_c41 (hb 1 (by decide)) (hb 2 (by decide)) (hb 3 (by decide)) (hb 4 (by decide)) (hb 5 (by decide)) e1 e2 (by omega) kk
        · obtain ⟨v, e1, e2, h2⟩ := h42  M hM
          obtain ⟨M', kk⟩ := hend M h2
          refine ⟨M', hpre M' ?_⟩
          refine tm_tableIn (tgt := 1460) dL_law_33 (by decide) (by decide) rfl (by decide) ?_
          exact law_c42 (hb 1 (by decide)) (hb 2 (by decide)) (hb 3 (by decide)) (hb 4 (by decide)) (hb 5 (by decide)) e1 e2 (by omega) kk
      · obtain ⟨M', kk⟩ := hend M hM
        refine ⟨M', hpre M' ?_⟩
        refine tm_tableOut (tgt := 1474) dL_law_33 (Or.inr (by rw [nI_toInt (by omega)]; omega)) (by decide) ?_
        exact tm_widen (by omega) (by omega) kk
