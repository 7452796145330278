/-! calls that only tell -/
theorem nlt_le {a b : Int32} (h : b ≤ a) : ¬ a < b := by
  rw [Int32.lt_iff_toInt_lt]
  rw [Int32.le_iff_toInt_le] at h
  omega
theorem nle_lt {a b : Int32} (h : a < b) : ¬ b ≤ a := by
  rw [Int32.le_iff_toInt_le]
  rw [Int32.lt_iff_toInt_lt] at h
  omega
theorem cPart_in {M X : tM} {N : NG} {p : Nat} (hN : NOK N) (hl : Len M) (h : Cg M X N) (hp : p < nP N) : fX1_partAt (nI p) M = some (some p) := by
  have h1 := hN.1.1
  rw [fX1_partAt, if_neg (nI_pos (by omega)), h.1.1, if_pos (nI_lt hp (by omega)), ln200 hl, chk_nI (by omega) (by omega), bnd_eq, nI_clamp (by omega), (h.2.1 p hp).1.1]
theorem cPart_out {M X : tM} {N : NG} {a : Int32} (h : Cg M X N) (ha : a < 0 ∨ nI (nP N) ≤ a) : fX1_partAt a M = some none := by
  rw [fX1_partAt, h.1.1]
  by_cases h0 : a < 0
  · rw [if_pos h0]
  · rw [if_neg h0, if_neg (nlt_le (ha.resolve_left h0))]
theorem cLine_in {M X : tM} {N : NG} {l : Nat} (hN : NOK N) (hl : Len M) (h : Cg M X N) (hp : l < nL N) : fX1_lineAt (nI l) M = some (some l) := by
  have h1 := hN.1.2
  rw [fX1_lineAt, if_neg (nI_pos (by omega)), h.1.2, if_pos (nI_lt hp (by omega)), ln201 hl, chk_nI (by omega) (by omega), bnd_eq, nI_clamp (by omega), (h.2.2.1 l hp).1.1]
theorem cLine_out {M X : tM} {N : NG} {a : Int32} (h : Cg M X N) (ha : a < 0 ∨ nI (nL N) ≤ a) : fX1_lineAt a M = some none := by
  rw [fX1_lineAt, h.1.2]
  by_cases h0 : a < 0
  · rw [if_pos h0]
  · rw [if_neg h0, if_neg (nlt_le (ha.resolve_left h0))]
theorem inI_in {M : tM} {j n : Nat} (h : j < n) (hn : n < 2 ^ 30) : fX11_in (nI j) 0 (nI n - 1) M = some 1 :=
  in_in (nI_pos (by omega)) (by rw [L32 1, pk_sub (by omega)]; exact nI_nlt (by omega) (by omega))
theorem inI_out {M : tM} {a : Int32} {n : Nat} (hn : n < 2 ^ 30) (ha : a < 0 ∨ nI n ≤ a) : fX11_in a 0 (nI n - 1) M = some 0 :=
  in_out (ha.imp id (fun q => by
    rw [Int32.lt_iff_toInt_lt, sub1_toInt (by omega)]
    rw [Int32.le_iff_toInt_le, nI_toInt (by omega)] at q
    omega))
theorem inI_none {M : tM} (a : Int32) : fX11_in a 0 ((-9) - 1) M = some 0 := by
  by_cases h : a < 0
  · exact in_out (Or.inl h)
  · refine in_out (Or.inr ?_)
    have e : ((-9 : Int32) - 1).toInt = -10 := by decide
    have e0 : (0 : Int32).toInt = 0 := by decide
    rw [Int32.lt_iff_toInt_lt, e0] at h
    rw [Int32.lt_iff_toInt_lt, e]
    omega
theorem mLine_in {M : tM} {N : NG} {l : Nat} (hN : NOK N) (h : Gr M N) (hp : l < nL N) : fX11_isLine (nI l) M = some 1 := by
  have h1 := hN.1.2
  rw [fX11_isLine, h.1.2, inI_in hp (by omega)]
  rfl
theorem mLine_out {M : tM} {N : NG} {a : Int32} (hN : NOK N) (h : Gr M N) (ha : a < 0 ∨ nI (nL N) ≤ a) : fX11_isLine a M = some 0 := by
  have h1 := hN.1.2
  rw [fX11_isLine, h.1.2, inI_out (by omega) ha]
  rfl
theorem cs5 (a : Int32) : a = 0 ∨ a = 1 ∨ a = 2 ∨ a = 3 ∨ a = 4 ∨ (a < 0 ∨ nI 5 ≤ a) := by
  rcases ix_cases a (n := 5) (by decide) with ⟨j, hj, rfl⟩ | h
  · rcases (show j = 0 ∨ j = 1 ∨ j = 2 ∨ j = 3 ∨ j = 4 by omega) with rfl | rfl | rfl | rfl | rfl
    · exact Or.inl rfl
    · exact Or.inr (Or.inl rfl)
    · exact Or.inr (Or.inr (Or.inl rfl))
    · exact Or.inr (Or.inr (Or.inr (Or.inl rfl)))
    · exact Or.inr (Or.inr (Or.inr (Or.inr (Or.inl rfl))))
  · exact Or.inr (Or.inr (Or.inr (Or.inr (Or.inr h))))
theorem in5 {a : Int32} {M : tM} (h : a = 0 ∨ a = 1 ∨ a = 2 ∨ a = 3 ∨ a = 4) : fX11_in a 0 4 M = some 1 ∧ ¬ a < 0 ∧ a ≤ 4 := by
  rcases h with rfl | rfl | rfl | rfl | rfl <;> exact ⟨in_in (by decide) (by decide), by decide, by decide⟩
theorem out5 {a : Int32} {M : tM} (h : a < 0 ∨ nI 5 ≤ a) : fX11_in a 0 4 M = some 0 ∧ (a < 0 ∨ ¬ a ≤ 4) := by
  have h4 : (4 : Int32).toInt = 4 := by decide
  have h5 : (nI 5).toInt = 5 := by decide
  have q : a < 0 ∨ 4 < a := h.imp id (fun q => by
    rw [Int32.le_iff_toInt_le, h5] at q
    rw [Int32.lt_iff_toInt_lt, h4]; omega)
  exact ⟨in_out q, q.imp id nle_lt⟩
/-- told(), without its tests -/
def tw (M : tM) (N : NG) (p : Nat) (w : Int32) : Int32 := if w = 0 then nI (nD N p) else if w = 1 then nI (nH N p) else if w = 2 then mI M 1210 0 p else if w = 3 then mI M 1211 0 p else mI M 1206 0 p
theorem tellsM {M : tM} {N : NG} {p : Nat} (hN : NOK N) (hl : Len M) (hG : Gr M N) (hp : p < nP N) (w : Int32) : fX11_tells (nI p) w M = some (tw M N p w) := by
  have h1 := hN.1.1
  have hg := hG.2.1 p hp
  unfold fX11_tells tw
  simp (disch := omega) only [ln1203 hl, ln1205 hl, ln1210 hl, ln1211 hl, ln1206 hl, chk_nI, nI_clamp, hg.1, hg.2]
  repeat' split
  all_goals rfl
theorem toldC {M : tM} {N : NG} {p : Nat} (hC : Cg M M N) (hT : Ct M M N) (hp : p < nP N) {w : Int32} (h : w = 0 ∨ w = 1 ∨ w = 2 ∨ w = 3 ∨ w = 4) : fX7_toldOf p w M = some (tw M N p w) := by
  have hP := hC.2.1 p hp
  have ht := hT p hp
  rcases h with rfl | rfl | rfl | rfl | rfl
  · rw [fX7_toldOf, if_neg (by decide), if_pos rfl, hP.1.2.2.1]; rfl
  · rw [fX7_toldOf, if_neg (by decide), if_neg (by decide), if_pos rfl, hP.1.2.2.2.2.1]; rfl
  · rw [fX7_toldOf, if_neg (by decide), if_neg (by decide), if_neg (by decide), if_pos rfl, ht.1.1]; rfl
  · rw [fX7_toldOf, if_neg (by decide), if_neg (by decide), if_neg (by decide), if_neg (by decide), if_pos rfl, ht.1.2]; rfl
  · rw [fX7_toldOf, if_pos (by decide), bnd_eq]
    show _ = some (mI M 1206 0 p)
    rcases hP.2 with ⟨h1, h2⟩ | ⟨r, -, h1, h2, h3, h4, -⟩
    · rw [h2, if_pos rfl, h1]
    · rw [h3, if_neg (by simp), bnd_eq, Option.bind_some, h4, h2]
theorem c8 : call8 Rel := by
  rintro a1 a2 M ⟨N, hA⟩
  obtain ⟨⟨hN, hl, hG⟩, hC, hT, hV, -⟩ := id hA
  have hb := hN.1
  rcases ix_cases a1 (n := nP N) (by omega) with ⟨p, hp, rfl⟩ | ha
  · have key : (a2 = 0 ∨ a2 = 1 ∨ a2 = 2 ∨ a2 = 3 ∨ a2 = 4) ∨ (a2 < 0 ∨ nI 5 ≤ a2) := by
      rcases cs5 a2 with h | h | h | h | h | h
      · exact Or.inl (Or.inl h)
      · exact Or.inl (Or.inr (Or.inl h))
      · exact Or.inl (Or.inr (Or.inr (Or.inl h)))
      · exact Or.inl (Or.inr (Or.inr (Or.inr (Or.inl h))))
      · exact Or.inl (Or.inr (Or.inr (Or.inr (Or.inr h))))
      · exact Or.inr h
    rcases key with h | h
    · obtain ⟨e1, e2, e3⟩ := in5 (M := M) h
      refine ⟨tw M N p a2, ?_, ?_, N, hA⟩
      · rw [fX10_told, cPart_in hN hl hC hp, Option.bind_some, if_neg (by simp), if_neg e2, if_pos e3, Option.bind_some, toldC hC hT hp h]; rfl
      · rw [fX11_told, mPart_in hN hG hp, Option.bind_some, if_neg (by decide), e1, Option.bind_some, if_neg (by decide), tellsM hN hl hG hp]; rfl
    · obtain ⟨e1, e2⟩ := out5 (M := M) h
      refine ⟨-1, ?_, ?_, N, hA⟩
      · rw [fX10_told, cPart_in hN hl hC hp, Option.bind_some, if_neg (by simp)]
        by_cases q : a2 < 0
        · rw [if_pos q]
        · rw [if_neg q, if_neg (e2.resolve_left q)]
      · rw [fX11_told, mPart_in hN hG hp, Option.bind_some, if_neg (by decide), e1]; rfl
  · rw [fX10_told, fX11_told, cPart_out hC ha, mPart_out hN hG ha]
    exact ⟨-1, rfl, rfl, N, hA⟩
theorem c18 : call18 Rel := by
  rintro M ⟨N, hA⟩
  obtain ⟨-, -, -, -, hF, -⟩ := id hA
  exact ⟨_, rfl, by rw [fX11_tries, hF.2.2.2.2], N, hA⟩
theorem c30 : call30 Rel := by
  rintro M ⟨N, hA⟩
  obtain ⟨-, -, -, -, hF, -⟩ := id hA
  exact ⟨_, rfl, by rw [fX11_gave, hF.2.2.2.1], N, hA⟩
theorem c38 : call38 Rel := by
  rintro M ⟨N, hA⟩
  obtain ⟨-, -, -, -, hF, -⟩ := id hA
  exact ⟨_, rfl, by rw [fX11_asked, hF.2.2.1], N, hA⟩
theorem c40 : call40 Rel := by
  rintro M ⟨N, hA⟩
  obtain ⟨-, -, -, -, hF, -⟩ := id hA
  exact ⟨_, rfl, by rw [fX11_finding, hF.1], N, hA⟩
theorem c41 : call41 Rel := by
  rintro a1 M ⟨N, hA⟩
  obtain ⟨⟨hN, hl, hG⟩, -, -, -, hF, -⟩ := id hA
  rw [fX10_findings, fX11_findings, ln1110 hl, ln1201 hl]
  have e5 : (5 : Int32).toInt = 5 := by decide
  have e1 : (1 : Int32).toInt = 1 := by decide
  by_cases h1 : a1 < 1
  · rw [if_pos h1, in_out (Or.inl h1)]
    exact ⟨-1, rfl, rfl, N, hA⟩
  · by_cases h5 : a1 ≤ 5
    · obtain ⟨j, hj, rfl⟩ := nI_of2 (n := 5) e5 (fun q => h1 (by rw [Int32.lt_iff_toInt_lt] at q ⊢; rw [show (0 : Int32).toInt = 0 by decide] at q; omega)) h5
      rw [if_neg h1, if_pos h5, in_in h1 (nlt_le h5), Option.bind_some, if_neg (by decide), chk_nI (by omega) (by omega), chk_nI (by omega) (by omega), nI_clamp (by omega), hF.2.1 j (by omega)]
      exact ⟨_, rfl, rfl, N, hA⟩
    · rw [if_neg h1, if_neg h5, in_out (Or.inr (by rw [Int32.lt_iff_toInt_lt]; rw [Int32.le_iff_toInt_le] at h5; omega))]
      exact ⟨-1, rfl, rfl, N, hA⟩
theorem c31 : call31 Rel := by
  rintro a1 M ⟨N, hA⟩
  obtain ⟨⟨hN, hl, hG⟩, -, -, -, -, hR, -⟩ := id hA
  obtain ⟨t, ht, r1, r2, r3⟩ := hR
  rw [fX10_trace, fX9_traceAt, fX11_trace, r1, r2, ln1005 hl, ln1227 hl]
  rcases ix_cases a1 (n := t) (by omega) with ⟨j, hj, rfl⟩ | ha
  · rw [inI_in hj (by omega), if_neg (nI_pos (by omega)), if_pos (nI_lt hj (by omega)), Option.bind_some, if_neg (by decide), chk_nI (by omega) (by omega), chk_nI (by omega) (by omega), nI_clamp (by omega), r3 j hj]
    exact ⟨_, rfl, rfl, N, hA⟩
  · rw [inI_out (by omega) ha]
    refine ⟨-9, ?_, rfl, N, hA⟩
    by_cases q : a1 < 0
    · rw [if_pos q]; rfl
    · rw [if_neg q, if_neg (nlt_le (ha.resolve_left q))]; rfl
theorem c20 : call20 Rel := by
  rintro a1 M ⟨N, hA⟩
  obtain ⟨⟨hN, hl, hG⟩, -, -, -, -, -, -, hO, -⟩ := id hA
  rw [fX10_bracket, fX6_itemAt, fX11_bracket, ln706 hl, ln1259 hl]
  rcases hO with ⟨o1, o2⟩ | ⟨m, hm, o1, o2, o3⟩
  · rw [o1, o2, inI_none]
    refine ⟨-9, ?_, rfl, N, hA⟩
    by_cases q : a1 < 0
    · rw [if_pos q]; rfl
    · rw [if_neg q, if_neg q]; rfl
  · rw [o1, o2]
    rcases ix_cases a1 (n := m) (by omega) with ⟨j, hj, rfl⟩ | ha
    · rw [inI_in hj (by omega), if_neg (nI_pos (by omega)), if_pos (nI_lt hj (by omega)), Option.bind_some, if_neg (by decide), chk_nI (by omega) (by omega), chk_nI (by omega) (by omega), nI_clamp (by omega), o3 j hj]
      exact ⟨_, rfl, rfl, N, hA⟩
    · rw [inI_out (by omega) ha]
      refine ⟨-9, ?_, rfl, N, hA⟩
      by_cases q : a1 < 0
      · rw [if_pos q]; rfl
      · rw [if_neg q, if_neg (nlt_le (ha.resolve_left q))]; rfl
theorem c21 : call21 Rel := by
  rintro a1 M ⟨N, hA⟩
  obtain ⟨⟨hN, hl, hG⟩, -, -, -, -, -, -, -, hS, -⟩ := id hA
  rw [fX10_firing, fX8_has, fX11_firing, ln902 hl, ln1242 hl]
  rcases hS with ⟨o1, o2, -⟩ | ⟨z, hz1, hz2, o1, o2, o3, -⟩
  · rw [o1, o2, inI_none]
    refine ⟨-9, ?_, rfl, N, hA⟩
    by_cases q : a1 < 0
    · rw [if_pos q]; rfl
    · rw [if_neg q, if_pos (show (0 : Int32) ≤ a1 by rw [Int32.lt_iff_toInt_lt] at q; rw [Int32.le_iff_toInt_le]; omega)]; rfl
  · rw [o1, o2]
    rcases ix_cases a1 (n := z) (by omega) with ⟨j, hj, rfl⟩ | ha
    · obtain ⟨p, hp, q1, q2⟩ := o3 j hj
      rw [inI_in hj (by omega), if_neg (nI_pos (by omega)), if_neg (nI_ge hj (by omega)), Option.bind_some, Option.bind_some, if_neg (by decide), if_neg (by decide), chk_nI (by omega) (by omega), chk_nI (by omega) (by omega), nI_clamp (by omega), q1, q2]
      exact ⟨_, rfl, rfl, N, hA⟩
    · rw [inI_out (by omega) ha]
      refine ⟨-9, ?_, rfl, N, hA⟩
      by_cases q : a1 < 0
      · rw [if_pos q]; rfl
      · rw [if_neg q, if_pos (ha.resolve_left q)]; rfl
theorem c22 : call22 Rel := by
  rintro a1 M ⟨N, hA⟩
  obtain ⟨⟨hN, hl, hG⟩, hC, -, -, -, -, -, -, hS, -⟩ := id hA
  have hb := hN.1
  rcases ix_cases a1 (n := nL N) (by omega) with ⟨l, hp, rfl⟩ | ha
  · rcases hS with ⟨o1, o2, -⟩ | ⟨z, hz1, hz2, o1, o2, -, -, o3, -⟩
    · refine ⟨-9, ?_, ?_, N, hA⟩
      · rw [fX10_store, cLine_in hN hl hC hp, Option.bind_some, if_neg (by simp), o2, if_pos rfl]
      · rw [fX11_store, mLine_in hN hG hp, Option.bind_some, if_neg (by decide), o1, if_neg (by decide)]
    · refine ⟨mI M 1244 0 l, ?_, ?_, N, hA⟩
      · rw [fX10_store, cLine_in hN hl hC hp, Option.bind_some, if_neg (by simp), o2, if_neg (nI_ne0 (by omega) (by omega)), ln904 hl, chk_nI (by omega) (by omega), nI_clamp (by omega), o3 l hp]
      · rw [fX11_store, mLine_in hN hG hp, Option.bind_some, if_neg (by decide), o1, if_pos (nI_pos' (by omega)), ln1244 hl, chk_nI (by omega) (by omega), nI_clamp (by omega)]
  · rw [fX10_store, fX11_store, cLine_out hC ha, mLine_out hN hG ha]
    exact ⟨-1, rfl, rfl, N, hA⟩
theorem c35 : call35 Rel := by
  rintro a1 M ⟨N, hA⟩
  obtain ⟨⟨hN, hl, hG⟩, hC, -, hV, -⟩ := id hA
  have hb := hN.1
  rcases ix_cases a1 (n := nL N) (by omega) with ⟨l, hp, rfl⟩ | ha
  · obtain ⟨f, -, -, -, -, hv⟩ := hV
    obtain ⟨o, h, g, -, -, -, e1, e2, -⟩ := hv l hp
    refine ⟨nI o, ?_, ?_, N, hA⟩
    · rw [fX10_things, cLine_in hN hl hC hp, Option.bind_some, if_neg (by simp), Option.bind_some, e2]
    · rw [fX11_things, mLine_in hN hG hp, Option.bind_some, if_neg (by decide), ln1221 hl, chk_nI (by omega) (by omega), nI_clamp (by omega), e1]
  · rw [fX10_things, fX11_things, cLine_out hC ha, mLine_out hN hG ha]
    exact ⟨-1, rfl, rfl, N, hA⟩
theorem c39 : call39 Rel := by
  rintro a1 M ⟨N, hA⟩
  obtain ⟨⟨hN, hl, hG⟩, hC, -, hV, -, -, hD, -, hS, -⟩ := id hA
  obtain ⟨f, -, f1, f2, -⟩ := hV
  obtain ⟨d, -, d1, d2, -⟩ := hD
  rcases cs5 a1 with rfl | rfl | rfl | rfl | rfl | h
  · exact ⟨_, rfl, by show some (mI M 11 0 2) = some (mI M 1 0 2); rw [hG.1.1, hC.1.1], N, hA⟩
  · exact ⟨_, rfl, by show some (mI M 11 0 12) = some (mI M 1 0 3); rw [hG.1.2, hC.1.2], N, hA⟩
  · exact ⟨_, rfl, by show some (mI M 11 0 25) = some (mI M 9 0 1); rw [f1, f2], N, hA⟩
  · refine ⟨mI M 11 0 43, ?_, rfl, N, hA⟩
    show (if mI M 8 0 3 = 0 then some (-9) else some (mI M 8 0 3)) = _
    rcases hS with ⟨o1, o2, -⟩ | ⟨z, hz1, hz2, o1, o2, -⟩
    · rw [o1, o2, if_pos rfl]
    · rw [o1, o2, if_neg (nI_ne0 (by omega) (by omega))]
  · exact ⟨_, rfl, by show some (mI M 11 0 65) = some (mI M 10 0 8); rw [d1, d2], N, hA⟩
  · have h5 : (nI 5).toInt = 5 := by decide
    have h0 : (0 : Int32).toInt = 0 := by decide
    have q : a1.toInt < 0 ∨ 4 < a1.toInt := by
      rw [Int32.lt_iff_toInt_lt, Int32.le_iff_toInt_le, h5, h0] at h
      omega
    rw [fX10_many, fX11_many, if_pos q, if_pos q]
    exact ⟨_, rfl, rfl, N, hA⟩
