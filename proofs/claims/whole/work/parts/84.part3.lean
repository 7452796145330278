/-! part: both together -/
section NR
variable {M M' : tM} {P kd ph : Nat} {k : Int64} {N : NG}
theorem NewP.len (h : NewP M M' P kd ph k) (hl : Len M) : Len M' := by
  intro q hq
  have hk : ∀ q ∈ lenL, ¬ (q.1 = 7 ∨ q.1 = 19 ∨ q.1 = 809 ∨ q.1 = 810) := by decide
  rw [(h.1 q.1 0 (fun e => hk q hq e.1)).1]
  exact hl q hq
theorem NewP.gr (h : NewP M M' P kd ph k) (hG : Gr M N) : Gr M' N := by
  have e : ∀ a, ¬ (a = 7 ∨ a = 19 ∨ a = 809 ∨ a = 810) → ¬ a = 200 → ¬ a = 1 → ∀ b c, mI M' a b c = mI M a b c := fun a h1 h2 h3 b c => (h.i (fun q => h1 q.1) (fun q => h2 q.1) (fun q => h3 q.1)).1
  simp only [Gr] at hG ⊢
  simp only [e 11 (by decide) (by decide) (by decide), e 1203 (by decide) (by decide) (by decide), e 1205 (by decide) (by decide) (by decide), e 1213 (by decide) (by decide) (by decide), e 1214 (by decide) (by decide) (by decide), e 1215 (by decide) (by decide) (by decide), e 1216 (by decide) (by decide) (by decide), e 1217 (by decide) (by decide) (by decide)]
  exact hG
theorem NewP.fs (h : NewP M M' P kd ph k) (hF : Cf M M) (hR : Cr M M) (hD : Cd M M N) : Cf M' M' ∧ Cr M' M' ∧ Cd M' M' N := by
  have e : ∀ a, ¬ (a = 7 ∨ a = 19 ∨ a = 809 ∨ a = 810) → ¬ a = 200 → ¬ a = 1 → ∀ b c, mI M' a b c = mI M a b c := fun a h1 h2 h3 b c => (h.i (fun q => h1 q.1) (fun q => h2 q.1) (fun q => h3 q.1)).1
  have l : ∀ a, ¬ (a = 7 ∨ a = 19 ∨ a = 809 ∨ a = 810) → ¬ a = 200 → ¬ a = 1 → ∀ b c, mL M' a b c = mL M a b c := fun a h1 h2 h3 b c => (h.i (fun q => h1 q.1) (fun q => h2 q.1) (fun q => h3 q.1)).2.1
  simp only [Cf, Cr, Cd] at hF hR hD ⊢
  simp only [e 10 (by decide) (by decide) (by decide), e 11 (by decide) (by decide) (by decide), e 3 (by decide) (by decide) (by decide), e 9 (by decide) (by decide) (by decide), e 1110 (by decide) (by decide) (by decide), e 1201 (by decide) (by decide) (by decide), e 1005 (by decide) (by decide) (by decide), e 1227 (by decide) (by decide) (by decide), e 1264 (by decide) (by decide) (by decide), e 1107 (by decide) (by decide) (by decide), l 10 (by decide) (by decide) (by decide), l 9 (by decide) (by decide) (by decide), l 11 (by decide) (by decide) (by decide)]
  exact ⟨hF, hR, hD⟩
end NR
theorem Cd.up {M X : tM} {N N' : NG} (h : Cd M X N) (hn : nP N ≤ nP N') : Cd M X N' := by
  obtain ⟨d, h1, h2, h3, h4⟩ := h
  exact ⟨d, h1, h2, h3, fun j hj => by
    obtain ⟨p, q1, q2⟩ := h4 j hj
    exact ⟨p, by omega, q2⟩⟩
set_option maxHeartbeats 4000000 in
theorem add_part {M : tM} {N : NG} (hA : Al M N) (hP : nP N < 12) {kd n : Nat} (hk : kd ≤ 5) {k : Int64} {a3 : Int32} (h4 : kd = 4 → a3 = nI n ∧ 1 ≤ n ∧ n ≤ 4) (h5 : kd = 5 → a3 = nI n ∧ n ≤ 12) :
    ∃ Ma M1 M2, fX1_addPart (nI kd) k a3 M = some (nI (nP N), Ma) ∧ fX10_graphChanged Ma = some M1 ∧ mI M1 11 0 2 = nI (nP N) ∧ mAddP (nI kd) k a3 M1 = some (nI (nP N), M2) ∧ Rel M2 := by
  obtain ⟨⟨hN, hl, hG⟩, hC, hT, hV, hF, hR, hD, hO, hS, hk1, hk2, hk3⟩ := id hA
  have hb := hN.1
  obtain ⟨Ma, ea, hp, hr⟩ := s_addPart (k := k) hl hC hP hk h4 h5
  have hN2 : NOK (addN N kd (if kd = 4 then n else 1)) := addN_ok hN hP hk (by split <;> omega) (by split <;> omega) (fun q => if_neg q)
  have hgs := Cgs.of hC hV
  have hga : Cgs Ma (addN N kd (if kd = 4 then n else 1)) := by
    refine ⟨⟨hp.2.2.1, ?_⟩, fun q hq => ?_, fun l hl' => ?_⟩
    · rw [(hp.i (a := 1) (b := 0) (c := 3) (by simp) (by simp) (by simp)).1]; exact hgs.1.2
    · have hq : q < nP N + 1 := hq
      by_cases e : q = nP N
      · subst e
        refine ⟨hp.2.1, ?_, ?_⟩
        · unfold rowP at hr
          split at hr
          · rw [hr.1, hr.2]
          · rw [hr.1, hr.2.1]
        · by_cases q5 : kd = 5
          · rw [if_pos q5] at hr
            exact Or.inr ⟨n, (h5 q5).2, hr.1, hr.2.2.1, hr.2.2.2.1⟩
          · rw [if_neg q5] at hr
            exact Or.inl hr.1
      · rw [(hp.i (a := 200) (b := 0) (c := q) (by simp) (by simp [e]) (by simp)).2.2, (hp.i (a := 7) (b := q) (c := 10) (by simp [e]) (by simp) (by simp)).2.2, (hp.i (a := 7) (b := q) (c := 9) (by simp [e]) (by simp) (by simp)).2.2, (hp.1 809 q (by simp [e])).1, (hp.1 810 q (by simp [e])).1]
        exact hgs.2.1 q (by omega)
    · rw [(hp.i (a := 201) (b := 0) (c := l) (by simp) (by simp) (by simp)).2.2, (hp.i (a := 4) (b := l) (c := 6) (by simp) (by simp) (by simp)).1, (hp.1 505 l (by simp)).1, (hp.1 507 l (by simp)).1]
      exact hgs.2.2 l hl'
  obtain ⟨M1, e1, F1, T1, z1, g1⟩ := s_gChanged hN2 (hp.len hl) hga
  have hl1 := (hp.len hl).fr F1
  have hG1 := (hp.gr hG).fr F1 (by decide)
  have hph : (if nI kd = 4 then some a3 else some (1 : Int32)) = some (nI (if kd = 4 then n else 1)) := by
    by_cases q : kd = 4
    · subst q; rw [if_pos rfl, if_pos (show nI 4 = (4 : Int32) from rfl), (h4 rfl).1]
    · rw [if_neg q, if_neg (show ¬ nI kd = (4 : Int32) from fun r => q ((nI_eq (b := 4) (by omega) (by decide)).mp r))]; rfl
  have hrv : (if nI kd = 5 then some a3 else some (-9 : Int32)) = some (if kd = 5 then nI n else (-9)) := by
    by_cases q : kd = 5
    · subst q; rw [if_pos rfl, if_pos (show nI 5 = (5 : Int32) from rfl), (h5 rfl).1]
    · rw [if_neg q, if_neg (show ¬ nI kd = (5 : Int32) from fun r => q ((nI_eq (b := 5) (by omega) (by decide)).mp r))]
  obtain ⟨⟨v, M2⟩, e2, rfl, F2, hG2, T2, z2, s1, s2, m4, m6, m10, m11, m7, m7'⟩ := s_mAddP (k := k) hN hl1 hG1 hP hN2 hph hrv
  have fs := hp.fs hF hR hD
  have hC2 : Cg M2 M2 (addN N kd (if kd = 4 then n else 1)) := by
    refine ⟨⟨?_, ?_⟩, fun q hq => ?_, fun l hl' => ?_, ?_, ?_⟩
    · rw [F2.oI (by decide), F1.oI (by decide)]; exact hga.1.1
    · rw [F2.oI (by decide), F1.oI (by decide)]; exact hga.1.2
    · have hq : q < nP N + 1 := hq
      have hnT : ∀ l, l < nL N → ¬ nT N l = nP N := fun l hl => by have := (hN.2.2.1 l hl).2.1; omega
      have hnF : ∀ l, l < nL N → ¬ nF N l = nP N := fun l hl => by have := (hN.2.2.1 l hl).1; omega
      refine ⟨?_, ?_⟩
      · unfold Cp
        rw [F2.aR (by decide), F1.aR (by decide), F2.oI (by decide), F1.oI (by decide), F2.oI (by decide), F1.oI (by decide), F2.oL (by decide), F1.oL (by decide), F2.oI (by decide), F1.oI (by decide), F2.oR (by decide), F1.oR (by decide), F2.oR (by decide), F1.oR (by decide), F2.oR (by decide), F1.oR (by decide), F2.oR (by decide), F1.oR (by decide), m4]
        show _ ∧ _ ∧ _ = nI (if q = nP N then kd else nD N q) ∧ _ ∧ _ = nI (if q = nP N then (if kd = 4 then n else 1) else nH N q) ∧ _ = nx (nT N) q (nL N) 0 ∧ _ = lst (nT N) q (nL N) ∧ _ = nx (nF N) q (nL N) 0 ∧ _ = lst (nF N) q (nL N)
        by_cases e : q = nP N
        · subst e
          rw [if_pos rfl, if_pos rfl, if_pos rfl, nx_none hnT _ 0 rfl, nx_none hnF _ 0 rfl, lst_none hnT, lst_none hnF]
          obtain ⟨-, p1, p2, p3, p4, p5, p6, p7, p8, p9, p10, p11, p12⟩ := hp
          exact ⟨p1, p3, p4, p5, p6, p9, p10, p11, p12⟩
        · rw [if_neg e, if_neg e, if_neg e, (hp.i (a := 200) (b := 0) (c := q) (by simp) (by simp [e]) (by simp)).2.2, F1.aL (by decide), (hp.i (a := 1204) (b := 0) (c := q) (by simp) (by simp) (by simp)).2.1]
          have z : ∀ c, mI Ma 7 q c = mI M 7 q c ∧ mL Ma 7 q c = mL M 7 q c ∧ mR Ma 7 q c = mR M 7 q c := fun c => hp.i (a := 7) (b := q) (c := c) (by simp [e]) (by simp) (by simp)
          rw [(z 0).1, (z 1).1, (z 2).2.1, (z 3).1, (z 11).2.2, (z 12).2.2, (z 13).2.2, (z 14).2.2]
          exact (hC.2.1 q (by omega)).1
      · unfold Cw
        rw [m6, F2.oR (by decide), F1.oR (by decide), F2.n, F1.n, F2.n, F1.n]
        simp only [F2.aL (k := 809) (by decide), F1.aL (k := 809) (by decide)]
        show (_ ∨ ∃ r, (if q = nP N then kd else nD N q) = 5 ∧ _)
        by_cases e : q = nP N
        · subst e
          simp only [if_pos rfl]
          by_cases q5 : kd = 5
          · rw [if_pos q5] at hr ⊢
            exact Or.inr ⟨n, by rw [if_pos trivial]; exact q5, (h5 q5).2, rfl, hr.1, hr.2.2.1, hr.2.2.2.1, fun j hj => by rw [hr.2.2.2.2 j, m7 j (by have := (h5 q5).2; omega)]⟩
          · rw [if_neg q5] at hr ⊢
            exact Or.inl ⟨rfl, hr.1⟩
        · simp only [if_neg e]
          rw [F1.aI (by decide), (hp.i (a := 1206) (b := 0) (c := q) (by simp) (by simp) (by simp)).1, (hp.i (a := 7) (b := q) (c := 9) (by simp [e]) (by simp) (by simp)).2.2, (hp.1 809 q (by simp [e])).1, (hp.1 810 q (by simp [e])).1]
          rcases (hC.2.1 q (by omega)).2 with w | ⟨r, w1, w2, w3, w4, w5, w6, w7⟩
          · exact Or.inl w
          · refine Or.inr ⟨r, w1, w2, w3, w4, w5, w6, fun j hj => ?_⟩
            rw [(hp.i (a := 809) (b := q) (c := j) (by simp [e]) (by simp) (by simp)).2.1, m7' _ (by omega), F1.aL (by decide), (hp.i (a := 1207) (b := 0) (c := 12 * q + j) (by simp) (by simp) (by simp)).2.1]
            exact w7 j hj
    · have hc := hC.2.2.1 l hl'
      have z : ∀ c, mI Ma 4 l c = mI M 4 l c ∧ mL Ma 4 l c = mL M 4 l c ∧ mR Ma 4 l c = mR M 4 l c := fun c => hp.i (a := 4) (b := l) (c := c) (by simp) (by simp) (by simp)
      refine ⟨?_, ?_⟩
      · unfold Cl
        rw [F2.aR (by decide), F1.aR (by decide), F2.oI (by decide), F1.oI (by decide), F2.oR (by decide), F1.oR (by decide), F2.oR (by decide), F1.oR (by decide), F2.oI (by decide), F1.oI (by decide), F2.oR (by decide), F1.oR (by decide), F2.oR (by decide), F1.oR (by decide), (hp.i (a := 201) (b := 0) (c := l) (by simp) (by simp) (by simp)).2.2, (z 0).1, (z 1).2.2, (z 2).2.2, (z 6).1, (z 12).2.2, (z 13).2.2]
        exact hc.1
      · have hf1 := (hN.2.2.1 l hl').1
        have ht1 := (hN.2.2.1 l hl').2.1
        have eF : nH (addN N kd (if kd = 4 then n else 1)) (nF N l) = nH N (nF N l) := if_neg (by omega)
        have eT : nH (addN N kd (if kd = 4 then n else 1)) (nT N l) = nH N (nT N l) := if_neg (by omega)
        obtain ⟨n1, n2, n3, n4, n5, n6, n7, n8⟩ := hc.2
        refine ⟨?_, ?_, ?_, ?_, ?_, fun i hi => ?_, fun i hi => ?_, fun i hi => ?_⟩
        · rw [F2.n, F1.n, (hp.1 503 l (by simp)).1]; exact n1.trans eF.symm
        · rw [F2.n, F1.n, (hp.1 504 l (by simp)).1]; exact n2.trans eT.symm
        · rw [F2.n, F1.n, (hp.1 505 l (by simp)).1]; exact n3
        · rw [F2.n, F1.n, (hp.1 507 l (by simp)).1]; exact n4
        · rw [F2.n, F1.n, (hp.1 510 l (by simp)).1]; exact n5
        · rw [F2.aI (by decide), F1.aI (by decide), (hp.i (a := 503) (b := l) (c := i) (by simp) (by simp) (by simp)).1]
          exact n6 i (Nat.lt_of_lt_of_eq hi eF)
        · rw [F2.aI (by decide), F1.aI (by decide), (hp.i (a := 504) (b := l) (c := i) (by simp) (by simp) (by simp)).1]
          exact n7 i (Nat.lt_of_lt_of_eq hi eT)
        · rw [F2.aL (by decide), F1.aL (by decide), F2.aL (by decide), F1.aL (by decide), (hp.i (a := 505) (b := l) (c := i) (by simp) (by simp) (by simp)).2.1, (hp.i (a := 1218) (b := 0) (c := 60 * l + i) (by simp) (by simp) (by simp)).2.1]
          exact n8 i hi
    · intro q hq
      have hq : nP N + 1 ≤ q := hq
      have hne : ¬ q = nP N := by omega
      rw [F2.e, F1.e, F2.e, F1.e, F2.e, F1.e, F2.e, F1.e, (hp.1 7 q (by simp [hne])).2.1, (hp.1 19 q (by simp [hne])).2.1, (hp.1 809 q (by simp [hne])).2.1, (hp.1 810 q (by simp [hne])).2.1]
      exact hC.2.2.2.1 q (by omega)
    · intro l hl'
      rw [F2.e, F1.e, F2.e, F1.e, F2.e, F1.e, F2.e, F1.e, F2.e, F1.e, F2.e, F1.e, F2.e, F1.e, (hp.1 4 l (by simp)).2.1, (hp.1 16 l (by simp)).2.1, (hp.1 503 l (by simp)).2.1, (hp.1 504 l (by simp)).2.1, (hp.1 505 l (by simp)).2.1, (hp.1 507 l (by simp)).2.1, (hp.1 510 l (by simp)).2.1]
      exact hC.2.2.2.2 l hl'
  have hT2 : Ct M2 M2 (addN N kd (if kd = 4 then n else 1)) := by
    intro q hq
    have hq : q < nP N + 1 := hq
    rw [m10, m11, F2.oI (k := 7) (j := 4) (by decide), F1.oI (k := 7) (j := 4) (by decide), F2.oI (k := 7) (j := 5) (by decide), F1.oI (k := 7) (j := 5) (by decide)]
    by_cases e : q = nP N
    · subst e
      rw [if_pos rfl, if_pos rfl]
      exact ⟨⟨hp.2.2.2.2.2.2.2.1, hp.2.2.2.2.2.2.2.2.1⟩, ⟨1, by omega, rfl⟩, ⟨0, by omega, rfl⟩⟩
    · rw [if_neg e, if_neg e, F1.aI (k := 1210) (by decide), F1.aI (k := 1211) (by decide), (hp.i (a := 1210) (b := 0) (c := q) (by simp) (by simp) (by simp)).1, (hp.i (a := 1211) (b := 0) (c := q) (by simp) (by simp) (by simp)).1, (hp.i (a := 7) (b := q) (c := 4) (by simp [e]) (by simp) (by simp)).1, (hp.i (a := 7) (b := q) (c := 5) (by simp [e]) (by simp) (by simp)).1]
      exact hT q (by omega)
  refine ⟨Ma, M1, M2, ea, e1, hG1.1.1, e2, _, Al_reset hN2 (hl1.fr F2) hG2 hC2 hT2 (T1.fr F2 (by decide)) T2 (fun t ht => by rw [F2.aI (by decide)]; exact z1 t ht) z2 ?_ ⟨s1, s2⟩ ((fs.1.fr F1 (by decide)).fr F2 (by decide)) ((fs.2.1.fr F1 (by decide)).fr F2 (by decide)) (((fs.2.2.fr F1 (by decide)).fr F2 (by decide)).up (Nat.le_succ _))⟩
  rw [F2.oI (by decide), F2.oI (by decide), F2.oI (by decide), F2.oI (by decide), F2.oI (by decide), F2.oI (by decide)]; exact g1
theorem c0 : call0 Rel := by
  rintro a1 k a3 M ⟨N, hA⟩
  obtain ⟨⟨hN, hl, hG⟩, hC, -⟩ := id hA
  have hb := hN.1
  by_cases hbd : bdP a1 a3
  · exact ⟨-1, M, M, pc_bad hbd, pm_bad hbd, N, hA⟩
  · obtain ⟨h1, h2, h3, h4⟩ := bdP_not hbd
    obtain ⟨kd, hk, rfl⟩ := nI_of2 (n := 5) (by decide) h1 h2
    by_cases hP : nP N < 12
    · have hne : ¬ nI (nP N) = (12 : Int32) := fun q => by
        have := (nI_eq (b := 12) (by omega) (by decide)).mp q
        omega
      have hlt : nI (nP N) < (12 : Int32) := nI_lt (b := 12) hP (by decide)
      have fin : ∀ n, (kd = 4 → a3 = nI n ∧ 1 ≤ n ∧ n ≤ 4) → (kd = 5 → a3 = nI n ∧ n ≤ 12) → ((if nI kd = 5 then (if 0 ≤ a3 then True else False) else True)) → ∃ v M1 M2, fX10_part (nI kd) k a3 M = some (v, M1) ∧ fX11_part (nI kd) k a3 M1 = some (v, M2) ∧ Rel M2 := by
        intro n q4 q5 ok
        obtain ⟨Ma, M1, M2, e1, e2, e3, e4, e5⟩ := add_part (k := k) hA hP hk q4 q5
        refine ⟨nI (nP N), M1, M2, ?_, ?_, e5⟩
        · rw [pc_rest hbd, hC.1.1, if_pos hlt]
          by_cases r : nI kd = 5
          · rw [if_pos r] at ok ⊢
            by_cases r2 : 0 ≤ a3
            · rw [if_pos r2, e1, Option.bind_some, e2]; rfl
            · rw [if_neg r2] at ok; exact ok.elim
          · rw [if_neg r, e1, Option.bind_some, e2]; rfl
        · rw [pm_rest hbd, e3, if_neg hne]
          by_cases r : nI kd = 5
          · rw [if_pos r] at ok ⊢
            by_cases r2 : 0 ≤ a3
            · rw [if_pos r2, e4]
            · rw [if_neg r2] at ok; exact ok.elim
          · rw [if_neg r, e4]
      by_cases q5 : kd = 5
      · subst q5
        by_cases r2 : (0 : Int32) ≤ a3
        · obtain ⟨n, hn, rfl⟩ := nI_of2 (x := a3) (M := 12) (n := 12) (by decide) (nlt_le r2) (h4 rfl)
          refine fin n (fun q => absurd q (by decide)) (fun _ => ⟨rfl, hn⟩) ?_
          rw [if_pos (show nI 5 = (5 : Int32) from rfl), if_pos r2]; trivial
        · obtain ⟨M1, M2, m1, F1, m2, m3⟩ := meets_ok hA (f := 5) (by decide)
          refine ⟨-3, M1, M2, ?_, ?_, N, m3⟩
          · rw [pc_rest hbd, hC.1.1, if_pos hlt, if_pos (show nI 5 = (5 : Int32) from rfl), if_neg r2]; exact m1
          · rw [pm_rest hbd, F1.oI (by decide), hG.1.1, if_neg hne, if_pos (show nI 5 = (5 : Int32) from rfl), if_neg r2]; exact m2
      · have n5 : ¬ nI kd = (5 : Int32) := fun r => q5 ((nI_eq (b := 5) (by omega) (by decide)).mp r)
        by_cases q4 : kd = 4
        · subst q4
          obtain ⟨r1, r2⟩ := h3 rfl
          have r1' : ¬ a3 < 0 := fun q => r1 (by rw [Int32.lt_iff_toInt_lt] at q ⊢; rw [show (0 : Int32).toInt = 0 by decide] at q; rw [show (1 : Int32).toInt = 1 by decide]; omega)
          obtain ⟨n, hn, rfl⟩ := nI_of2 (x := a3) (M := 4) (n := 4) (by decide) r1' (by rw [Int32.lt_iff_toInt_lt] at r2; rw [Int32.le_iff_toInt_le]; omega)
          have hn1 : 1 ≤ n := by
            refine Nat.le_of_not_lt fun q => r1 ?_
            rw [show n = 0 by omega]; decide
          refine fin n (fun _ => ⟨rfl, hn1, hn⟩) (fun q => absurd q (by decide)) ?_
          rw [if_neg n5]; trivial
        · refine fin 0 (fun q => absurd q q4) (fun q => absurd q q5) ?_
          rw [if_neg n5]; trivial
    · have e12 : nP N = 12 := by omega
      refine ⟨-2, M, M, ?_, ?_, N, hA⟩
      · rw [pc_rest hbd, hC.1.1, e12, if_neg (by decide)]
      · rw [pm_rest hbd, hG.1.1, e12, if_pos (by decide)]
