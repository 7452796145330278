/-! line: the call -/
set_option maxHeartbeats 4000000 in
theorem add_line {M : tM} {N : NG} (hA : Al M N) (hL : nL N < 20) {f t g k : Nat} (hf : f < nP N) (ht : t < nP N) (hg : 1 ≤ g ∧ g ≤ 50) (hk : 1 ≤ k ∧ k ≤ 50) :
    ∃ Ma M1 M2, fX1_addLine (some f) (nI g) (some t) (nI k) M = some (nI (nL N), Ma) ∧ fX10_graphChanged Ma = some M1 ∧ Gr M1 N ∧ mAddL (nI f) (nI g) (nI t) (nI k) M1 = some (nI (nL N), M2) ∧ Rel M2 := by
  obtain ⟨⟨hN, hl, hG⟩, hC, hT, hV, hF, hR, hD, hO, hS, hk1, hk2, hk3⟩ := id hA
  have hb := hN.1
  obtain ⟨Ma, ea, hp⟩ := s_addLine hN hl hC hL (g := g) (k := k) hf ht
  have hN2 : NOK (addL N f t g k) := addL_ok hN hL hf ht hg hk
  have hgs := Cgs.of hC hV
  have p7 : ∀ q c, ¬ (11 ≤ c ∧ c ≤ 14) → mI Ma 7 q c = mI M 7 q c ∧ mL Ma 7 q c = mL M 7 q c ∧ mR Ma 7 q c = mR M 7 q c := fun q c h => ⟨hp.e (a := 7) (b := q) (c := c) (by simp) (by simp) (by simp) (by omega) (by simp), hp.r (a := 7) (b := q) (c := c) (by simp) (by simp) (by simp) (by omega) (by simp) (by simp)⟩
  have p4 : ∀ x c, ¬ x = nL N → ¬ (c = 12 ∨ c = 13) → mI Ma 4 x c = mI M 4 x c ∧ mR Ma 4 x c = mR M 4 x c := fun x c h h' => ⟨hp.e (a := 4) (b := x) (c := c) (by simp [h]) (by simp) (by simp) (by simp) (fun q => h' q.2), (hp.r (a := 4) (b := x) (c := c) (by simp [h]) (by simp) (by simp) (by simp) (fun q => h' q.2) (by simp)).2⟩
  have hga : Cgs Ma (addL N f t g k) := by
    refine ⟨⟨?_, hp.2.1.2.1⟩, fun q hq => ?_, fun l hl' => ?_⟩
    · rw [hp.e (a := 1) (b := 0) (c := 2) (by simp) (by simp) (by simp) (by simp) (by simp)]; exact hgs.1.1
    · rw [(hp.r (a := 200) (b := 0) (c := q) (by simp) (by simp) (by simp) (by simp) (by simp) (by simp)).2, (p7 q 10 (by omega)).2.2, (p7 q 9 (by omega)).2.2, (hp.1 809 q (by simp)).1, (hp.1 810 q (by simp)).1]
      exact hgs.2.1 q hq
    · have hl' : l < nL N + 1 := hl'
      show _ ∧ _ = nI (if l = nL N then 0 else nS N l) ∧ _
      by_cases e : l = nL N
      · subst e
        rw [if_pos rfl]
        exact ⟨hp.2.1.1, hp.2.1.2.2.2.2.2, hp.2.2.1.2.2.1, hp.2.2.1.2.2.2.1⟩
      · rw [if_neg e, (hp.r (a := 201) (b := 0) (c := l) (by simp) (by simp [e]) (by simp) (by simp) (by simp) (by simp)).2, (p4 l 6 e (by omega)).1, (hp.1 505 l (by simp [e])).1, (hp.1 507 l (by simp [e])).1]
        exact hgs.2.2 l (by omega)
  obtain ⟨M1, e1, F1, T1, z1, g1⟩ := s_gChanged hN2 (hp.len hl) hga
  have hl1 := (hp.len hl).fr F1
  have hG1 := (hp.gr hG).fr F1 (by decide)
  obtain ⟨⟨v, M2⟩, e2, rfl, F2, hG2, T2, z2, s1, s2⟩ := s_mAddL (f := f) (t := t) (g := g) (k := k) hN hl1 hG1 hL hN2
  have fs := hp.fs hF hR hD
  have oF : ∀ q, q < nL N → (fun q => if q = nL N then f else nF N q) q = nF N q := fun q hq => if_neg (by omega)
  have oT : ∀ q, q < nL N → (fun q => if q = nL N then t else nT N q) q = nT N q := fun q hq => if_neg (by omega)
  have aF : (fun q => if q = nL N then f else nF N q) (nL N) = f := if_pos rfl
  have aT : (fun q => if q = nL N then t else nT N q) (nL N) = t := if_pos rfl
  have lF := (hC.2.1 f hf).1.2.2.2.2.2.2.2.2
  have lT := (hC.2.1 t ht).1.2.2.2.2.2.2.1
  have hC2 : Cg M2 M2 (addL N f t g k) := by
    refine ⟨⟨?_, ?_⟩, fun q hq => ?_, fun l hl' => ?_, ?_, ?_⟩
    · rw [F2.oI (by decide), F1.oI (by decide)]; exact hga.1.1
    · rw [F2.oI (by decide), F1.oI (by decide)]; exact hga.1.2
    · have hq : q < nP N := hq
      obtain ⟨⟨w1, w2, w3, w4, w5, w6, w7, w8, w9⟩, hw⟩ := hC.2.1 q hq
      refine ⟨?_, ?_⟩
      · unfold Cp
        rw [F2.aR (by decide), F1.aR (by decide), F2.oI (by decide), F1.oI (by decide), F2.oI (by decide), F1.oI (by decide), F2.oL (by decide), F1.oL (by decide), F2.oI (by decide), F1.oI (by decide), F2.oR (by decide), F1.oR (by decide), F2.oR (by decide), F1.oR (by decide), F2.oR (by decide), F1.oR (by decide), F2.oR (by decide), F1.oR (by decide), F2.aL (by decide), F1.aL (by decide)]
        rw [(hp.r (a := 200) (b := 0) (c := q) (by simp) (by simp) (by simp) (by simp) (by simp) (by simp)).2, (hp.r (a := 1204) (b := 0) (c := q) (by simp) (by simp) (by simp) (by simp) (by simp) (by simp)).1, (p7 q 0 (by omega)).1, (p7 q 1 (by omega)).1, (p7 q 2 (by omega)).2.1, (p7 q 3 (by omega)).1]
        refine ⟨w1, w2, w3, w4, w5, ?_, ?_, ?_, ?_⟩
        · show _ = nx (fun q => if q = nL N then t else nT N q) q (nL N + 1) 0
          rw [chain_first (a := t) oT aT, hp.2.2.2.2.1 q, lT, w6]
        · show _ = lst (fun q => if q = nL N then t else nT N q) q (nL N + 1)
          rw [hp.2.2.2.2.2.1 q, lst, if_pos (show nL N = nL N from rfl), lst_snoc oT, w7]
          by_cases e : q = t
          · rw [if_pos e, if_pos e.symm]
          · rw [if_neg e, if_neg (fun r => e r.symm)]
        · show _ = nx (fun q => if q = nL N then f else nF N q) q (nL N + 1) 0
          rw [chain_first (a := f) oF aF, hp.2.2.2.1.1 q, lF, w8]
        · show _ = lst (fun q => if q = nL N then f else nF N q) q (nL N + 1)
          rw [hp.2.2.2.1.2.1 q, lst, if_pos (show nL N = nL N from rfl), lst_snoc oF, w9]
          by_cases e : q = f
          · rw [if_pos e, if_pos e.symm]
          · rw [if_neg e, if_neg (fun r => e r.symm)]
      · unfold Cw at hw ⊢
        rw [F2.aI (by decide), F1.aI (by decide), F2.oR (by decide), F1.oR (by decide), F2.n, F1.n, F2.n, F1.n]
        simp only [F2.aL (k := 809) (by decide), F1.aL (k := 809) (by decide), F2.aL (k := 1207) (by decide), F1.aL (k := 1207) (by decide)]
        rw [hp.e (a := 1206) (b := 0) (c := q) (by simp) (by simp) (by simp) (by simp) (by simp), (p7 q 9 (by omega)).2.2, (hp.1 809 q (by simp)).1, (hp.1 810 q (by simp)).1]
        simp only [fun j => (hp.r (a := 809) (b := q) (c := j) (by simp) (by simp) (by simp) (by simp) (by simp) (by simp)).1, fun j => (hp.r (a := 1207) (b := 0) (c := j) (by simp) (by simp) (by simp) (by simp) (by simp) (by simp)).1]
        exact hw
    · have hl' : l < nL N + 1 := hl'
      refine ⟨?_, ?_⟩
      · unfold Cl
        rw [F2.aR (by decide), F1.aR (by decide), F2.oI (by decide), F1.oI (by decide), F2.oR (by decide), F1.oR (by decide), F2.oR (by decide), F1.oR (by decide), F2.oI (by decide), F1.oI (by decide), F2.oR (by decide), F1.oR (by decide), F2.oR (by decide), F1.oR (by decide)]
        show _ ∧ _ ∧ _ = some (if l = nL N then f else nF N l) ∧ _ = some (if l = nL N then t else nT N l) ∧ _ = nI (if l = nL N then 0 else nS N l) ∧ _ = nx (fun q => if q = nL N then t else nT N q) ((fun q => if q = nL N then t else nT N q) l) (nL N + 1) (l + 1) ∧ _ = nx (fun q => if q = nL N then f else nF N q) ((fun q => if q = nL N then f else nF N q) l) (nL N + 1) (l + 1)
        rw [hp.2.2.2.1.2.2 l, hp.2.2.2.2.2.2 l, lF, lT]
        by_cases e : l = nL N
        · subst e
          have nF' : ¬ lst (nF N) f (nL N) = some (nL N) := fun q => by have := (lst_some q).1; omega
          have nT' : ¬ lst (nT N) t (nL N) = some (nL N) := fun q => by have := (lst_some q).1; omega
          rw [if_pos rfl, if_pos rfl, if_pos rfl, if_neg nF', if_neg nT', if_pos rfl, if_pos rfl, chain_end, chain_end]
          obtain ⟨q1, q2, q3, q4, q5, q6⟩ := hp.2.1
          exact ⟨q1, q3, q4, q5, q6, rfl, rfl⟩
        · obtain ⟨w1, w2, w3, w4, w5, w6, w7⟩ := (hC.2.2.1 l (by omega)).1
          rw [chain_next (a := f) oF aF (by omega), chain_next (a := t) oT aT (by omega)]
          simp only [if_neg e]
          rw [(hp.r (a := 201) (b := 0) (c := l) (by simp) (by simp [e]) (by simp) (by simp) (by simp) (by simp)).2, (p4 l 0 e (by omega)).1, (p4 l 1 e (by omega)).2, (p4 l 2 e (by omega)).2, (p4 l 6 e (by omega)).1, ← w6, ← w7]
          exact ⟨w1, w2, w3, w4, w5, rfl, rfl⟩
      · by_cases e : l = nL N
        · subst e
          have eF : nF (addL N f t g k) (nL N) = f := if_pos rfl
          have eT : nT (addL N f t g k) (nL N) = t := if_pos rfl
          have eH : nH (addL N f t g k) = nH N := rfl
          have eS : nS (addL N f t g k) (nL N) = 0 := if_pos rfl
          obtain ⟨q1, q2, q3, q4, q5, q6, q7⟩ := hp.2.2.1
          unfold Cn
          rw [eF, eT, eH, eS, F2.n, F1.n, F2.n, F1.n, F2.n, F1.n, F2.n, F1.n, F2.n, F1.n]
          refine ⟨q1, q2, q3, q4, q5, fun i hi => ?_, fun i hi => ?_, fun i hi => by omega⟩
          · rw [F2.aI (by decide), F1.aI (by decide), q6 i hi, show nG (addL N f t g k) (nL N) i = g from if_pos rfl]
          · rw [F2.aI (by decide), F1.aI (by decide), q7 i hi, show nK (addL N f t g k) (nL N) i = k from if_pos rfl]
        · have eF : nF (addL N f t g k) l = nF N l := if_neg e
          have eT : nT (addL N f t g k) l = nT N l := if_neg e
          have eH : nH (addL N f t g k) = nH N := rfl
          have eS : nS (addL N f t g k) l = nS N l := if_neg e
          have eG : ∀ i, nG (addL N f t g k) l i = nG N l i := fun i => if_neg e
          have eK : ∀ i, nK (addL N f t g k) l i = nK N l i := fun i => if_neg e
          obtain ⟨n1, n2, n3, n4, n5, n6, n7, n8⟩ := (hC.2.2.1 l (by omega)).2
          unfold Cn
          rw [eF, eT, eH, eS, F2.n, F1.n, F2.n, F1.n, F2.n, F1.n, F2.n, F1.n, F2.n, F1.n, (hp.1 503 l (by simp [e])).1, (hp.1 504 l (by simp [e])).1, (hp.1 505 l (by simp [e])).1, (hp.1 507 l (by simp [e])).1, (hp.1 510 l (by simp [e])).1]
          refine ⟨n1, n2, n3, n4, n5, fun i hi => ?_, fun i hi => ?_, fun i hi => ?_⟩
          · rw [F2.aI (by decide), F1.aI (by decide), hp.e (a := 503) (b := l) (c := i) (by simp [e]) (by simp) (by simp) (by simp) (by simp), eG]; exact n6 i hi
          · rw [F2.aI (by decide), F1.aI (by decide), hp.e (a := 504) (b := l) (c := i) (by simp [e]) (by simp) (by simp) (by simp) (by simp), eK]; exact n7 i hi
          · rw [F2.aL (by decide), F1.aL (by decide), F2.aL (by decide), F1.aL (by decide), (hp.r (a := 505) (b := l) (c := i) (by simp [e]) (by simp) (by simp) (by simp) (by simp) (by simp)).1, (hp.r (a := 1218) (b := 0) (c := 60 * l + i) (by simp) (by simp) (by simp) (by simp) (by simp) (by simp)).1]
            exact n8 i hi
    · intro q hq
      rw [F2.e, F1.e, F2.e, F1.e, F2.e, F1.e, F2.e, F1.e, (hp.1 7 q (by simp)).2.1, (hp.1 19 q (by simp)).2.1, (hp.1 809 q (by simp)).2.1, (hp.1 810 q (by simp)).2.1]
      exact hC.2.2.2.1 q hq
    · intro l hl'
      have hl' : nL N + 1 ≤ l := hl'
      have e : ¬ l = nL N := by omega
      rw [F2.e, F1.e, F2.e, F1.e, F2.e, F1.e, F2.e, F1.e, F2.e, F1.e, F2.e, F1.e, F2.e, F1.e, (hp.1 4 l (by simp [e])).2.1, (hp.1 16 l (by simp [e])).2.1, (hp.1 503 l (by simp [e])).2.1, (hp.1 504 l (by simp [e])).2.1, (hp.1 505 l (by simp [e])).2.1, (hp.1 507 l (by simp [e])).2.1, (hp.1 510 l (by simp [e])).2.1]
      exact hC.2.2.2.2 l (by omega)
  have hT2 : Ct M2 M2 (addL N f t g k) := by
    intro q hq
    rw [F2.aI (k := 1210) (by decide), F1.aI (k := 1210) (by decide), F2.aI (k := 1211) (by decide), F1.aI (k := 1211) (by decide), F2.oI (k := 7) (j := 4) (by decide), F1.oI (k := 7) (j := 4) (by decide), F2.oI (k := 7) (j := 5) (by decide), F1.oI (k := 7) (j := 5) (by decide), hp.e (a := 1210) (b := 0) (c := q) (by simp) (by simp) (by simp) (by simp) (by simp), hp.e (a := 1211) (b := 0) (c := q) (by simp) (by simp) (by simp) (by simp) (by simp), (p7 q 4 (by omega)).1, (p7 q 5 (by omega)).1]
    exact hT q hq
  refine ⟨Ma, M1, M2, ea, e1, hG1, e2, _, Al_reset hN2 (hl1.fr F2) hG2 hC2 hT2 (T1.fr F2 (by decide)) T2 (fun t ht => by rw [F2.aI (by decide)]; exact z1 t ht) z2 ?_ ⟨s1, s2⟩ ((fs.1.fr F1 (by decide)).fr F2 (by decide)) ((fs.2.1.fr F1 (by decide)).fr F2 (by decide)) (((fs.2.2.fr F1 (by decide)).fr F2 (by decide)).up (Nat.le_refl _))⟩
  rw [F2.oI (by decide), F2.oI (by decide), F2.oI (by decide), F2.oI (by decide), F2.oI (by decide), F2.oI (by decide)]; exact g1
theorem gk_of {a : Int32} (h1 : ¬ a < 1) (h2 : ¬ 50 < a) : ∃ n, a = nI n ∧ 1 ≤ n ∧ n ≤ 50 := by
  have h0 : ¬ a < 0 := fun q => h1 (by rw [Int32.lt_iff_toInt_lt] at q ⊢; rw [show (0 : Int32).toInt = 0 by decide] at q; rw [show (1 : Int32).toInt = 1 by decide]; omega)
  obtain ⟨n, hn, rfl⟩ := nI_of2 (x := a) (M := 50) (n := 50) (by decide) h0 (by rw [Int32.lt_iff_toInt_lt] at h2; rw [Int32.le_iff_toInt_le]; omega)
  refine ⟨n, rfl, Nat.le_of_not_lt fun q => h1 ?_, hn⟩
  rw [show n = 0 by omega]; decide
theorem c1 : call1 Rel := by
  rintro a1 a2 a3 a4 M ⟨N, hA⟩
  obtain ⟨⟨hN, hl, hG⟩, hC, -⟩ := id hA
  have hb := hN.1
  rcases ix_cases a1 (n := nP N) (by omega) with ⟨f, hf, rfl⟩ | h1
  · rcases ix_cases a3 (n := nP N) (by omega) with ⟨t, ht, rfl⟩ | h3
    · have hc : ∀ v M1, (if a2 < 1 then some ((-1), M) else if 50 < a2 then some ((-1), M) else if a4 < 1 then some ((-1), M) else if a4 ≤ 50 then (if (mI M 1 0 3) < 20 then ((fX1_addLine (some f) a2 (some t) a4 M).bind fun x => (fX10_graphChanged x.2).bind fun M16 => some (x.1, M16)) else some ((-2), M)) else some ((-1), M)) = some (v, M1) → fX10_line (nI f) a2 (nI t) a4 M = some (v, M1) := fun v M1 h => by
        rw [fX10_line, cPart_in hN hl hC hf, Option.bind_some, cPart_in hN hl hC ht, Option.bind_some, if_neg (by simp), if_neg (by simp)]
        exact h
      by_cases b2 : a2 < 1 ∨ 50 < a2
      · refine ⟨-1, M, M, hc _ _ ?_, ?_, N, hA⟩
        · by_cases q : a2 < 1
          · rw [if_pos q]
          · rw [if_neg q, if_pos (b2.resolve_left q)]
        · rw [fX11_line, mPart_in hN hG hf, Option.bind_some, if_neg (by decide), mPart_in hN hG ht, Option.bind_some, if_neg (by decide), in_out b2, Option.bind_some, if_pos rfl]
      · have q1 : ¬ a2 < 1 := fun q => b2 (Or.inl q)
        have q2 : ¬ 50 < a2 := fun q => b2 (Or.inr q)
        by_cases b4 : a4 < 1 ∨ 50 < a4
        · refine ⟨-1, M, M, hc _ _ ?_, ?_, N, hA⟩
          · rw [if_neg q1, if_neg q2]
            by_cases q : a4 < 1
            · rw [if_pos q]
            · rw [if_neg q, if_neg (fun r => nlt_le r (b4.resolve_left q))]
          · rw [fX11_line, mPart_in hN hG hf, Option.bind_some, if_neg (by decide), mPart_in hN hG ht, Option.bind_some, if_neg (by decide), in_in q1 q2, Option.bind_some, if_neg (by decide), in_out b4, Option.bind_some, if_pos rfl]
        · have q3 : ¬ a4 < 1 := fun q => b4 (Or.inl q)
          have q4 : ¬ 50 < a4 := fun q => b4 (Or.inr q)
          have q4' : a4 ≤ 50 := by rw [Int32.lt_iff_toInt_lt] at q4; rw [Int32.le_iff_toInt_le]; omega
          have hm : ∀ v X M2, Gr X N → (if (mI X 11 0 12) = 20 then some ((-2), X) else mAddL (nI f) a2 (nI t) a4 X) = some (v, M2) → fX11_line (nI f) a2 (nI t) a4 X = some (v, M2) := fun v X M2 hX h => by
            rw [fX11_line, mPart_in hN hX hf, Option.bind_some, if_neg (by decide), mPart_in hN hX ht, Option.bind_some, if_neg (by decide), in_in q1 q2, Option.bind_some, if_neg (by decide), in_in q3 q4, Option.bind_some, if_neg (by decide)]
            exact h
          by_cases hL : nL N < 20
          · obtain ⟨g, rfl, hg⟩ := gk_of q1 q2
            obtain ⟨k, rfl, hk⟩ := gk_of q3 q4
            obtain ⟨Ma, M1, M2, e1, e2, e3, e4, e5⟩ := add_line hA hL hf ht hg hk
            refine ⟨nI (nL N), M1, M2, hc _ _ ?_, hm _ _ _ e3 ?_, e5⟩
            · rw [if_neg q1, if_neg q2, if_neg q3, if_pos q4', hC.1.2, if_pos (show nI (nL N) < (20 : Int32) from nI_lt (b := 20) hL (by decide)), e1, Option.bind_some, e2, Option.bind_some]
            · rw [e3.1.2, if_neg (fun q => by have := (nI_eq (b := 20) (by omega) (by decide)).mp q; omega), e4]
          · have e20 : nL N = 20 := by omega
            refine ⟨-2, M, M, hc _ _ ?_, hm _ _ _ hG ?_, N, hA⟩
            · rw [if_neg q1, if_neg q2, if_neg q3, if_pos q4', hC.1.2, e20, if_neg (by decide)]
            · rw [hG.1.2, e20, if_pos (by decide)]
    · refine ⟨-1, M, M, ?_, ?_, N, hA⟩
      · rw [fX10_line, cPart_in hN hl hC hf, Option.bind_some, cPart_out hC h3, Option.bind_some, if_neg (by simp), if_pos rfl]
      · rw [fX11_line, mPart_in hN hG hf, Option.bind_some, if_neg (by decide), mPart_out hN hG h3, Option.bind_some, if_pos rfl]
  · refine ⟨-1, M, M, ?_, ?_, N, hA⟩
    · rw [fX10_line, cPart_out hC h1, Option.bind_some]
      rcases ix_cases a3 (n := nP N) (by omega) with ⟨t, ht, rfl⟩ | h3
      · rw [cPart_in hN hl hC ht, Option.bind_some, if_pos rfl]
      · rw [cPart_out hC h3, Option.bind_some, if_pos rfl]
    · rw [fX11_line, mPart_out hN hG h1, Option.bind_some, if_pos rfl]
