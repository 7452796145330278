/-! least, the model's -/
def XN (X : tM) (N : NG) (R od : Nat → Nat) (k S : Nat) : Prop := MX X N R (nS N) (cO od k) ∧ S46 X N (sO N od k) ∧ (∀ j, j < k → mI X 1250 0 j = nI (od j)) ∧ (∀ j, j < k → ∀ l, l < nL N → mI X 1251 0 (20 * j + l) = nI (sO N od j l)) ∧ mI X 11 0 36 = nI S
def XZ (X : tM) (N : NG) (S : Nat) (z : ZS) : Prop := mI X 11 0 48 = nI (zt z) ∧ (¬ zb z = none → (∀ j, j < S → mI X 1252 0 j = nI (zo z j)) ∧ ∀ l, l < nL N → mI X 1253 0 l = nI (sO N (zo z) S l))
def kL : List Nat := [1238, 1239, 1240, 1246, 1249, 1250, 1251, 1252, 1253, 120048]
theorem one_ok {N : NG} {R : Nat → Nat} {T S r : Nat} {od : Nat → Nat} {k p : Nat} {z : ZS} (hk : k + (r + 1) = S) (hv : vr N R od k) (hp : p < nP N) (hz : ZOK N R T S z) : ZOK N R T S (one N R T S (srch N R T S r) od k p z) := by
  by_cases x : zx z = true
  · rw [one_x x]; exact hz
  by_cases e : en N R (nS N) (cO od k) p
  rotate_left
  · rw [one_ne x e]; exact hz
  by_cases t : zt z < T
  rotate_left
  · rw [one_ex x e t]; exact ⟨hz.1, hz.2⟩
  by_cases b : ∃ v, zb z = some v ∧ v ≤ sv N od k p
  · rw [one_pr x e t b]; exact ⟨t, hz.2⟩
  by_cases s : k + 1 = S
  · rw [one_lf x e t b s]
    refine ⟨t, fun v hv' => ?_⟩
    have hv' : some (sv N od k p) = some v := hv'
    cases hv'
    rw [← s]
    exact ⟨vr_upk hv hp e, rfl⟩
  · rw [one_rc x e t b s]
    exact (srch_ok r (upk od k p) (k + 1) (zt z + 1, zb z, zo z, false) (by omega) (vr_upk hv hp e) ⟨t, hz.2⟩).1
theorem zb_le {N : NG} {R : Nat → Nat} {T S : Nat} {z : ZS} (hN : NOK N) (hB : RB N R (nS N)) (hz : ZOK N R T S z) {v : Nat} (h : zb z = some v) : v ≤ 21000000 := by
  have hb := hN.1
  have hvS := (hz.2 v h).1
  rw [(hz.2 v h).2]
  have h : ∀ n, n ≤ nL N → sumTo (sO N (zo z) S) n ≤ 1050000 * n := by
    intro n
    induction n with
    | zero => intro _; exact Nat.le_refl _
    | succ n ih =>
      intro hn
      have h1 := ih (by omega)
      have h2 := sO_le hN hB hvS n (by omega)
      rw [sumTo]; omega
  have := h (nL N) (Nat.le_refl _)
  omega
theorem XN.fr {ks : List Nat} {X X2 : tM} {N : NG} {R od : Nat → Nat} {k S : Nat} (h : XN X N R od k S) (hF : Fr ks X X2) (hd : disj ks [11, 1238, 1239, 1240, 1246, 1250, 1251, 120036] = true) : XN X2 N R od k S := by
  simp only [XN, S46] at h ⊢
  simp only [hF.gI hd 1246 (by decide), hF.gI hd 1250 (by decide), hF.gI hd 1251 (by decide), hF.hI hd 11 36 (by decide)]
  exact ⟨h.1.fr hF (disj_sub hd (by decide)), h.2⟩
theorem XZ.fr {ks : List Nat} {X X2 : tM} {N : NG} {S : Nat} {z : ZS} (h : XZ X N S z) (hF : Fr ks X X2) (hd : disj ks [11, 1252, 1253, 120048] = true) : XZ X2 N S z := by
  simp only [XZ] at h ⊢
  simp only [hF.gI hd 1252 (by decide), hF.gI hd 1253 (by decide), hF.hI hd 11 48 (by decide)]
  exact h
set_option maxHeartbeats 2000000 in
theorem m_loop {N : NG} {R : Nat → Nat} {S T : Nat} (hN : NOK N) (hB : RB N R (nS N)) (hS : S = sumTo R (nP N)) (hS40 : S ≤ 40) (hT : T ≤ 20000) (p8 : nP N ≤ 8) (Q : (Int32 × tM) ⊕ tM → Prop) : ∀ r k od, k + (r + 1) = S → vr N R od k → ∀ d j z n X, nP N - j = d → j ≤ nP N → zx z = false → ZOK N R T S z → 190000 + 9 * r + d ≤ n + 9 * zt z → Len X → Gr X N → XN X N R od k S → XZ X N S z → mI X 1249 0 k = nI j →
    (∀ n' X', zx (foldD (one N R T S (srch N R T S r) od k) (nP N) d z) = false → n + 9 * zt z ≤ n' + 9 * zt (foldD (one N R T S (srch N R T S r) od k) (nP N) d z) + d → Fr kL X X' → XN X' N R od k S → XZ X' N S (foldD (one N R T S (srch N R T S r) od k) (nP N) d z) → mI X' 1249 0 k = nI (nP N) → (∀ i, i < k → mI X' 1249 0 i = mI X 1249 0 i) → Ok (fX11_least_l92 (nI T) n' (zbI 2000000000 (zb (foldD (one N R T S (srch N R T S r) od k) (nP N) d z))) (nI k) X') Q) →
    (∀ X', Fr kL X X' → zx (foldD (one N R T S (srch N R T S r) od k) (nP N) d z) = true → mI X' 11 0 48 = nI (zt (foldD (one N R T S (srch N R T S r) od k) (nP N) d z)) → Q (.inl ((-6), X'))) →
    Ok (fX11_least_l92 (nI T) n (zbI 2000000000 (zb z)) (nI k) X) Q := by
  have hb := hN.1
  intro r
  induction r with
  | zero => 
    intro k od hk hv d
    induction d with
    | zero =>
      intro j z n X hd hj hx hz hf hl hG hxn hxz h49 cont exc
      have ej : j = nP N := by omega
      exact cont n X hx (by show n + 9 * zt z ≤ n + 9 * zt z + 0; omega) Fr.refl hxn hxz (by rw [h49, ej]) (fun _ _ => rfl)
    | succ d ihd =>
      intro j z n X hd hj hx hz hf hl hG hxn hxz h49 cont exc
      have hzt := hz.1
      obtain ⟨n, rfl⟩ : ∃ m, n = m + 1 := ⟨n - 1, by omega⟩
      have hjp : j < nP N := by omega
      have nx : ¬ zx z = true := by rw [hx]; decide
      have hK := vr_ok hv
      have hRj := hB.1 j hjp
      have ed : nP N - (d + 1) = j := by omega
      rw [foldD, ed] at cont exc
      rw [fX11_least_l92, if_neg (nI_pos (by omega)), ln1249 hl, chk_nI (by omega) (by omega), nI_clamp (by omega), h49, hG.1.1, if_neg (nI_ne (by omega) (by omega) (by omega)), chk_nI (by omega) (by omega), bnd_eq, chk_nI (by omega) (by omega), chk_nI (by omega) (by omega), bnd_eq, nI_1]
      have F1 : Fr [1249] X (sI X 1249 0 k (nI (j + 1))) := Fr.refl.wI (by decide)
      have v49 : mI (sI X 1249 0 k (nI (j + 1))) 1249 0 k = nI (j + 1) := by rw [mI_sI, if_pos ⟨rfl, rfl, rfl⟩]
      have o49 : ∀ i, i < k → mI (sI X 1249 0 k (nI (j + 1))) 1249 0 i = mI X 1249 0 i := fun i hi => by rw [mI_sI, if_neg (by omega)]
      generalize sI X 1249 0 k (nI (j + 1)) = X1 at *
      have hl1 := hl.fr F1
      have hG1 := hG.fr F1 (by decide)
      have hxn1 := hxn.fr F1 (by decide)
      have hxz1 := hxz.fr F1 (by decide)
      rw [F1.n, ln1240 hl, chk_nI (by omega) (by omega), nI_clamp (by omega), (hxn1.1.2 j hjp).2]
      have skip : ¬ en N R (nS N) (cO od k) j → Ok (fX11_least_l92 (nI T) n (zbI 2000000000 (zb z)) (nI k) X1) Q := fun ne => by
        rw [one_ne nx ne] at cont exc
        exact ihd (j + 1) z n X1 (by omega) (by omega) hx hz (by omega) hl1 hG1 hxn1 hxz1 v49 (fun n' X' a1 a2 a3 a4 a5 a6 a7 => cont n' X' a1 (by omega) ((F1.mono (by decide)).step a3 (by decide)) a4 a5 a6 (fun i hi => (a7 i hi).trans (o49 i hi))) (fun X' a1 a2 a3 => exc X' ((F1.mono (by decide)).step a1 (by decide)) a2 a3)
      by_cases rr : cO od k j < R j
      rotate_left
      · rw [if_pos (show nI (R j - cO od k j) = 0 by rw [show R j - cO od k j = 0 by omega]; rfl)]
        exact skip (fun ne => rr ne.1)
      rw [if_neg (nI_ne0 (by omega) (by omega))]
      rcases m_may hN hl1 hG1 hxn1.1 hB hK hjp with ⟨ev, tt⟩ | ⟨ev, tt⟩
      rotate_left
      · rw [ev, Option.bind_some, if_pos rfl]
        exact skip (fun ne => tt ((en_iff hK).mp ne).2)
      have he := (en_iff hK).mpr ⟨rr, tt⟩
      rw [ev, Option.bind_some, if_neg (by decide), hxz1.1]
      by_cases t : zt z < T
      rotate_left
      · have et : zt z = T := by omega
        rw [if_pos (by rw [et])]
        refine ok_some (exc X1 (F1.mono (by decide)) ?_ ?_)
        · rw [one_ex nx he t, foldD_x _ _ rfl]; rfl
        · rw [one_ex nx he t, foldD_x _ _ rfl]; exact hxz1.1
      rw [if_neg (nI_ne (by omega) (by omega) (by omega)), bnd_eq, nI_1]
      have hv1 := vr_upk hv hjp he
      have svl := sv_le hN hB hv1
      have F2 : Fr [120048] X1 (sI X1 11 0 48 (nI (zt z + 1))) := Fr.refl.wIo (by decide)
      have v48 : mI (sI X1 11 0 48 (nI (zt z + 1))) 11 0 48 = nI (zt z + 1) := by rw [mI_sI, if_pos ⟨rfl, rfl, rfl⟩]
      generalize sI X1 11 0 48 (nI (zt z + 1)) = X2 at *
      have hxn2 := hxn1.fr F2 (by decide)
      refine ok_call (m_keepS (k := k) hN (hl1.fr F2) (hG1.fr F2 (by decide)) (by omega) hxn2.2.1) ?_
      rintro X3 ⟨F3, k3, k3b⟩
      have G3 : Fr kL X X3 := ((F1.mono (by decide)).step F2 (by decide)).step F3 (by decide)
      rw [G3.n, ln1250 hl, chk_nI (by omega) (by omega), bnd_eq]
      have F4 : Fr [1250] X3 (sI X3 1250 0 k (nI j)) := Fr.refl.wI (by decide)
      have v50 : ∀ i, i < k + 1 → mI (sI X3 1250 0 k (nI j)) 1250 0 i = nI (upk od k j i) := fun i hi => by
        rw [mI_sI]
        by_cases e : i = k
        · rw [if_pos ⟨rfl, rfl, e⟩, e, upk_same]
        · rw [if_neg (fun q => e q.2.2), upk_ne e, F3.aI (by decide)]; exact hxn2.2.2.1 i (by omega)
      generalize sI X3 1250 0 k (nI j) = X4 at *
      have G4 : Fr kL X X4 := G3.step F4 (by decide)
      have mx4 : MX X4 N R (nS N) (cO od k) := (hxn2.1.fr F3 (by decide)).fr F4 (by decide)
      refine ok_call (m_fire hN (hl.fr G4) (hG.fr G4 (by decide)) mx4 hB hK hjp he) ?_
      rintro X5 ⟨F5, g5⟩
      have G5 : Fr kL X X5 := G4.step F5 (by decide)
      refine ok_call (m_storeM (m := fun l => mk N (nS N) (fi (cO od k) j) l) (st := sO N od k) hN (hl.fr G5) (hG.fr G5 (by decide)) g5.1 (fun l hl' => by rw [F5.aI (by decide), F4.aI (by decide), F3.aI (by decide)]; exact hxn2.2.1 l hl') (fun l hl' => ⟨mk_le hN hB (cOK_fi hK he) hl', sO_le hN hB hv l hl'⟩)) ?_
      rintro X6 ⟨F6, g6⟩
      have G6 : Fr kL X X6 := G5.step F6 (by decide)
      have es : (fun l => max (sO N od k l) (mk N (nS N) (fi (cO od k) j) l)) = sO N (upk od k j) (k + 1) := funext fun l => by
        show _ = max (sO N (upk od k j) k l) (mk N (nS N) (cO (upk od k j) (k + 1)) l)
        rw [sO_upk, cO_upk1]
      rw [es] at g6
      have g5' := g5.fr F6 (by decide)
      have hl6 := hl.fr G6
      have hG6 := hG.fr G6 (by decide)
      have st6 := m_stored hN hl6 hG6 g6
      have b51 : ∀ l, l < nL N → mI X6 1251 0 (20 * k + l) = nI (sO N od k l) := fun l hl' => by rw [F6.aI (by decide), F5.aI (by decide), F4.aI (by decide)]; exact k3 l hl'
      have w48 : mI X6 11 0 48 = nI (zt z + 1) := by rw [F6.oI (by decide), F5.oI (by decide), F4.oI (by decide), F3.oI (by decide)]; exact v48
      have w36 : mI X6 11 0 36 = nI S := (G6.oI (by decide)).trans hxn.2.2.2.2
      have w49 : mI X6 1249 0 k = nI (j + 1) := by rw [F6.aI (by decide), F5.aI (by decide), F4.aI (by decide), F3.aI (by decide), F2.aI (by decide)]; exact v49
      have w49b : ∀ i, i < k → mI X6 1249 0 i = mI X 1249 0 i := fun i hi => by rw [F6.aI (by decide), F5.aI (by decide), F4.aI (by decide), F3.aI (by decide), F2.aI (by decide)]; exact o49 i hi
      have w50 : ∀ i, i < k + 1 → mI X6 1250 0 i = nI (upk od k j i) := fun i hi => by rw [F6.aI (by decide), F5.aI (by decide)]; exact v50 i hi
      have w51 : ∀ i, i < k → ∀ l, l < nL N → mI X6 1251 0 (20 * i + l) = nI (sO N od i l) := fun i hi l hl' => by rw [F6.aI (by decide), F5.aI (by decide), F4.aI (by decide), k3b _ (by omega)]; exact hxn2.2.2.2.1 i hi l hl'
      have w523 : ¬ zb z = none → (∀ i, i < S → mI X6 1252 0 i = nI (zo z i)) ∧ ∀ l, l < nL N → mI X6 1253 0 l = nI (sO N (zo z) S l) := fun h => ⟨fun i hi => by rw [F6.aI (by decide), F5.aI (by decide), F4.aI (by decide), F3.aI (by decide), F2.aI (by decide)]; exact (hxz1.2 h).1 i hi, fun l hl' => by rw [F6.aI (by decide), F5.aI (by decide), F4.aI (by decide), F3.aI (by decide), F2.aI (by decide)]; exact (hxz1.2 h).2 l hl'⟩
      rw [st6, Option.bind_some]
      have svd : sumTo (sO N (upk od k j) (k + 1)) (nL N) = sv N od k j := rfl
      rw [svd]
      -- back to this depth
      have back : ∀ (z1 : ZS) Xa, one N R T S (srch N R T S 0) od k j z = z1 → zx z1 = false → Fr [1252, 1253] X6 Xa → XZ Xa N S z1 → zt z + 1 ≤ zt z1 → Ok ((fX11_unfireMark (nI j) Xa).bind fun M59 => (fX11_bringStores (nI k) M59).bind fun M61 => fX11_least_l92 (nI T) n (zbI 2000000000 (zb z1)) (nI k) M61) Q := fun z1 Xa e1 hx1 Fa hza htz => by
        have Ga : Fr kL X Xa := G6.step Fa (by decide)
        refine ok_call (m_back hN (hl.fr Ga) (hG.fr Ga (by decide)) (g5'.fr Fa (by decide)) hB hK hjp he) ?_
        rintro X7 ⟨F7, g7⟩
        have G7 : Fr kL X X7 := Ga.step F7 (by decide)
        refine ok_call (m_bringS (k := k) (st := sO N od k) hN (hl.fr G7) (hG.fr G7 (by decide)) (by omega) (fun l hl' => by rw [F7.aI (by decide), Fa.aI (by decide)]; exact b51 l hl')) ?_
        rintro X8 ⟨F8, g8⟩
        have G8 : Fr kL X X8 := G7.step F8 (by decide)
        have H : Fr [1238, 1239, 1240, 1246, 1252, 1253] X6 X8 := ((Fa.mono (by decide)).step F7 (by decide)).step F8 (by decide)
        have hz1 : ZOK N R T S z1 := by rw [← e1]; exact one_ok hk hv hjp hz
        rw [e1] at cont exc
        refine ihd (j + 1) z1 n X8 (by omega) (by omega) hx1 hz1 (by omega) (hl.fr G8) (hG.fr G8 (by decide)) ⟨g7.fr F8 (by decide), g8, fun i hi => by rw [H.aI (by decide), w50 i (by omega), upk_ne (by omega)], fun i hi l hl' => by rw [H.aI (by decide)]; exact w51 i hi l hl', by rw [H.oI (by decide)]; exact w36⟩ ((hza.fr F7 (by decide)).fr F8 (by decide)) (by rw [H.aI (by decide)]; exact w49) (fun n' X' a1 a2 a3 a4 a5 a6 a7 => cont n' X' a1 (by omega) (G8.step a3 (by decide)) a4 a5 a6 (fun i hi => by rw [a7 i hi, H.aI (by decide)]; exact w49b i hi)) (fun X' a1 a2 a3 => exc X' (G8.step a1 (by decide)) a2 a3)
      by_cases b : ∃ v, zb z = some v ∧ v ≤ sv N od k j
      · have e1 : one N R T S (srch N R T S 0) od k j z = (zt z + 1, zb z, zo z, false) := one_pr nx he t b
        obtain ⟨v, hv', hle⟩ := b
        have hle' : zbI 2000000000 (zb z) ≤ nI (sv N od k j) := by rw [hv']; exact nI_le hle (by omega)
        rw [if_pos hle', Option.bind_some, if_pos rfl, Option.bind_some]
        show Ok (Option.bind (α := Int32 × tM) (if (0 : Int32) = 0 then _ else _) _) _
        rw [if_pos rfl]
        have := back _ X6 e1 rfl Fr.refl ⟨w48, w523⟩ (Nat.le_refl _)
        revert this
        cases fX11_unfireMark (nI j) X6 with
        | none => intro h; exact h
        | some M59 =>
          rw [Option.bind_some, Option.bind_some]
          cases fX11_bringStores (nI k) M59 with
          | none => intro h; exact h
          | some M61 => intro h; exact h
      have nle : ¬ zbI 2000000000 (zb z) ≤ nI (sv N od k j) := by
        cases hb' : zb z with
        | none => exact nI_ge (b := 2000000000) (by omega) (by omega)
        | some v =>
          have h2 : ¬ v ≤ sv N od k j := fun q => b ⟨v, hb', q⟩
          have h3 := zb_le hN hB hz hb'
          exact nI_ge (by omega) (by omega)
      have s : k + 1 = S := by omega
      have e1 : one N R T S (srch N R T S 0) od k j z = (zt z + 1, some (sv N od k j), upk od k j, false) := one_lf nx he t b s
      rw [if_neg nle, Option.bind_some, if_neg (by decide), w36, if_pos (show nI k + 1 = nI S by rw [nI_1, s]), Option.bind_some]
      refine ok_call (P := fun w : Int32 × tM => w.1 = nI (sv N od k j) ∧ Fr [1252, 1253] X6 w.2 ∧ (∀ i, i < S → mI w.2 1252 0 i = nI (upk od k j i)) ∧ ∀ l, l < nL N → mI w.2 1253 0 l = nI (sO N (upk od k j) (k + 1) l)) ?_ ?_
      · refine ok_call (m_keepB hN hl6 hG6 hS40 w36 g6 (fun i hi => w50 i (by omega))) ?_
        rintro Xb ⟨Fb, kb1, kb2⟩
        exact ok_some ⟨rfl, Fb, kb1, kb2⟩
      · rintro ⟨xv, Xb⟩ ⟨q1, Fb, kb1, kb2⟩
        have q1 : xv = nI (sv N od k j) := q1
        have Fb : Fr [1252, 1253] X6 Xb := Fb
        subst q1
        show Ok (Option.bind (α := Int32 × tM) (if (1 : Int32) = 0 then _ else if mI Xb 11 0 36 ≤ nI k + 1 then _ else _) _) _
        rw [if_neg (by decide), Fb.oI (by decide), w36, if_pos (show nI S ≤ nI k + 1 by rw [nI_1]; exact nI_le (by omega) (by omega))]
        have := back _ Xb e1 rfl Fb ⟨(Fb.oI (by decide)).trans w48, fun _ => ⟨kb1, fun l hl' => by show _ = nI (sO N (upk od k j) S l); rw [← s]; exact kb2 l hl'⟩⟩ (Nat.le_refl _)
        revert this
        cases fX11_unfireMark (nI j) Xb with
        | none => intro h; exact h
        | some M59 =>
          rw [Option.bind_some, Option.bind_some]
          cases fX11_bringStores (nI k) M59 with
          | none => intro h; exact h
          | some M61 => intro h; exact h
  | succ r ihr =>
    intro k od hk hv d
    induction d with
    | zero =>
      intro j z n X hd hj hx hz hf hl hG hxn hxz h49 cont exc
      have ej : j = nP N := by omega
      exact cont n X hx (by show n + 9 * zt z ≤ n + 9 * zt z + 0; omega) Fr.refl hxn hxz (by rw [h49, ej]) (fun _ _ => rfl)
    | succ d ihd =>
      intro j z n X hd hj hx hz hf hl hG hxn hxz h49 cont exc
      have hzt := hz.1
      obtain ⟨n, rfl⟩ : ∃ m, n = m + 1 := ⟨n - 1, by omega⟩
      have hjp : j < nP N := by omega
      have nx : ¬ zx z = true := by rw [hx]; decide
      have hK := vr_ok hv
      have hRj := hB.1 j hjp
      have ed : nP N - (d + 1) = j := by omega
      rw [foldD, ed] at cont exc
      rw [fX11_least_l92, if_neg (nI_pos (by omega)), ln1249 hl, chk_nI (by omega) (by omega), nI_clamp (by omega), h49, hG.1.1, if_neg (nI_ne (by omega) (by omega) (by omega)), chk_nI (by omega) (by omega), bnd_eq, chk_nI (by omega) (by omega), chk_nI (by omega) (by omega), bnd_eq, nI_1]
      have F1 : Fr [1249] X (sI X 1249 0 k (nI (j + 1))) := Fr.refl.wI (by decide)
      have v49 : mI (sI X 1249 0 k (nI (j + 1))) 1249 0 k = nI (j + 1) := by rw [mI_sI, if_pos ⟨rfl, rfl, rfl⟩]
      have o49 : ∀ i, i < k → mI (sI X 1249 0 k (nI (j + 1))) 1249 0 i = mI X 1249 0 i := fun i hi => by rw [mI_sI, if_neg (by omega)]
      generalize sI X 1249 0 k (nI (j + 1)) = X1 at *
      have hl1 := hl.fr F1
      have hG1 := hG.fr F1 (by decide)
      have hxn1 := hxn.fr F1 (by decide)
      have hxz1 := hxz.fr F1 (by decide)
      rw [F1.n, ln1240 hl, chk_nI (by omega) (by omega), nI_clamp (by omega), (hxn1.1.2 j hjp).2]
      have skip : ¬ en N R (nS N) (cO od k) j → Ok (fX11_least_l92 (nI T) n (zbI 2000000000 (zb z)) (nI k) X1) Q := fun ne => by
        rw [one_ne nx ne] at cont exc
        exact ihd (j + 1) z n X1 (by omega) (by omega) hx hz (by omega) hl1 hG1 hxn1 hxz1 v49 (fun n' X' a1 a2 a3 a4 a5 a6 a7 => cont n' X' a1 (by omega) ((F1.mono (by decide)).step a3 (by decide)) a4 a5 a6 (fun i hi => (a7 i hi).trans (o49 i hi))) (fun X' a1 a2 a3 => exc X' ((F1.mono (by decide)).step a1 (by decide)) a2 a3)
      by_cases rr : cO od k j < R j
      rotate_left
      · rw [if_pos (show nI (R j - cO od k j) = 0 by rw [show R j - cO od k j = 0 by omega]; rfl)]
        exact skip (fun ne => rr ne.1)
      rw [if_neg (nI_ne0 (by omega) (by omega))]
      rcases m_may hN hl1 hG1 hxn1.1 hB hK hjp with ⟨ev, tt⟩ | ⟨ev, tt⟩
      rotate_left
      · rw [ev, Option.bind_some, if_pos rfl]
        exact skip (fun ne => tt ((en_iff hK).mp ne).2)
      have he := (en_iff hK).mpr ⟨rr, tt⟩
      rw [ev, Option.bind_some, if_neg (by decide), hxz1.1]
      by_cases t : zt z < T
      rotate_left
      · have et : zt z = T := by omega
        rw [if_pos (by rw [et])]
        refine ok_some (exc X1 (F1.mono (by decide)) ?_ ?_)
        · rw [one_ex nx he t, foldD_x _ _ rfl]; rfl
        · rw [one_ex nx he t, foldD_x _ _ rfl]; exact hxz1.1
      rw [if_neg (nI_ne (by omega) (by omega) (by omega)), bnd_eq, nI_1]
      have hv1 := vr_upk hv hjp he
      have svl := sv_le hN hB hv1
      have F2 : Fr [120048] X1 (sI X1 11 0 48 (nI (zt z + 1))) := Fr.refl.wIo (by decide)
      have v48 : mI (sI X1 11 0 48 (nI (zt z + 1))) 11 0 48 = nI (zt z + 1) := by rw [mI_sI, if_pos ⟨rfl, rfl, rfl⟩]
      generalize sI X1 11 0 48 (nI (zt z + 1)) = X2 at *
      have hxn2 := hxn1.fr F2 (by decide)
      refine ok_call (m_keepS (k := k) hN (hl1.fr F2) (hG1.fr F2 (by decide)) (by omega) hxn2.2.1) ?_
      rintro X3 ⟨F3, k3, k3b⟩
      have G3 : Fr kL X X3 := ((F1.mono (by decide)).step F2 (by decide)).step F3 (by decide)
      rw [G3.n, ln1250 hl, chk_nI (by omega) (by omega), bnd_eq]
      have F4 : Fr [1250] X3 (sI X3 1250 0 k (nI j)) := Fr.refl.wI (by decide)
      have v50 : ∀ i, i < k + 1 → mI (sI X3 1250 0 k (nI j)) 1250 0 i = nI (upk od k j i) := fun i hi => by
        rw [mI_sI]
        by_cases e : i = k
        · rw [if_pos ⟨rfl, rfl, e⟩, e, upk_same]
        · rw [if_neg (fun q => e q.2.2), upk_ne e, F3.aI (by decide)]; exact hxn2.2.2.1 i (by omega)
      generalize sI X3 1250 0 k (nI j) = X4 at *
      have G4 : Fr kL X X4 := G3.step F4 (by decide)
      have mx4 : MX X4 N R (nS N) (cO od k) := (hxn2.1.fr F3 (by decide)).fr F4 (by decide)
      refine ok_call (m_fire hN (hl.fr G4) (hG.fr G4 (by decide)) mx4 hB hK hjp he) ?_
      rintro X5 ⟨F5, g5⟩
      have G5 : Fr kL X X5 := G4.step F5 (by decide)
      refine ok_call (m_storeM (m := fun l => mk N (nS N) (fi (cO od k) j) l) (st := sO N od k) hN (hl.fr G5) (hG.fr G5 (by decide)) g5.1 (fun l hl' => by rw [F5.aI (by decide), F4.aI (by decide), F3.aI (by decide)]; exact hxn2.2.1 l hl') (fun l hl' => ⟨mk_le hN hB (cOK_fi hK he) hl', sO_le hN hB hv l hl'⟩)) ?_
      rintro X6 ⟨F6, g6⟩
      have G6 : Fr kL X X6 := G5.step F6 (by decide)
      have es : (fun l => max (sO N od k l) (mk N (nS N) (fi (cO od k) j) l)) = sO N (upk od k j) (k + 1) := funext fun l => by
        show _ = max (sO N (upk od k j) k l) (mk N (nS N) (cO (upk od k j) (k + 1)) l)
        rw [sO_upk, cO_upk1]
      rw [es] at g6
      have g5' := g5.fr F6 (by decide)
      have hl6 := hl.fr G6
      have hG6 := hG.fr G6 (by decide)
      have st6 := m_stored hN hl6 hG6 g6
      have b51 : ∀ l, l < nL N → mI X6 1251 0 (20 * k + l) = nI (sO N od k l) := fun l hl' => by rw [F6.aI (by decide), F5.aI (by decide), F4.aI (by decide)]; exact k3 l hl'
      have w48 : mI X6 11 0 48 = nI (zt z + 1) := by rw [F6.oI (by decide), F5.oI (by decide), F4.oI (by decide), F3.oI (by decide)]; exact v48
      have w36 : mI X6 11 0 36 = nI S := (G6.oI (by decide)).trans hxn.2.2.2.2
      have w49 : mI X6 1249 0 k = nI (j + 1) := by rw [F6.aI (by decide), F5.aI (by decide), F4.aI (by decide), F3.aI (by decide), F2.aI (by decide)]; exact v49
      have w49b : ∀ i, i < k → mI X6 1249 0 i = mI X 1249 0 i := fun i hi => by rw [F6.aI (by decide), F5.aI (by decide), F4.aI (by decide), F3.aI (by decide), F2.aI (by decide)]; exact o49 i hi
      have w50 : ∀ i, i < k + 1 → mI X6 1250 0 i = nI (upk od k j i) := fun i hi => by rw [F6.aI (by decide), F5.aI (by decide)]; exact v50 i hi
      have w51 : ∀ i, i < k → ∀ l, l < nL N → mI X6 1251 0 (20 * i + l) = nI (sO N od i l) := fun i hi l hl' => by rw [F6.aI (by decide), F5.aI (by decide), F4.aI (by decide), k3b _ (by omega)]; exact hxn2.2.2.2.1 i hi l hl'
      have w523 : ¬ zb z = none → (∀ i, i < S → mI X6 1252 0 i = nI (zo z i)) ∧ ∀ l, l < nL N → mI X6 1253 0 l = nI (sO N (zo z) S l) := fun h => ⟨fun i hi => by rw [F6.aI (by decide), F5.aI (by decide), F4.aI (by decide), F3.aI (by decide), F2.aI (by decide)]; exact (hxz1.2 h).1 i hi, fun l hl' => by rw [F6.aI (by decide), F5.aI (by decide), F4.aI (by decide), F3.aI (by decide), F2.aI (by decide)]; exact (hxz1.2 h).2 l hl'⟩
      rw [st6, Option.bind_some]
      have svd : sumTo (sO N (upk od k j) (k + 1)) (nL N) = sv N od k j := rfl
      rw [svd]
      -- back to this depth, with m turns left
      have back : ∀ (z1 : ZS) Xa m, one N R T S (srch N R T S (r + 1)) od k j z = z1 → zx z1 = false → Fr [1238, 1239, 1240, 1246, 1249, 1250, 1251, 1252, 1253, 120048] X6 Xa → MX Xa N R (nS N) (fi (cO od k) j) → XZ Xa N S z1 → n + 9 * zt z ≤ m + 9 * zt z1 → (∀ i, i < k + 1 → mI Xa 1249 0 i = mI X6 1249 0 i) → (∀ i, i < k + 1 → mI Xa 1250 0 i = nI (upk od k j i)) → (∀ i, i < k + 1 → ∀ l, l < nL N → mI Xa 1251 0 (20 * i + l) = nI (sO N od i l)) → Ok ((fX11_unfireMark (nI j) Xa).bind fun M59 => (fX11_bringStores (nI k) M59).bind fun M61 => fX11_least_l92 (nI T) m (zbI 2000000000 (zb z1)) (nI k) M61) Q := fun z1 Xa m e1 hx1 Fa hMa hza htz a49 a50 a51 => by
        have Ga : Fr kL X Xa := G6.step Fa (by decide)
        refine ok_call (m_back hN (hl.fr Ga) (hG.fr Ga (by decide)) hMa hB hK hjp he) ?_
        rintro X7 ⟨F7, g7⟩
        have G7 : Fr kL X X7 := Ga.step F7 (by decide)
        refine ok_call (m_bringS (k := k) (st := sO N od k) hN (hl.fr G7) (hG.fr G7 (by decide)) (by omega) (fun l hl' => by rw [F7.aI (by decide)]; exact a51 k (by omega) l hl')) ?_
        rintro X8 ⟨F8, g8⟩
        have G8 : Fr kL X X8 := G7.step F8 (by decide)
        have H : Fr [1238, 1239, 1240, 1246] Xa X8 := (F7.mono (by decide)).step F8 (by decide)
        have hz1 : ZOK N R T S z1 := by rw [← e1]; exact one_ok hk hv hjp hz
        rw [e1] at cont exc
        refine ihd (j + 1) z1 m X8 (by omega) (by omega) hx1 hz1 (by omega) (hl.fr G8) (hG.fr G8 (by decide)) ⟨g7.fr F8 (by decide), g8, fun i hi => by rw [H.aI (by decide), a50 i (by omega), upk_ne (by omega)], fun i hi l hl' => by rw [H.aI (by decide)]; exact a51 i (by omega) l hl', by rw [H.oI (by decide), Ga.oI (by decide)]; exact hxn.2.2.2.2⟩ ((hza.fr F7 (by decide)).fr F8 (by decide)) (by rw [H.aI (by decide), a49 k (by omega)]; exact w49) (fun n' X' a1 a2 a3 a4 a5 a6 a7 => cont n' X' a1 (by omega) (G8.step a3 (by decide)) a4 a5 a6 (fun i hi => by rw [a7 i hi, H.aI (by decide), a49 i (by omega)]; exact w49b i hi)) (fun X' a1 a2 a3 => exc X' (G8.step a1 (by decide)) a2 a3)
      have w51' : ∀ i, i < k + 1 → ∀ l, l < nL N → mI X6 1251 0 (20 * i + l) = nI (sO N od i l) := fun i hi l hl' => by
        by_cases e : i = k
        · rw [e]; exact b51 l hl'
        · exact w51 i (by omega) l hl'
      by_cases b : ∃ v, zb z = some v ∧ v ≤ sv N od k j
      · have e1 : one N R T S (srch N R T S (r + 1)) od k j z = (zt z + 1, zb z, zo z, false) := one_pr nx he t b
        obtain ⟨v, hv', hle⟩ := b
        have hle' : zbI 2000000000 (zb z) ≤ nI (sv N od k j) := by rw [hv']; exact nI_le hle (by omega)
        rw [if_pos hle', Option.bind_some, if_pos rfl, Option.bind_some]
        show Ok (Option.bind (α := Int32 × tM) (if (0 : Int32) = 0 then _ else _) _) _
        rw [if_pos rfl]
        have := back _ X6 n e1 rfl Fr.refl g5' ⟨w48, w523⟩ (by show n + 9 * zt z ≤ n + 9 * (zt z + 1); omega) (fun _ _ => rfl) w50 w51'
        revert this
        cases fX11_unfireMark (nI j) X6 with
        | none => intro h; exact h
        | some M59 =>
          rw [Option.bind_some, Option.bind_some]
          cases fX11_bringStores (nI k) M59 with
          | none => intro h; exact h
          | some M61 => intro h; exact h
      have nle : ¬ zbI 2000000000 (zb z) ≤ nI (sv N od k j) := by
        cases hb' : zb z with
        | none => exact nI_ge (b := 2000000000) (by omega) (by omega)
        | some v =>
          have h2 : ¬ v ≤ sv N od k j := fun q => b ⟨v, hb', q⟩
          have h3 := zb_le hN hB hz hb'
          exact nI_ge (by omega) (by omega)
      have s : ¬ k + 1 = S := by omega
      have e1 : one N R T S (srch N R T S (r + 1)) od k j z = srch N R T S (r + 1) (upk od k j) (k + 1) (zt z + 1, zb z, zo z, false) := one_rc nx he t b s
      rw [if_neg nle, Option.bind_some, if_neg (by decide), w36, if_neg (show ¬ nI k + 1 = nI S by rw [nI_1]; exact nI_ne (by omega) (by omega) (by omega)), Option.bind_some]
      show Ok (Option.bind (α := Int32 × tM) (if (1 : Int32) = 0 then _ else if mI X6 11 0 36 ≤ nI k + 1 then _ else _) _) _
      rw [if_neg (by decide), w36, if_neg (show ¬ nI S ≤ nI k + 1 by rw [nI_1]; exact nI_ge (by omega) (by omega)), bnd_eq, nI_1, G6.n, ln1249 hl, chk_nI (by omega) (by omega), bnd_eq, nI_clamp (by omega), Option.bind_some]
      show Ok (fX11_least_l92 (nI T) n (zbI 2000000000 (zb z)) (nI (k + 1)) (sI X6 1249 0 (k + 1) 0)) Q
      have F9 : Fr [1249] X6 (sI X6 1249 0 (k + 1) 0) := Fr.refl.wI (by decide)
      have u49 : mI (sI X6 1249 0 (k + 1) 0) 1249 0 (k + 1) = nI 0 := by rw [mI_sI, if_pos ⟨rfl, rfl, rfl⟩]; rfl
      have u49b : ∀ i, i < k + 1 → mI (sI X6 1249 0 (k + 1) 0) 1249 0 i = mI X6 1249 0 i := fun i hi => by rw [mI_sI, if_neg (by omega)]
      generalize sI X6 1249 0 (k + 1) 0 = X9 at *
      have G9 : Fr kL X X9 := G6.step F9 (by decide)
      have hz1 : ZOK N R T S (zt z + 1, zb z, zo z, false) := ⟨t, hz.2⟩
      have xn9 : XN X9 N R (upk od k j) (k + 1) S := ⟨by rw [cO_upk1]; exact g5'.fr F9 (by decide), fun l hl' => (F9.aI (by decide)).trans (g6 l hl'), fun i hi => (F9.aI (by decide)).trans (w50 i hi), fun i hi l hl' => by
        rw [F9.aI (by decide), w51' i hi l hl', sO_congr (fun q hq => upk_lt (k := k) (p := j) q (by omega))], (F9.oI (by decide)).trans w36⟩
      refine ihr (k + 1) (upk od k j) (by omega) hv1 (nP N) 0 (zt z + 1, zb z, zo z, false) n X9 (by omega) (Nat.zero_le _) rfl hz1 (by show 190000 + 9 * r + nP N ≤ n + 9 * (zt z + 1); omega) (hl.fr G9) (hG.fr G9 (by decide)) xn9 ⟨(F9.oI (by decide)).trans w48, fun h => ⟨fun i hi => (F9.aI (by decide)).trans ((w523 h).1 i hi), fun l hl' => (F9.aI (by decide)).trans ((w523 h).2 l hl')⟩⟩ u49 ?_ ?_
      · intro n' X' a1 a2 a3 a4 a5 a6 a7
        have hsz : foldD (one N R T S (srch N R T S r) (upk od k j) (k + 1)) (nP N) (nP N) (zt z + 1, zb z, zo z, false) = srch N R T S (r + 1) (upk od k j) (k + 1) (zt z + 1, zb z, zo z, false) := rfl
        rw [hsz] at a1 a2 a5 ⊢
        have a2 : n + 9 * (zt z + 1) ≤ n' + 9 * zt (srch N R T S (r + 1) (upk od k j) (k + 1) (zt z + 1, zb z, zo z, false)) + nP N := a2
        have hzz := (srch_ok (r + 1) (upk od k j) (k + 1) (zt z + 1, zb z, zo z, false) (by omega) hv1 hz1).1
        have hzz1 := hzz.1
        generalize srch N R T S (r + 1) (upk od k j) (k + 1) (zt z + 1, zb z, zo z, false) = z2 at *
        obtain ⟨m, rfl⟩ : ∃ m, n' = m + 1 := ⟨n' - 1, by omega⟩
        have Gx : Fr kL X X' := G9.step a3 (by decide)
        have em : nI (k + 1) + (-1) = nI k := pk_m1 k
        rw [fX11_least_l92, if_neg (nI_pos (by omega)), Gx.n, ln1249 hl, chk_nI (by omega) (by omega), nI_clamp (by omega), a6, Gx.oI (by decide), hG.1.1, if_pos rfl, bnd_eq, em, if_neg (nI_pos (by omega)), Gx.n, ln1250 hl, chk_nI (by omega) (by omega), nI_clamp (by omega), a4.2.2.1 k (by omega), upk_same]
        refine back z2 X' m e1 a1 ((F9.mono (by decide)).step a3 (by decide)) (by rw [← cO_upk1]; exact a4.1) a5 (by omega) (fun i hi => (a7 i hi).trans (u49b i hi)) a4.2.2.1 (fun i hi l hl' => ?_)
        have eso : sO N (upk od k j) i = sO N od i := (sO_congr (fun q hq => upk_lt (k := k) (p := j) q (by omega))).symm
        rw [a4.2.2.2.1 i hi l hl', eso]
      · intro X' a1 a2 a3
        have hsz : foldD (one N R T S (srch N R T S r) (upk od k j) (k + 1)) (nP N) (nP N) (zt z + 1, zb z, zo z, false) = srch N R T S (r + 1) (upk od k j) (k + 1) (zt z + 1, zb z, zo z, false) := rfl
        rw [hsz] at a2 a3
        refine exc X' (G9.step a1 (by decide)) ?_ ?_
        · rw [e1, foldD_x _ _ a2]; exact a2
        · rw [e1, foldD_x _ _ a2]; exact a3
