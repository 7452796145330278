/-! least: the search itself -/
abbrev ZS : Type := Nat × Option Nat × (Nat → Nat) × Bool
def zt (z : ZS) : Nat := z.1
def zb (z : ZS) : Option Nat := z.2.1
def zo (z : ZS) : Nat → Nat := z.2.2.1
def zx (z : ZS) : Bool := z.2.2.2
def foldD (f : Nat → ZS → ZS) (P : Nat) : Nat → ZS → ZS
  | 0, z => z
  | d + 1, z => foldD f P d (f (P - (d + 1)) z)
theorem foldD_step {f : Nat → ZS → ZS} {P i : Nat} {z : ZS} (h : i < P) : foldD f P (P - i) z = foldD f P (P - (i + 1)) (f i z) := by
  obtain ⟨d, hd⟩ : ∃ d, P - i = d + 1 := ⟨P - i - 1, by omega⟩
  rw [hd, foldD, show P - (d + 1) = i by omega, show P - (i + 1) = d by omega]
def sv (N : NG) (od : Nat → Nat) (k p : Nat) : Nat := sumTo (sO N (upk od k p) (k + 1)) (nL N)
noncomputable def one (N : NG) (R : Nat → Nat) (T S : Nat) (rc : (Nat → Nat) → Nat → ZS → ZS) (od : Nat → Nat) (k p : Nat) (z : ZS) : ZS :=
  if zx z = true then z
  else @ite _ (en N R (nS N) (cO od k) p) (Classical.propDecidable _)
    (if zt z < T then
      (@ite _ (∃ v, zb z = some v ∧ v ≤ sv N od k p) (Classical.propDecidable _) (zt z + 1, zb z, zo z, false)
        (if k + 1 = S then (zt z + 1, some (sv N od k p), upk od k p, false) else rc (upk od k p) (k + 1) (zt z + 1, zb z, zo z, false)))
      else (zt z, zb z, zo z, true)) z
noncomputable def srch (N : NG) (R : Nat → Nat) (T S : Nat) : Nat → (Nat → Nat) → Nat → ZS → ZS
  | 0, _, _, z => z
  | r + 1, od, k, z => foldD (one N R T S (srch N R T S r) od k) (nP N) (nP N) z
section ONE
variable {N : NG} {R : Nat → Nat} {T S : Nat} {rc : (Nat → Nat) → Nat → ZS → ZS} {od : Nat → Nat} {k p : Nat} {z : ZS}
theorem one_x (h : zx z = true) : one N R T S rc od k p z = z := if_pos h
theorem one_ne (h : ¬ zx z = true) (e : ¬ en N R (nS N) (cO od k) p) : one N R T S rc od k p z = z := (if_neg h).trans (if_neg e)
theorem one_ex (h : ¬ zx z = true) (e : en N R (nS N) (cO od k) p) (t : ¬ zt z < T) : one N R T S rc od k p z = (zt z, zb z, zo z, true) := (if_neg h).trans ((if_pos e).trans (if_neg t))
theorem one_pr (h : ¬ zx z = true) (e : en N R (nS N) (cO od k) p) (t : zt z < T) (b : ∃ v, zb z = some v ∧ v ≤ sv N od k p) : one N R T S rc od k p z = (zt z + 1, zb z, zo z, false) := (if_neg h).trans ((if_pos e).trans ((if_pos t).trans (if_pos b)))
theorem one_lf (h : ¬ zx z = true) (e : en N R (nS N) (cO od k) p) (t : zt z < T) (b : ¬ ∃ v, zb z = some v ∧ v ≤ sv N od k p) (s : k + 1 = S) : one N R T S rc od k p z = (zt z + 1, some (sv N od k p), upk od k p, false) := (if_neg h).trans ((if_pos e).trans ((if_pos t).trans ((if_neg b).trans (if_pos s))))
theorem one_rc (h : ¬ zx z = true) (e : en N R (nS N) (cO od k) p) (t : zt z < T) (b : ¬ ∃ v, zb z = some v ∧ v ≤ sv N od k p) (s : ¬ k + 1 = S) : one N R T S rc od k p z = rc (upk od k p) (k + 1) (zt z + 1, zb z, zo z, false) := (if_neg h).trans ((if_pos e).trans ((if_pos t).trans ((if_neg b).trans (if_neg s))))
end ONE
theorem foldD_x {N : NG} {R : Nat → Nat} {T S : Nat} {rc : (Nat → Nat) → Nat → ZS → ZS} {od : Nat → Nat} {k P : Nat} : ∀ d z, zx z = true → foldD (one N R T S rc od k) P d z = z := by
  intro d
  induction d with
  | zero => intro z _; rfl
  | succ d ih => intro z h; rw [foldD, one_x h]; exact ih z h
theorem cO_congr {od od' : Nat → Nat} : ∀ {k : Nat}, (∀ i, i < k → od i = od' i) → cO od k = cO od' k := by
  intro k
  induction k with
  | zero => intro _; rfl
  | succ k ih =>
    intro h
    show fi (cO od k) (od k) = fi (cO od' k) (od' k)
    rw [ih (fun i hi => h i (by omega)), h k (by omega)]
theorem sO_congr {N : NG} {od od' : Nat → Nat} : ∀ {k : Nat}, (∀ i, i < k → od i = od' i) → sO N od k = sO N od' k := by
  intro k
  induction k with
  | zero => intro _; rfl
  | succ k ih =>
    intro h
    show (fun l => max (sO N od k l) (mk N (nS N) (cO od (k + 1)) l)) = fun l => max (sO N od' k l) (mk N (nS N) (cO od' (k + 1)) l)
    rw [ih (fun i hi => h i (by omega)), cO_congr h]
theorem upk_lt {od : Nat → Nat} {k p : Nat} : ∀ i, i < k → od i = upk od k p i := fun i hi => (upk_ne (by omega)).symm
theorem cO_upk {od : Nat → Nat} {k p : Nat} : cO (upk od k p) k = cO od k := (cO_congr upk_lt).symm
theorem sO_upk {N : NG} {od : Nat → Nat} {k p : Nat} : sO N (upk od k p) k = sO N od k := (sO_congr upk_lt).symm
theorem cO_upk1 {od : Nat → Nat} {k p : Nat} : cO (upk od k p) (k + 1) = fi (cO od k) p := by
  show fi (cO (upk od k p) k) (upk od k p k) = _
  rw [cO_upk, upk_same]
theorem vr_upk {N : NG} {R od : Nat → Nat} {k p : Nat} (h : vr N R od k) (hp : p < nP N) (he : en N R (nS N) (cO od k) p) : vr N R (upk od k p) (k + 1) := fun i hi => by
  by_cases e : i = k
  · rw [e, upk_same, cO_upk]; exact ⟨hp, he⟩
  · have hc : cO (upk od k p) i = cO od i := (cO_congr (fun j hj => upk_lt j (by omega))).symm
    rw [upk_ne e, hc]; exact h i (by omega)
def ZOK (N : NG) (R : Nat → Nat) (T S : Nat) (z : ZS) : Prop := zt z ≤ T ∧ ∀ v, zb z = some v → vr N R (zo z) S ∧ v = sumTo (sO N (zo z) S) (nL N)
def Grow (z z' : ZS) : Prop := zt z ≤ zt z' ∧ (¬ zb z = none → ¬ zb z' = none)
theorem Grow.refl {z : ZS} : Grow z z := ⟨Nat.le_refl _, id⟩
theorem Grow.trans {a b c : ZS} (h : Grow a b) (g : Grow b c) : Grow a c := ⟨Nat.le_trans h.1 g.1, fun q => g.2 (h.2 q)⟩
theorem srch_ok {N : NG} {R : Nat → Nat} {T S : Nat} : ∀ r od k z, k + r = S → vr N R od k → ZOK N R T S z → ZOK N R T S (srch N R T S r od k z) ∧ Grow z (srch N R T S r od k z) := by
  intro r
  induction r with
  | zero => intro od k z _ _ h; exact ⟨h, Grow.refl⟩
  | succ r ih =>
    intro od k z hk hv hz
    have step : ∀ p z, p < nP N → ZOK N R T S z → ZOK N R T S (one N R T S (srch N R T S r) od k p z) ∧ Grow z (one N R T S (srch N R T S r) od k p z) := fun p z hp hz => by
      by_cases x : zx z = true
      · rw [one_x x]; exact ⟨hz, Grow.refl⟩
      by_cases e : en N R (nS N) (cO od k) p
      rotate_left
      · rw [one_ne x e]; exact ⟨hz, Grow.refl⟩
      by_cases t : zt z < T
      rotate_left
      · rw [one_ex x e t]; exact ⟨⟨hz.1, hz.2⟩, Nat.le_refl _, id⟩
      by_cases b : ∃ v, zb z = some v ∧ v ≤ sv N od k p
      · rw [one_pr x e t b]; exact ⟨⟨t, hz.2⟩, Nat.le_succ _, id⟩
      by_cases s : k + 1 = S
      · rw [one_lf x e t b s]
        refine ⟨⟨t, fun v hv' => ?_⟩, Nat.le_succ _, fun _ h => by cases h⟩
        have hv' : some (sv N od k p) = some v := hv'
        cases hv'
        rw [← s]
        exact ⟨vr_upk hv hp e, rfl⟩
      · rw [one_rc x e t b s]
        have := ih (upk od k p) (k + 1) (zt z + 1, zb z, zo z, false) (by omega) (vr_upk hv hp e) ⟨t, hz.2⟩
        exact ⟨this.1, Nat.le_trans (Nat.le_succ (zt z)) this.2.1, this.2.2⟩
    have fold : ∀ d z, d ≤ nP N → ZOK N R T S z → ZOK N R T S (foldD (one N R T S (srch N R T S r) od k) (nP N) d z) ∧ Grow z (foldD (one N R T S (srch N R T S r) od k) (nP N) d z) := by
      intro d
      induction d with
      | zero => intro z _ h; exact ⟨h, Grow.refl⟩
      | succ d ihd =>
        intro z hd h
        obtain ⟨h1, g1⟩ := step (nP N - (d + 1)) z (by omega) h
        obtain ⟨h2, g2⟩ := ihd _ (by omega) h1
        exact ⟨h2, g1.trans g2⟩
    exact fold _ _ (Nat.le_refl _) hz
theorem srch_found {N : NG} {R : Nat → Nat} {T S : Nat} (hN : NOK N) (hs : ¬ stk N R (nS N)) (hS : S = sumTo R (nP N)) : ∀ r od k z, k + r = S → 1 ≤ r → vr N R od k → ZOK N R T S z → ¬ zb (srch N R T S r od k z) = none ∨ zx (srch N R T S r od k z) = true := by
  intro r
  induction r with
  | zero => intro od k z _ h; omega
  | succ r ih =>
    intro od k z hk _ hv hz
    have hr := vr_rch hv
    have : ∃ p, p < nP N ∧ en N R (nS N) (cO od k) p := by
      refine Classical.byContradiction (fun q => hs ?_)
      have dd : dead N R (nS N) (cO od k) := fun p hp he => q ⟨p, hp, he⟩
      refine (stk_rch hN hr dd).mpr (Classical.byContradiction (fun w => ?_))
      have hK := vr_ok hv
      have e : sumTo (cO od k) (nP N) = sumTo R (nP N) := sumTo_congr (fun p hp => by
        have h1 : ¬ cO od k p < R p := fun q => w ⟨p, hp, q⟩
        have h2 := hK.1 p hp
        omega)
      rw [vr_sum hv] at e
      omega
    obtain ⟨p, hp, he⟩ := this
    -- good: found, or out of tries
    have keep : ∀ q z, q < nP N → ZOK N R T S z → (¬ zb z = none ∨ zx z = true) → (¬ zb (one N R T S (srch N R T S r) od k q z) = none ∨ zx (one N R T S (srch N R T S r) od k q z) = true) := fun q z hq hz h => by
      by_cases x : zx z = true
      · rw [one_x x]; exact Or.inr x
      have hb : ¬ zb z = none := h.elim id (fun y => absurd y x)
      left
      by_cases e : en N R (nS N) (cO od k) q
      rotate_left
      · rw [one_ne x e]; exact hb
      by_cases t : zt z < T
      rotate_left
      · rw [one_ex x e t]; exact hb
      by_cases b : ∃ v, zb z = some v ∧ v ≤ sv N od k q
      · rw [one_pr x e t b]; exact hb
      by_cases s : k + 1 = S
      · rw [one_lf x e t b s]; intro h; cases h
      · rw [one_rc x e t b s]
        exact (srch_ok r (upk od k q) (k + 1) (zt z + 1, zb z, zo z, false) (by omega) (vr_upk hv hq e) ⟨t, hz.2⟩).2.2 hb
    have okk : ∀ q z, q < nP N → ZOK N R T S z → ZOK N R T S (one N R T S (srch N R T S r) od k q z) := fun q z hq hz => by
      by_cases x : zx z = true
      · rw [one_x x]; exact hz
      by_cases e : en N R (nS N) (cO od k) q
      rotate_left
      · rw [one_ne x e]; exact hz
      by_cases t : zt z < T
      rotate_left
      · rw [one_ex x e t]; exact ⟨hz.1, hz.2⟩
      by_cases b : ∃ v, zb z = some v ∧ v ≤ sv N od k q
      · rw [one_pr x e t b]; exact ⟨t, hz.2⟩
      by_cases s : k + 1 = S
      · rw [one_lf x e t b s]
        refine ⟨t, fun v hv' => ?_⟩
        have hv' : some (sv N od k q) = some v := hv'
        cases hv'
        rw [← s]
        exact ⟨vr_upk hv hq e, rfl⟩
      · rw [one_rc x e t b s]
        exact (srch_ok r (upk od k q) (k + 1) (zt z + 1, zb z, zo z, false) (by omega) (vr_upk hv hq e) ⟨t, hz.2⟩).1
    have at_p : ∀ z, ZOK N R T S z → (¬ zb (one N R T S (srch N R T S r) od k p z) = none ∨ zx (one N R T S (srch N R T S r) od k p z) = true) := fun z hz => by
      by_cases x : zx z = true
      · rw [one_x x]; exact Or.inr x
      by_cases t : zt z < T
      rotate_left
      · rw [one_ex x he t]; exact Or.inr rfl
      by_cases b : ∃ v, zb z = some v ∧ v ≤ sv N od k p
      · rw [one_pr x he t b]
        obtain ⟨v, hv, -⟩ := b
        refine Or.inl (fun h => ?_)
        have h : zb z = none := h
        rw [hv] at h; cases h
      by_cases s : k + 1 = S
      · rw [one_lf x he t b s]; exact Or.inl (fun h => by cases h)
      · rw [one_rc x he t b s]
        exact ih (upk od k p) (k + 1) (zt z + 1, zb z, zo z, false) (by omega) (by omega) (vr_upk hv hp he) ⟨t, hz.2⟩
    have fold2 : ∀ d z, d ≤ nP N → ZOK N R T S z → (¬ zb z = none ∨ zx z = true) → (¬ zb (foldD (one N R T S (srch N R T S r) od k) (nP N) d z) = none ∨ zx (foldD (one N R T S (srch N R T S r) od k) (nP N) d z) = true) := by
      intro d
      induction d with
      | zero => intro z _ _ h; exact h
      | succ d ihd =>
        intro z hd h1 h2
        exact ihd _ (by omega) (okk _ z (by omega) h1) (keep _ z (by omega) h1 h2)
    have fold1 : ∀ d z, d ≤ nP N → nP N - d ≤ p → ZOK N R T S z → (¬ zb (foldD (one N R T S (srch N R T S r) od k) (nP N) d z) = none ∨ zx (foldD (one N R T S (srch N R T S r) od k) (nP N) d z) = true) := by
      intro d
      induction d with
      | zero => intro z _ h; omega
      | succ d ihd =>
        intro z hd hp' h1
        rw [foldD]
        by_cases e : nP N - (d + 1) = p
        · rw [e]; exact fold2 d _ (by omega) (okk _ z hp h1) (at_p z h1)
        · exact ihd _ (by omega) (by omega) (okk _ z (by omega) h1)
    exact fold1 (nP N) z (Nat.le_refl _) (by omega) hz
/-! least, the class's -/
theorem st1_sO {N : NG} {R od : Nat → Nat} {k p l : Nat} (hK : cOK N R (nS N) (cO od k)) (he : en N R (nS N) (cO od k) p) (hl : l < nL N) : st1 N (nS N) (cO od k) (sO N od k) p l = sO N (upk od k p) (k + 1) l := by
  show _ = max (sO N (upk od k p) k l) (mk N (nS N) (cO (upk od k p) (k + 1)) l)
  rw [sO_upk, cO_upk1, st1]
  by_cases e : nF N l = p
  · rw [if_pos e]
  · rw [if_neg e]
    have h1 := (mk_fi hK he hl).2
    have h2 : gvA N p (cO od k p % nH N p) l = 0 := if_neg e
    have h3 := mk_sO (N := N) (od := od) (k := k) (l := l)
    omega
def CN (M : tM) (N : NG) (R od : Nat → Nat) (k : Nat) : Prop := MC M N R (nS N) (cO od k) ∧ (∃ la, SC M N (sO N od k) k la) ∧ ∀ j, j < k → mI M 404 0 j = nI (od j)
def zbI (d : Int32) (b : Option Nat) : Int32 := match b with
  | none => d
  | some v => nI v
def CZ (M : tM) (S T : Nat) (z : ZS) : Prop := mI M 3 0 3 = nI (zt z) ∧ mI M 3 0 6 = zbI 1000000000 (zb z) ∧ mI M 3 0 7 = nI T ∧ mI M 3 0 8 = (if zx z = true then 1 else 0) ∧ (¬ zb z = none → ∀ j, j < S → mI M 402 0 j = nI (zo z j))
def kT : List Nat := [402, 404, 405, 601, 602, 603, 604, 605, 40003, 40006, 40008, 60006, 60007, 60008]
theorem sv_le {N : NG} {R od : Nat → Nat} {k p : Nat} (hN : NOK N) (hB : RB N R (nS N)) (hv : vr N R (upk od k p) (k + 1)) : sv N od k p ≤ 21000000 := by
  have hb := hN.1
  have h : ∀ n, n ≤ nL N → sumTo (sO N (upk od k p) (k + 1)) n ≤ 1050000 * n := by
    intro n
    induction n with
    | zero => intro _; exact Nat.le_refl _
    | succ n ih =>
      intro hn
      have h1 := ih (by omega)
      have h2 := sO_le hN hB hv n (by omega)
      rw [sumTo]; omega
  have := h (nL N) (Nat.le_refl _)
  unfold sv; omega
def CR (N : NG) (R : Nat → Nat) (S T : Nat) (rc : Int32 → tM → Option tM) (rz : (Nat → Nat) → Nat → ZS → ZS) (k : Nat) : Prop := ∀ od z M, vr N R od k → zx z = false → ZOK N R T S z → CN M N R od k → CZ M S T z → Len M → Cg M M N → Ok (rc (nI k) M) (fun m => Fr kT M m ∧ CN m N R od k ∧ CZ m S T (rz od k z) ∧ ∀ i, i < k * 20 → mI m 405 0 i = mI M 405 0 i)
set_option maxHeartbeats 1000000 in
theorem c_one {N : NG} {R od : Nat → Nat} {S T k p : Nat} {rc : Int32 → tM → Option tM} {rz : (Nat → Nat) → Nat → ZS → ZS} {z : ZS} {M : tM} (hN : NOK N) (hB : RB N R (nS N)) (hS : S = sumTo R (nP N)) (hS40 : S ≤ 40) (hT : T ≤ 20000) (hrc : k + 1 < S → CR N R S T rc rz (k + 1)) (hk : k < S) (hp : p < nP N) (hv : vr N R od k) (hx : zx z = false) (hz : ZOK N R T S z) (hc : CN M N R od k) (hcz : CZ M S T z) (hl : Len M) (hC : Cg M M N) (he : en N R (nS N) (cO od k) p) :
    Ok (fX3_tryOne_b rc (some p) (nI k) M) (fun m => Fr kT M m ∧ CN m N R od k ∧ CZ m S T (one N R T S rz od k p z) ∧ ∀ i, i < k * 20 → mI m 405 0 i = mI M 405 0 i) := by
  have hb := hN.1
  have hK := vr_ok hv
  have hzt := hz.1
  have nx : ¬ zx z = true := by rw [hx]; decide
  obtain ⟨hM, ⟨la, hSC⟩, h404⟩ := hc
  obtain ⟨z3, z6, z7, z8, z2⟩ := hcz
  rw [fX3_tryOne_b, z3, z7]
  by_cases t : zt z < T
  rotate_left
  · rw [if_neg (nI_nlt (by omega) (by omega)), bnd_eq, one_ex nx he t]
    have F : Fr [40008] M (sI M 3 0 8 1) := Fr.refl.wIo (by decide)
    refine ok_some ⟨F.mono (by decide), ⟨⟨fun l hl' => (F.aI (by decide)).trans (hM.1 l hl'), fun q hq => by rw [F.aI (by decide), F.aI (by decide)]; exact hM.2.1 q hq, (F.oI (by decide)).trans hM.2.2⟩, ⟨la, fun l hl' => by rw [F.aI (by decide)]; exact hSC.1 l hl', (F.oI (by decide)).trans hSC.2.1, (F.oI (by decide)).trans hSC.2.2.1, fun q hq => (F.aI (by decide)).trans (hSC.2.2.2 q hq)⟩, fun j hj => (F.aI (by decide)).trans (h404 j hj)⟩, ⟨(F.oI (by decide)).trans z3, (F.oI (by decide)).trans z6, (F.oI (by decide)).trans z7, by simp [mI_sI, zx], fun h j hj => (F.aI (by decide)).trans (z2 h j hj)⟩, fun i _ => F.aI (by decide)⟩
  rw [if_pos (nI_lt t (by omega)), bnd_eq, nI_1, Option.bind_some]
  have cp := (hC.2.1 p hp).1
  have F0 : Fr [40003] M (sI M 3 0 3 (nI (zt z + 1))) := Fr.refl.wIo (by decide)
  have v3 : mI (sI M 3 0 3 (nI (zt z + 1))) 3 0 3 = nI (zt z + 1) := by rw [mI_sI, if_pos ⟨rfl, rfl, rfl⟩]
  generalize sI M 3 0 3 (nI (zt z + 1)) = M2 at *
  rw [F0.n, ln404 hl, chk_nI (by omega) (by omega), bnd_eq, nI_clamp (by omega), F0.oI (by decide), cp.2.1]
  have F1 : Fr [404] M2 (sI M2 404 0 k (nI p)) := Fr.refl.wI (by decide)
  have v4 : ∀ j, j < k + 1 → mI (sI M2 404 0 k (nI p)) 404 0 j = nI (upk od k p j) := fun j hj => by
    rw [mI_sI]
    by_cases e : j = k
    · rw [if_pos ⟨rfl, rfl, e⟩, e, upk_same]
    · rw [if_neg (fun q => e q.2.2), upk_ne e, F0.aI (by decide)]; exact h404 j (by omega)
  generalize sI M2 404 0 k (nI p) = M5 at *
  have G5 : Fr [404, 40003] M M5 := (F0.mono (by decide)).step F1 (by decide)
  have hC5 := hC.fr G5 (by decide)
  have s7 : mI M5 5 0 7 = nI (sumTo (sO N od k) (nL N)) := (G5.oI (by decide)).trans hSC.2.1
  rw [bnd_eq, s7]
  refine ok_call (c_keepS (st := sO N od k) hN (hl.fr G5) hC5 hp (by omega) (fun l hl' => (G5.aI (by decide)).trans (hSC.1 l hl').1)) ?_
  rintro M8 ⟨F8, k8, k8b⟩
  have G8 : Fr [404, 405, 40003] M M8 := (G5.mono (by decide)).step F8 (by decide)
  have hC8 := hC.fr G8 (by decide)
  refine ok_call (c_step (k := k) (la := la) hN (hl.fr G8) hC8 ⟨fun l hl' => (G8.aI (by decide)).trans (hM.1 l hl'), fun q hq => by rw [G8.aI (by decide), G8.aI (by decide)]; exact hM.2.1 q hq, (G8.oI (by decide)).trans hM.2.2⟩ ⟨fun l hl' => by rw [G8.aI (by decide)]; exact hSC.1 l hl', (G8.oI (by decide)).trans hSC.2.1, (G8.oI (by decide)).trans hSC.2.2.1, fun q hq => (G8.aI (by decide)).trans (hSC.2.2.2 q hq)⟩ hB hK hp he) ?_
  rintro M10 ⟨F10, g1, g2⟩
  have hv1 := vr_upk hv hp he
  have g2' := g2.congr (st' := sO N (upk od k p) (k + 1)) (fun l hl' => st1_sO hK he hl') (fun _ _ => rfl)
  have G10 : Fr kT M M10 := (G8.mono (by decide)).step F10 (by decide)
  have cn1 : CN M10 N R (upk od k p) (k + 1) := ⟨by rw [cO_upk1]; exact g1, ⟨_, g2'⟩, fun j hj => (F10.aI (by decide)).trans ((F8.aI (by decide)).trans (v4 j hj))⟩
  have w3 : mI M10 3 0 3 = nI (zt z + 1) := (F10.oI (by decide)).trans ((F8.oI (by decide)).trans ((F1.oI (by decide)).trans v3))
  have w6 : mI M10 3 0 6 = zbI 1000000000 (zb z) := (F10.oI (by decide)).trans ((G8.oI (by decide)).trans z6)
  have w7 : mI M10 3 0 7 = nI T := (F10.oI (by decide)).trans ((G8.oI (by decide)).trans z7)
  have w8 : mI M10 3 0 8 = 0 := by rw [F10.oI (by decide), G8.oI (by decide), z8, hx]; rfl
  have w2 : ¬ zb z = none → ∀ j, j < S → mI M10 402 0 j = nI (zo z j) := fun h j hj => (F10.aI (by decide)).trans ((G8.aI (by decide)).trans (z2 h j hj))
  have w405 : ∀ i, i < k * 20 → mI M10 405 0 i = mI M 405 0 i := fun i hi => by rw [F10.aI (by decide), k8b i hi, G5.aI (by decide)]
  have k405 : ∀ l, l < nL N → nF N l = p → mI M10 405 0 (k * 20 + l) = nI (sO N od k l) := fun l hl' e => by rw [F10.aI (by decide)]; exact k8 l hl' e
  have svl := sv_le hN hB hv1
  have s57 : mI M10 5 0 7 = nI (sv N od k p) := g2'.2.1
  have s56 : mI M10 5 0 6 = nI (S - (k + 1)) := by
    rw [cn1.1.2.2]
    congr 1
    have aux : ∀ (f g : Nat → Nat) n, (∀ q, q < n → f q ≤ g q) → sumTo (fun q => g q - f q) n + sumTo f n = sumTo g n := by
      intro f g n
      induction n with
      | zero => intro _; rfl
      | succ n ihn =>
        intro hq
        have h1 := ihn (fun q h => hq q (by omega))
        have h2 := hq n (by omega)
        rw [sumTo, sumTo, sumTo]
        show sumTo (fun q => g q - f q) n + (g n - f n) + _ = _
        omega
    have a1 := aux _ _ _ (vr_ok hv1).1
    rw [vr_sum hv1] at a1
    omega
  have hl10 := hl.fr G10
  have hC10 := hC.fr G10 (by decide)
  -- behind the FIRING: what is done with it
  refine ok_call (P := fun m => Fr kT M10 m ∧ CN m N R (upk od k p) (k + 1) ∧ CZ m S T (one N R T S rz od k p z) ∧ ∀ i, i < (k + 1) * 20 → mI m 405 0 i = mI M10 405 0 i) ?_ ?_
  · rw [w6, s57]
    by_cases b : ∃ v, zb z = some v ∧ v ≤ sv N od k p
    · rw [one_pr nx he t b]
      obtain ⟨v, e, hle⟩ := b
      have hle' : zbI 1000000000 (zb z) ≤ nI (sv N od k p) := by rw [e]; exact nI_le hle (by omega)
      rw [if_pos hle']
      exact ok_some ⟨Fr.refl, cn1, ⟨w3, w6, w7, by rw [w8]; rfl, w2⟩, fun _ _ => rfl⟩
    have nle : ¬ zbI 1000000000 (zb z) ≤ nI (sv N od k p) := by
      cases hb' : zb z with
      | none => exact nI_ge (b := 1000000000) (by omega) (by omega)
      | some v =>
        have h1 := (hz.2 v hb').2
        have h2 : ¬ v ≤ sv N od k p := fun q => b ⟨v, hb', q⟩
        have h3 : v ≤ 21000000 := by
          have hvS := (hz.2 v hb').1
          rw [h1]
          have h : ∀ n, n ≤ nL N → sumTo (sO N (zo z) S) n ≤ 1050000 * n := by
            intro n
            induction n with
            | zero => intro _; exact Nat.le_refl _
            | succ n ih =>
              intro hn
              have h1 := ih (by omega)
              have h2 := sO_le hN hB hvS n (by omega)
              rw [sumTo]; omega
          have := h (nL N) (Nat.le_refl _)
          omega
        exact nI_ge (by omega) (by omega)
    rw [if_neg nle, s56]
    by_cases s : k + 1 = S
    · rw [if_pos (by rw [s, Nat.sub_self]; rfl), bnd_eq, one_lf nx he t b s]
      have F11 : Fr [40006] M10 (sI M10 3 0 6 (nI (sv N od k p))) := Fr.refl.wIo (by decide)
      have u6 : mI (sI M10 3 0 6 (nI (sv N od k p))) 3 0 6 = nI (sv N od k p) := by rw [mI_sI, if_pos ⟨rfl, rfl, rfl⟩]
      generalize sI M10 3 0 6 (nI (sv N od k p)) = M15 at *
      rw [F11.n, F11.n, ln404 hl10, ln402 hl10, nI_1, chk_tr (cpok_0 (n := k + 1) (by omega) (by omega) (by omega)), bnd_eq, nI_clamp (by omega), cl0]
      have F12 : Fr [402] M15 (cI M15 402 0 (va_cpy (mI M15 404 0) (mI M15 402 0) 0 0 (k + 1))) := Fr.refl.vI (by decide)
      have u2 : ∀ j, j < S → mI (cI M15 402 0 (va_cpy (mI M15 404 0) (mI M15 402 0) 0 0 (k + 1))) 402 0 j = nI (upk od k p j) := fun j hj => by
        rw [mI_cI, if_pos ⟨rfl, rfl⟩, cpy0 (by omega), F11.aI (by decide)]; exact cn1.2.2 j (by omega)
      generalize cI M15 402 0 (va_cpy (mI M15 404 0) (mI M15 402 0) 0 0 (k + 1)) = M17 at *
      have G12 : Fr [402, 40006] M10 M17 := (F11.mono (by decide)).step F12 (by decide)
      obtain ⟨c1, ⟨la1, c2⟩, c3⟩ := cn1
      refine ok_some ⟨G12.mono (by decide), ⟨⟨fun l hl' => (G12.aI (by decide)).trans (c1.1 l hl'), fun q hq => by rw [G12.aI (by decide), G12.aI (by decide)]; exact c1.2.1 q hq, (G12.oI (by decide)).trans c1.2.2⟩, ⟨la1, fun l hl' => by rw [G12.aI (by decide)]; exact c2.1 l hl', (G12.oI (by decide)).trans c2.2.1, (G12.oI (by decide)).trans c2.2.2.1, fun q hq => (G12.aI (by decide)).trans (c2.2.2.2 q hq)⟩, fun j hj => (G12.aI (by decide)).trans (c3 j hj)⟩, ⟨(G12.oI (by decide)).trans w3, (F12.oI (by decide)).trans u6, (G12.oI (by decide)).trans w7, by rw [G12.oI (by decide), w8]; rfl, fun _ j hj => u2 j hj⟩, fun i _ => G12.aI (by decide)⟩
    · rw [if_neg (nI_ne0 (by omega) (by omega)), one_rc nx he t b s, nI_1]
      refine ok_call (hrc (by omega) (upk od k p) (zt z + 1, zb z, zo z, false) M10 hv1 rfl ⟨t, hz.2⟩ cn1 ⟨w3, w6, w7, by rw [w8]; rfl, w2⟩ hl10 hC10) ?_
      rintro m ⟨Fm, r1, r2, r3⟩
      exact ok_some ⟨Fm, r1, r2, r3⟩
  · rintro M12 ⟨F12, ⟨c1, ⟨la1, c2⟩, c3⟩, cz, c4⟩
    have G12 : Fr kT M M12 := G10.step F12 (by decide)
    have hl12 := hl.fr G12
    have hC12 := hC.fr G12 (by decide)
    rw [cO_upk1] at c1
    refine ok_call (c_back (k := k) hN hl12 hC12 c1 c2.2.2.1 hB hK hp he) ?_
    rintro M20 ⟨F20, b1, b8⟩
    have G20 : Fr kT M M20 := G12.step F20 (by decide)
    refine ok_call (c_giveS (k := k) (st := sO N od k) (st' := sO N (upk od k p) (k + 1)) hN (hl.fr G20) (hC.fr G20 (by decide)) hp (by omega) (fun l hl' e => by rw [F20.aI (by decide), c4 _ (by omega)]; exact k405 l hl' e) (fun l hl' => by rw [F20.aI (by decide)]; exact (c2.1 l hl').1)) ?_
    rintro M22 ⟨F22, b2⟩
    rw [bnd_eq]
    have F23 : Fr [60007] M22 (sI M22 5 0 7 (nI (sumTo (sO N od k) (nL N)))) := Fr.refl.wIo (by decide)
    have e7 : mI (sI M22 5 0 7 (nI (sumTo (sO N od k) (nL N)))) 5 0 7 = nI (sumTo (sO N od k) (nL N)) := by rw [mI_sI, if_pos ⟨rfl, rfl, rfl⟩]
    generalize sI M22 5 0 7 (nI (sumTo (sO N od k) (nL N))) = M23 at *
    have H : Fr [601, 602, 603, 604, 60006, 60007, 60008] M12 M23 := ((F20.mono (by decide)).step F22 (by decide)).step F23 (by decide)
    refine ok_some ⟨G12.step H (by decide), ⟨⟨fun l hl' => ?_, fun q hq => ?_, ?_⟩, ⟨la1, fun l hl' => ⟨?_, ?_⟩, e7, ?_, fun q hq => ?_⟩, fun j hj => ?_⟩, ⟨?_, ?_, ?_, ?_, fun h j hj => ?_⟩, fun i hi => ?_⟩
    · rw [F23.aI (by decide), F22.aI (by decide)]; exact b1.1 l hl'
    · rw [F23.aI (by decide), F22.aI (by decide), F23.aI (by decide), F22.aI (by decide)]; exact b1.2.1 q hq
    · rw [F23.oI (by decide), F22.oI (by decide)]; exact b1.2.2
    · rw [F23.aI (by decide), b2 l hl']
      by_cases e : nF N l = p
      · rw [if_pos e]
      · rw [if_neg e, ← st1_sO hK he hl', st1, if_neg e]
    · have := sO_le hN hB hv l hl'; omega
    · rw [F23.oI (by decide), F22.oI (by decide)]; exact b8
    · rw [H.aI (by decide)]; exact c2.2.2.2 q hq
    · rw [H.aI (by decide), c3 j (by omega), upk_ne (by omega)]
    · rw [H.oI (by decide)]; exact cz.1
    · rw [H.oI (by decide)]; exact cz.2.1
    · rw [H.oI (by decide)]; exact cz.2.2.1
    · rw [H.oI (by decide)]; exact cz.2.2.2.1
    · rw [H.aI (by decide)]; exact cz.2.2.2.2 h j hj
    · rw [H.aI (by decide), c4 i (by omega)]; exact w405 i hi
theorem c_all {N : NG} {R : Nat → Nat} {S T : Nat} (hN : NOK N) (hB : RB N R (nS N)) (hS : S = sumTo R (nP N)) (hS40 : S ≤ 40) (hT : T ≤ 20000) : ∀ r f k, k + r = S → 1 ≤ r → r < f → CR N R S T (fX3_tryAll f) (srch N R T S r) k := by
  have hb := hN.1
  intro r
  induction r with
  | zero => intro f k _ h; omega
  | succ r ih =>
    intro f k hk _ hf od z M hv hx hz hc hcz hl hC
    obtain ⟨f, rfl⟩ : ∃ g, f = g + 1 := ⟨f - 1, by omega⟩
    rw [fX3_tryAll, fX3_tryAll_b, if_pos (show nI k < (40 : Int32) from nI_lt (b := 40) (by omega) (by omega))]
    have hrc : k + 1 < S → CR N R S T (fX3_tryAll f) (srch N R T S r) (k + 1) := fun h => ih f (k + 1) (by omega) (by omega) (by omega)
    refine ok_call (P := fun m => Fr kT M m ∧ CN m N R od k ∧ CZ m S T (srch N R T S (r + 1) od k z) ∧ ∀ i, i < k * 20 → mI m 405 0 i = mI M 405 0 i) ?_ (fun _ h => ok_some h)
    refine loop0 (fun n i m => fX3_tryAll_l9 (fX3_tryAll f) (nI k) n i m) (nP N) (fun i m => Fr kT M m ∧ CN m N R od k ∧ (∃ w, CZ m S T w ∧ ZOK N R T S w ∧ foldD (one N R T S (srch N R T S r) od k) (nP N) (nP N - i) w = srch N R T S (r + 1) od k z) ∧ ∀ i, i < k * 20 → mI m 405 0 i = mI M 405 0 i) _ (by omega) ?_ ?_ M ⟨Fr.refl, hc, ⟨z, hcz, hz, rfl⟩, fun _ _ => rfl⟩
    · rintro n m ⟨F, h1, ⟨w, h2, h3, h4⟩, h5⟩
      rw [fX3_tryAll_l9, F.oI (by decide), hC.1.1, if_pos (nI_le (Nat.le_refl _) (by omega))]
      rw [Nat.sub_self] at h4
      have h4 : w = srch N R T S (r + 1) od k z := h4
      rw [h4] at h2
      exact ok_some ⟨F, h1, h2, h5⟩
    · rintro n i m hi ⟨F, h1, ⟨w, h2, h3, h4⟩, h5⟩ kk
      have hCm := hC.fr F (by decide)
      rw [fX3_tryAll_l9, F.oI (by decide), hC.1.1, if_neg (nI_ge hi (by omega)), h2.2.2.2.1]
      by_cases x : zx w = true
      · rw [if_pos x, if_neg (by decide)]
        rw [foldD_x _ w x] at h4
        rw [h4] at h2
        exact ok_some ⟨F, h1, h2, h5⟩
      have xf : zx w = false := by cases h : zx w with | true => exact absurd h x | false => rfl
      rw [if_neg x, if_pos rfl, F.n, ln200 hl, chk_nI (by omega) (by omega), bnd_eq, nI_clamp (by omega), F.aR (by decide), (hC.2.1 i hi).1.1]
      rw [foldD_step hi] at h4
      rcases c_can hN (hl.fr F) hCm h1.1 hB (vr_ok hv) hi with ⟨e, ee⟩ | ⟨e, ee⟩
      · rw [e, Option.bind_some, if_neg (by decide)]
        refine ok_call (ok_call (c_one hN hB hS hS40 hT hrc (by omega) hi hv xf h3 h1 h2 (hl.fr F) hCm ee) (fun m h => ok_some h)) ?_
        rintro m2 ⟨F2, r1, r2, r3⟩
        rw [bnd_eq, nI_1]
        refine kk m2 ⟨F.step F2 (by decide), r1, ⟨_, r2, ?_, h4⟩, fun j hj => (r3 j hj).trans (h5 j hj)⟩
        -- ZOK stays
        by_cases t : zt w < T
        rotate_left
        · rw [one_ex x ee t]; exact ⟨h3.1, h3.2⟩
        by_cases b : ∃ v, zb w = some v ∧ v ≤ sv N od k i
        · rw [one_pr x ee t b]; exact ⟨t, h3.2⟩
        by_cases s : k + 1 = S
        · rw [one_lf x ee t b s]
          refine ⟨t, fun v hv' => ?_⟩
          have hv' : some (sv N od k i) = some v := hv'
          cases hv'
          rw [← s]
          exact ⟨vr_upk hv hi ee, rfl⟩
        · rw [one_rc x ee t b s]
          exact (srch_ok r (upk od k i) (k + 1) (zt w + 1, zb w, zo w, false) (by omega) (vr_upk hv hi ee) ⟨t, h3.2⟩).1
      · rw [e, Option.bind_some, if_pos rfl, Option.bind_some, bnd_eq, nI_1]
        rw [one_ne x ee] at h4
        exact kk m ⟨F, h1, ⟨w, h2, h3, h4⟩, h5⟩
