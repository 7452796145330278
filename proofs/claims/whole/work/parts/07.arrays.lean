/-! arrays -/
def tIsI (k : Nat) : Bool := decide (tO k = none) && !tRO k && (match tA k with | .int => true | _ => false) && decide (tT k 0 = 0)
def tIsL (k : Nat) : Bool := decide (tO k = none) && !tRO k && (match tA k with | .long => true | _ => false) && decide (tT k 0 = 1)
def tIsZ (k : Nat) : Bool := decide (tO k = none) && !tRO k && (match tA k with | .boolean => true | _ => false) && decide (tT k 0 = 0)
theorem tT_arr {k : Nat} (h : tO k = none) (j : Nat) : tT k j = tT k 0 := by
  unfold tO at h
  split at h
  · cases h
  · rename_i h1
    split at h
    · cases h
    · rename_i h2
      unfold tT
      rw [if_neg h1, if_neg h1, if_neg h2, if_neg h2]
theorem tIsI_spec {k : Nat} (h : tIsI k = true) : tO k = none ∧ tRO k = false ∧ tA k = .int ∧ ∀ j, tT k j = 0 := by
  simp only [tIsI, Bool.and_eq_true, decide_eq_true_eq, Bool.not_eq_true'] at h
  obtain ⟨⟨⟨h1, h2⟩, h3⟩, h4⟩ := h
  refine ⟨h1, h2, ?_, fun j => (tT_arr h1 j).trans h4⟩
  split at h3
  · assumption
  · cases h3
theorem tIsL_spec {k : Nat} (h : tIsL k = true) : tO k = none ∧ tRO k = false ∧ tA k = .long ∧ ∀ j, tT k j = 1 := by
  simp only [tIsL, Bool.and_eq_true, decide_eq_true_eq, Bool.not_eq_true'] at h
  obtain ⟨⟨⟨h1, h2⟩, h3⟩, h4⟩ := h
  refine ⟨h1, h2, ?_, fun j => (tT_arr h1 j).trans h4⟩
  split at h3
  · assumption
  · cases h3
theorem tIsZ_spec {k : Nat} (h : tIsZ k = true) : tO k = none ∧ tRO k = false ∧ tA k = .boolean ∧ ∀ j, tT k j = 0 := by
  simp only [tIsZ, Bool.and_eq_true, decide_eq_true_eq, Bool.not_eq_true'] at h
  obtain ⟨⟨⟨h1, h2⟩, h3⟩, h4⟩ := h
  refine ⟨h1, h2, ?_, fun j => (tT_arr h1 j).trans h4⟩
  split at h3
  · assumption
  · cases h3
/-- the cell of an array -/
theorem tW_arr {g : tG} {ad : Nat → Nat → Nat} {M : tM} {H : Heap} {k i : Nat} (hW : tW g ad M H) (hO : tO k = none) (hE : mE M k i = true) : H[ad k i]? = some (arrV (gA g k) (mN M k i) (fun j => tC ad (tv M k i j))) := by
  have h := hW.1 k i hE (tgh_arr hO)
  simp only [tCell, hO] at h
  exact h
theorem tW_arr_st {g : tG} {ad : Nat → Nat → Nat} {M M1 : tM} {H H1 : Heap} {k i j : Nat} {v : tV} (hW : tW g ad M H) (hO : tO k = none) (hE : mE M k i = true) (hp : tPut M k i j v M1) (hv : tLv M v) (e1 : H1[ad k i]? = some ((arrV (gA g k) (mN M k i) (fun j => tC ad (tv M k i j))).setSlot j (tC ad v))) (ho : ∀ q, q ≠ ad k i → H1[q]? = H[q]?) : tW g ad M1 H1 := by
  refine tW_put hW hE (tgh_arr hO) hp hv ?_ ho
  simp only [tCell, hO]
  rw [e1, arrV_store, hp.2.1]
  congr 2
  funext q
  unfold updV
  rw [hp.1]
  by_cases hq : q = j
  · rw [if_pos hq, if_pos ⟨rfl, rfl, hq⟩]
  · rw [if_neg hq, if_neg (fun z => hq z.2.2)]
section TA
variable {g : tG} {y : tY} {R : Room} {mc ms : Nat} {r : Option tV} {M' : tM} {cells slots pc : Nat} {lc : List (Nat × tV)} {st : List tV} {M : tM}
theorem tm_iald {k i : Nat} {x : Int32} (hk : tIsI k = true) (hd : decode y.2.1 pc = .ok (.iaload, 1)) (hb : vp_in x (mN M k i)) (kk : TW g y R mc ms r M' cells slots (pc + 1) lc (ti (mI M k i x.toNatClampNeg) :: st) M) : TW g y R mc ms r M' cells slots pc lc (ti x :: tr k i :: st) M := by
  intro p e s m args below meth c X ad H locs ls hW hO' hlo hL hs hl
  obtain ⟨hO, hR, hA, hT⟩ := tIsI_spec hk
  have hE := tE_of hR hs.2.1
  have hlt : x.toNatClampNeg < mN M k i := Nat.not_le.mp fun q => hb (Or.inr q)
  have hAr := (X.2.2.2.2.2.2.2.2.2.1 k).1
  rw [hA] at hAr
  refine W.iald (v := tC ad (ti (mI M k i x.toNatClampNeg))) X.1 X.2.1 (tW_arr hW hO hE) (hAr _ _) (fun q => by cases q) (by rw [arrV_size]; exact hb) (by rw [arrV_read _ _ hlt, tv_I (hT _)]) rfl rfl hd ?_
  exact kk p e s m args below meth c X ad H locs ls hW hO' hlo hL ⟨trivial, hs.2.2⟩ hl
theorem tm_lald {k i : Nat} {x : Int32} (hk : tIsL k = true) (hd : decode y.2.1 pc = .ok (.laload, 1)) (hb : vp_in x (mN M k i)) (kk : TW g y R mc ms r M' cells slots (pc + 1) lc (tl (mL M k i x.toNatClampNeg) :: st) M) : TW g y R mc ms r M' cells slots pc lc (ti x :: tr k i :: st) M := by
  intro p e s m args below meth c X ad H locs ls hW hO' hlo hL hs hl
  obtain ⟨hO, hR, hA, hT⟩ := tIsL_spec hk
  have hE := tE_of hR hs.2.1
  have hlt : x.toNatClampNeg < mN M k i := Nat.not_le.mp fun q => hb (Or.inr q)
  have hAr := (X.2.2.2.2.2.2.2.2.2.1 k).1
  rw [hA] at hAr
  refine W.lald (v := tC ad (tl (mL M k i x.toNatClampNeg))) X.1 X.2.1 (tW_arr hW hO hE) (hAr _ _) (fun q => by cases q) (by rw [arrV_size]; exact hb) (by rw [arrV_read _ _ hlt, tv_L (hT _)]) rfl rfl hd ?_
  exact kk p e s m args below meth c X ad H locs ls hW hO' hlo hL ⟨trivial, hs.2.2⟩ hl
theorem tm_zald {k i : Nat} {x : Int32} (hk : tIsZ k = true) (hd : decode y.2.1 pc = .ok (.baload, 1)) (hb : vp_in x (mN M k i)) (kk : TW g y R mc ms r M' cells slots (pc + 1) lc (ti (mI M k i x.toNatClampNeg) :: st) M) : TW g y R mc ms r M' cells slots pc lc (ti x :: tr k i :: st) M := by
  intro p e s m args below meth c X ad H locs ls hW hO' hlo hL hs hl
  obtain ⟨hO, hR, hA, hT⟩ := tIsZ_spec hk
  have hE := tE_of hR hs.2.1
  have hlt : x.toNatClampNeg < mN M k i := Nat.not_le.mp fun q => hb (Or.inr q)
  have hAr := (X.2.2.2.2.2.2.2.2.2.1 k).1
  rw [hA] at hAr
  refine W.zald (v := tC ad (ti (mI M k i x.toNatClampNeg))) X.1 X.2.1 (tW_arr hW hO hE) (hAr _ _) (fun q => by cases q) (by rw [arrV_size]; exact hb) (by rw [arrV_read _ _ hlt, tv_I (hT _)]) rfl rfl hd ?_
  exact kk p e s m args below meth c X ad H locs ls hW hO' hlo hL ⟨trivial, hs.2.2⟩ hl
theorem tm_aald {k i k2 : Nat} {C : String} {x : Int32} (hk : tO k = none ∧ tRO k = false ∧ tA k = .object C ∧ ∀ j, tT k j = 2 * k2 + 2) (hd : decode y.2.1 pc = .ok (.aaload, 1)) (hb : vp_in x (mN M k i)) (kk : TW g y R mc ms r M' cells slots (pc + 1) lc (tq k2 (mR M k i x.toNatClampNeg) :: st) M) : TW g y R mc ms r M' cells slots pc lc (ti x :: tr k i :: st) M := by
  intro p e s m args below meth c X ad H locs ls hW hO' hlo hL hs hl
  obtain ⟨hO, hR, hA, hT⟩ := hk
  have hE := tE_of hR hs.2.1
  have hlt : x.toNatClampNeg < mN M k i := Nat.not_le.mp fun q => hb (Or.inr q)
  have hAr := (X.2.2.2.2.2.2.2.2.2.1 k).1
  rw [hA] at hAr
  have hv := hW.2.2.2.1 k i x.toNatClampNeg hE (tgh_arr hO)
  rw [tv_R (hT _)] at hv
  refine W.aald (v := tC ad (tq k2 (mR M k i x.toNatClampNeg))) X.1 X.2.1 (tW_arr hW hO hE) (hAr _ _) rfl (fun q => by cases q) (by rw [arrV_size]; exact hb) (by rw [arrV_read _ _ hlt, tv_R (hT _)]) rfl rfl hd ?_
  exact kk p e s m args below meth c X ad H locs ls hW hO' hlo hL ⟨hv, hs.2.2⟩ hl
theorem tm_alen {k i : Nat} (hk : tO k = none ∧ tRO k = false) (hd : decode y.2.1 pc = .ok (.arraylength, 1)) (kk : TW g y R mc ms r M' cells slots (pc + 1) lc (ti (nI (mN M k i)) :: st) M) : TW g y R mc ms r M' cells slots pc lc (tr k i :: st) M := by
  intro p e s m args below meth c X ad H locs ls hW hO' hlo hL hs hl
  obtain ⟨hO, hR⟩ := hk
  have hE := tE_of hR hs.1
  refine W.alen (n := nI (mN M k i)) X.1 X.2.1 (tW_arr hW hO hE) ((X.2.2.2.2.2.2.2.2.2.1 k).1 _ _) (by rw [arrV_size]; rfl) rfl rfl hd ?_
  exact kk p e s m args below meth c X ad H locs ls hW hO' hlo hL ⟨trivial, hs.2⟩ hl
theorem tm_iast {k i : Nat} {x w : Int32} (hk : tIsI k = true) (hd : decode y.2.1 pc = .ok (.iastore, 1)) (hb : vp_in x (mN M k i)) (kk : TW g y R mc ms r M' cells slots (pc + 1) lc st (sI M k i x.toNatClampNeg w)) : TW g y R mc ms r M' cells slots pc lc (ti w :: ti x :: tr k i :: st) M := by
  intro p e s m args below meth c X ad H locs ls hW hO' hlo hL hs hl
  obtain ⟨hO, hR, hA, hT⟩ := tIsI_spec hk
  have hE := tE_of hR hs.2.2.1
  have hAr := (X.2.2.2.2.2.2.2.2.2.1 k).1
  rw [hA] at hAr
  have hSa := hW.2.2.1 k i hE
  refine W.iast X.1 X.2.1 (tW_arr hW hO hE) (hAr _ _) (fun q => by cases q) (by rw [arrV_size]; exact hb) rfl rfl hd fun H1 e1 z oq => ?_
  have hp := tPut_I (M := M) (i := i) w (hT x.toNatClampNeg)
  exact kk p e s m args below meth c X ad H1 _ ls (tW_arr_st (v := ti w) hW hO hE hp trivial e1 oq) (tOld_put hO' z oq hSa) (tlo_put hlo hSa) (tLc_eq hp.2.2 hL) (tLs_eq hp.2.2 hs.2.2.2) hl
theorem tm_last {k i : Nat} {x : Int32} {w : Int64} (hk : tIsL k = true) (hd : decode y.2.1 pc = .ok (.lastore, 1)) (hb : vp_in x (mN M k i)) (kk : TW g y R mc ms r M' cells slots (pc + 1) lc st (sL M k i x.toNatClampNeg w)) : TW g y R mc ms r M' cells slots pc lc (tl w :: ti x :: tr k i :: st) M := by
  intro p e s m args below meth c X ad H locs ls hW hO' hlo hL hs hl
  obtain ⟨hO, hR, hA, hT⟩ := tIsL_spec hk
  have hE := tE_of hR hs.2.2.1
  have hAr := (X.2.2.2.2.2.2.2.2.2.1 k).1
  rw [hA] at hAr
  have hSa := hW.2.2.1 k i hE
  refine W.last X.1 X.2.1 (tW_arr hW hO hE) (hAr _ _) (fun q => by cases q) (by rw [arrV_size]; exact hb) rfl rfl hd fun H1 e1 z oq => ?_
  have hp := tPut_L (M := M) (i := i) w (hT x.toNatClampNeg)
  exact kk p e s m args below meth c X ad H1 _ ls (tW_arr_st (v := tl w) hW hO hE hp trivial e1 oq) (tOld_put hO' z oq hSa) (tlo_put hlo hSa) (tLc_eq hp.2.2 hL) (tLs_eq hp.2.2 hs.2.2.2) hl
theorem tm_zast {k i : Nat} {x w : Int32} (hk : tIsZ k = true) (hw : narrow .boolean (.int w) = .int w) (hd : decode y.2.1 pc = .ok (.bastore, 1)) (hb : vp_in x (mN M k i)) (kk : TW g y R mc ms r M' cells slots (pc + 1) lc st (sI M k i x.toNatClampNeg w)) : TW g y R mc ms r M' cells slots pc lc (ti w :: ti x :: tr k i :: st) M := by
  intro p e s m args below meth c X ad H locs ls hW hO' hlo hL hs hl
  obtain ⟨hO, hR, hA, hT⟩ := tIsZ_spec hk
  have hE := tE_of hR hs.2.2.1
  have hAr := (X.2.2.2.2.2.2.2.2.2.1 k).1
  rw [hA] at hAr
  have hSa := hW.2.2.1 k i hE
  refine W.zast X.1 X.2.1 (tW_arr hW hO hE) (hAr _ _) (fun q => by cases q) (by rw [arrV_size]; exact hb) rfl rfl hd fun H1 e1 z oq => ?_
  rw [hw] at e1
  have hp := tPut_I (M := M) (i := i) w (hT x.toNatClampNeg)
  exact kk p e s m args below meth c X ad H1 _ ls (tW_arr_st (v := ti w) hW hO hE hp trivial e1 oq) (tOld_put hO' z oq hSa) (tlo_put hlo hSa) (tLc_eq hp.2.2 hL) (tLs_eq hp.2.2 hs.2.2.2) hl
theorem tm_aast {k i k2 i2 ci : Nat} {C : String} {T : u_T} {N : Nat} {ty : Nat → FieldType} {x : Int32} (K : tCl ci C T N ty) (hO2 : tO k2 = some ci) (hk : tO k = none ∧ tRO k = false ∧ tA k = .object C ∧ ∀ j, tT k j = 2 * k2 + 2) (hd : decode y.2.1 pc = .ok (.aastore, 1)) (hb : vp_in x (mN M k i)) (kk : TW g y R mc ms r M' cells slots (pc + 1) lc st (sR M k i x.toNatClampNeg (some i2))) (hgh2 : tgh M k2 i2 = false := by rfl) : TW g y R mc ms r M' cells slots pc lc (tr k2 i2 :: ti x :: tr k i :: st) M := by
  intro p e s m args below meth c X ad H locs ls hW hO' hlo hL hs hl
  obtain ⟨hO, hR, hA, hT⟩ := hk
  have hE := tE_of hR hs.2.2.1
  have hE2 := tE_of (tRO_obj hO2) hs.1
  have hRA := (X.2.2.2.2.2.2.2.2.2.1 k).2
  rw [hA] at hRA
  obtain ⟨kA, comp, k1, k2', k3, -⟩ := hRA
  have hcls := (X.2.2.2.2.2.2.2.2.1.1 ci _ K.1).2
  have hcomp : comp = gC g ci := Option.some.inj (k3.symm.trans hcls.1)
  subst hcomp
  obtain ⟨kC, hkC, -⟩ := hcls.2
  have hcell := hW.1 k2 i2 hE2 hgh2
  simp only [tCell, hO2] at hcell
  obtain ⟨r', h1, cellV, g1, g2, g3, -⟩ := hcell
  have hSa := hW.2.2.1 k i hE
  have hlt : x.toNatClampNeg < mN M k i := Nat.not_le.mp fun q => hb (Or.inr q)
  have h0 : ¬ x < 0 := fun q => hb (Or.inl q)
  refine W.aast X.1 X.2.1 (tW_arr hW hO hE) (fun q h => by cases h) (fun h => by cases h) k1 k2' rfl hkC ⟨h0, by rw [arrV_size]; exact hlt⟩ g1 (fun q h => by rw [g3] at h; cases h) (by rw [g2]; exact hkC) (by rw [g2]; exact va_assign hcls) rfl rfl hd fun H1 e1 z oq => ?_
  have hp := tPut_R (M := M) (i := i) (some i2) (hT x.toNatClampNeg)
  exact kk p e s m args below meth c X ad H1 _ ls (tW_arr_st (v := tr k2 i2) hW hO hE hp hs.1 e1 oq) (tOld_put hO' z oq hSa) (tlo_put hlo hSa) (tLc_eq hp.2.2 hL) (tLs_eq hp.2.2 hs.2.2.2) hl
/-! ends -/
theorem tQ_end {ad : Nat → Nat → Nat} {H : Heap} {v : Option tV} {a : Array Value} {s t : State} (hW : tW g ad M H) (hO : tOld g H) (hv : ∀ w, v = some w → tLv M w) (ht : t.heap = H) : tQ g ad M v M a s (.returned (v.map (tC ad))) t :=
  ⟨ad, fun _ _ _ => rfl, fun _ _ h => h, rfl, hv, by rw [ht]; exact hW, by rw [ht]; exact hO⟩
theorem tm_iret {x : Int32} (hr : y.2.2.2.1 = some .int) (hd : decode y.2.1 pc = .ok (.ireturn, 1)) : TW g y R mc ms (some (ti x)) M mc ms pc lc [ti x] M := by
  intro p e s m args below meth c X ad H locs ls hW hO' hlo hL hs hl
  exact W.iret X.1 X.2.1 (X.2.2.2.2.2.1.trans hr) (fun t ht _ => tQ_end (v := some (ti x)) hW hO' (fun w h => by cases h; trivial) ht) hlo hd X.2.2.2.2.2.2.1
theorem tm_zret {x : Int32} (hn : narrow .boolean (.int x) = .int x) (hr : y.2.2.2.1 = some .boolean) (hd : decode y.2.1 pc = .ok (.ireturn, 1)) : TW g y R mc ms (some (ti x)) M mc ms pc lc [ti x] M := by
  intro p e s m args below meth c X ad H locs ls hW hO' hlo hL hs hl
  exact W.zret X.1 X.2.1 (X.2.2.2.2.2.1.trans hr) hn (fun t ht _ => tQ_end (v := some (ti x)) hW hO' (fun w h => by cases h; trivial) ht) hlo hd X.2.2.2.2.2.2.1
theorem tm_lret {x : Int64} (hr : y.2.2.2.1 = some .long) (hd : decode y.2.1 pc = .ok (.lreturn, 1)) : TW g y R mc ms (some (tl x)) M mc ms pc lc [tl x] M := by
  intro p e s m args below meth c X ad H locs ls hW hO' hlo hL hs hl
  exact W.lret X.1 X.2.1 (X.2.2.2.2.2.1.trans hr) (fun t ht _ => tQ_end (v := some (tl x)) hW hO' (fun w h => by cases h; trivial) ht) hlo hd X.2.2.2.2.2.2.1
theorem tm_vret (hr : y.2.2.2.1 = none) (hd : decode y.2.1 pc = .ok (.return_, 1)) : TW g y R mc ms none M mc ms pc lc [] M := by
  intro p e s m args below meth c X ad H locs ls hW hO' hlo hL hs hl
  exact W.vret X.1 X.2.1 (X.2.2.2.2.2.1.trans hr) (fun t ht _ => tQ_end (v := none) hW hO' (fun w h => by cases h) ht) hlo hd X.2.2.2.2.2.2.1
theorem tm_aret {q : Option (Nat × Nat)} {C : String} (hr : y.2.2.2.1 = some (.object C)) (hd : decode y.2.1 pc = .ok (.areturn, 1)) : TW g y R mc ms (some (.inr (.inr q))) M mc ms pc lc [.inr (.inr q)] M := by
  intro p e s m args below meth c X ad H locs ls hW hO' hlo hL hs hl
  refine W.aret (v := tC ad (.inr (.inr q))) X.1 X.2.1 (X.2.2.2.2.2.1.trans hr) (Or.inl ⟨_, rfl⟩) ?_ (fun t ht _ => tQ_end (v := some (.inr (.inr q))) hW hO' (fun w h => by cases h; exact hs.1) ht) hlo hd X.2.2.2.2.2.2.1
  rcases q with _ | q
  · exact Or.inl rfl
  · exact Or.inr ⟨_, rfl⟩
theorem tm_widen {c2 s2 : Nat} (h1 : cells ≤ c2) (h2 : slots ≤ s2) (k : TW g y R mc ms r M' c2 s2 pc lc st M) : TW g y R mc ms r M' cells slots pc lc st M := by
  intro p e s m args below meth c X ad H locs ls hW hO' hlo hL hs hl
  exact W.widen h1 h2 (k p e s m args below meth c X ad H locs ls hW hO' hlo hL hs hl)
end TA
