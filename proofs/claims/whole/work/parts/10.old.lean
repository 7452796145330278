/-! the static array and the script; comparing references; arraycopy -/
/-- a whole array gets new ints, longs -/
def cI (M : tM) (k i : Nat) (f : Nat → Int32) : tM := (fun a b c => if a = k ∧ b = i then f c else M.1 a b c, M.2)
def cL (M : tM) (k i : Nat) (f : Nat → Int64) : tM := (M.1, fun a b c => if a = k ∧ b = i then f c else M.2.1 a b c, M.2.2)
theorem mI_cI (M : tM) (k i a b c : Nat) (f : Nat → Int32) : mI (cI M k i f) a b c = if a = k ∧ b = i then f c else mI M a b c := rfl
theorem mL_cI (M : tM) (k i a b c : Nat) (f : Nat → Int32) : mL (cI M k i f) a b c = mL M a b c := rfl
theorem mR_cI (M : tM) (k i a b c : Nat) (f : Nat → Int32) : mR (cI M k i f) a b c = mR M a b c := rfl
theorem mN_cI (M : tM) (k i a b : Nat) (f : Nat → Int32) : mN (cI M k i f) a b = mN M a b := rfl
theorem mE_cI (M : tM) (k i a b : Nat) (f : Nat → Int32) : mE (cI M k i f) a b = mE M a b := rfl
theorem mL_cL (M : tM) (k i a b c : Nat) (f : Nat → Int64) : mL (cL M k i f) a b c = if a = k ∧ b = i then f c else mL M a b c := rfl
theorem mI_cL (M : tM) (k i a b c : Nat) (f : Nat → Int64) : mI (cL M k i f) a b c = mI M a b c := rfl
theorem mR_cL (M : tM) (k i a b c : Nat) (f : Nat → Int64) : mR (cL M k i f) a b c = mR M a b c := rfl
theorem mN_cL (M : tM) (k i a b : Nat) (f : Nat → Int64) : mN (cL M k i f) a b = mN M a b := rfl
theorem mE_cL (M : tM) (k i a b : Nat) (f : Nat → Int64) : mE (cL M k i f) a b = mE M a b := rfl
theorem tW_whole {g : tG} {ad : Nat → Nat → Nat} {M M1 : tM} {H H1 : Heap} {k i : Nat} (h : tW g ad M H) (hE : mE M k i = true) (hgh : tgh M k i = false) (hsame : ∀ a b c, ¬ (a = k ∧ b = i) → tv M1 a b c = tv M a b c) (hself : ∀ c, tLv M (tv M1 k i c)) (hN : ∀ a b, mN M1 a b = mN M a b) (hEE : ∀ a b, mE M1 a b = mE M a b) (hc : tCell g ad M1 k i H1) (ho : ∀ q, q ≠ ad k i → H1[q]? = H[q]?) : tW g ad M1 H1 := by
  obtain ⟨a1, a2, a3, a4, a5, a6⟩ := h
  refine ⟨fun k' i' h' n' => ?_, fun k1 i1 k2 i2 h1 n1 h2 n2 => ?_, fun k' i' h' => ?_, fun k' i' j' h' n' => ?_, fun k' i' h' => ?_, a6⟩
  · rw [hEE] at h'
    rw [tgh_eq hEE] at n'
    by_cases e : k' = k ∧ i' = i
    · obtain ⟨rfl, rfl⟩ := e
      exact hc
    · have hne : ad k' i' ≠ ad k i := fun q => e (a2 _ _ _ _ h' n' hE hgh q)
      have old := a1 k' i' h' n'
      have same : ∀ j', tv M1 k' i' j' = tv M k' i' j' := fun j' => hsame _ _ _ e
      cases hk : tO k' with
      | none =>
        simp only [tCell, hk, same, hN] at old ⊢
        rw [ho _ hne]
        exact old
      | some ci =>
        simp only [tCell, hk, same] at old ⊢
        obtain ⟨r, hr, hob⟩ := old
        exact ⟨r, hr, hob.kept (ho _ hne)⟩
  · rw [hEE] at h1 h2
    rw [tgh_eq hEE] at n1 n2
    exact a2 _ _ _ _ h1 n1 h2 n2
  · rw [hEE] at h'
    exact a3 _ _ h'
  · rw [hEE] at h'
    rw [tgh_eq hEE] at n'
    rw [tLv_eq hEE]
    by_cases e : k' = k ∧ i' = i
    · obtain ⟨rfl, rfl⟩ := e
      exact hself _
    · rw [hsame _ _ _ e]
      exact a4 _ _ _ h' n'
  · rw [hEE]
    exact a5 _ _ h'
section TO
variable {g : tG} {y : tY} {R : Room} {mc ms : Nat} {r : Option tV} {M' : tM} {cells slots pc : Nat} {lc : List (Nat × tV)} {st : List tV} {M : tM}
theorem tm_gets {idx : Nat} (hw : Cond.fieldLink y.1 idx tZ.1 tZ.2.1 tZ.2.2 ∈ tgd) (hd : decode y.2.1 pc = .ok (.getstatic idx, 3)) (kk : TW g y R mc ms r M' cells slots (pc + 3) lc (tr 90 0 :: st) M) : TW g y R mc ms r M' cells slots pc lc st M := by
  intro p e s m args below meth c X ad H locs ls hW hO' hlo hL hs hl
  obtain ⟨cf, kf, fi, f, a, cell, h1, h2, h3, h4, h5, h6, h7, h8⟩ := X.2.2.2.2.2.2.2.2.2.2.2.2.1
  have K1 := kk p e s m args below meth c X ad H locs ls hW hO' hlo hL ⟨Or.inl rfl, hs⟩ hl
  have he : (tr 90 0 :: st).map (tC ad) = .ref (gk g) :: st.map (tC ad) := by
    show Value.ref (ad 90 0) :: _ = _
    rw [hW.2.2.2.2.2.1]
  rw [he] at K1
  exact W.gets X.1 X.2.1 X.2.2.2.1 (X.2.2.2.2.1 _ hw) h1 h2 h3 h4 (by rw [hO'.2 a (by omega)]; exact h5) (fun e => by rw [e] at h6; cases h6) h7 rfl hd K1
theorem tm_kld {x : Int32} (hd : decode y.2.1 pc = .ok (.iaload, 1)) (hb : vp_in x tZn) (kk : TW g y R mc ms r M' cells slots (pc + 1) lc (ti (tZf x.toNatClampNeg) :: st) M) : TW g y R mc ms r M' cells slots pc lc (ti x :: tr 90 0 :: st) M := by
  intro p e s m args below meth c X ad H locs ls hW hO' hlo hL hs hl
  obtain ⟨cell, h1, h2, h3, h4, h5, h6, h7⟩ := X.2.2.2.2.2.2.2.2.2.2.2.2.2.1
  have K1 := kk p e s m args below meth c X ad H locs ls hW hO' hlo hL ⟨trivial, hs.2.2⟩ hl
  have hlt : x.toNatClampNeg < tZn := Nat.not_le.mp fun q => hb (Or.inr q)
  have he : (ti x :: tr 90 0 :: st).map (tC ad) = .int x :: .ref (gk g) :: st.map (tC ad) := by
    show _ :: Value.ref (ad 90 0) :: _ = _
    rw [hW.2.2.2.2.2.1]; rfl
  rw [he]
  exact W.iald (v := .int (tZf x.toNatClampNeg)) X.1 X.2.1 (by rw [hO'.2 _ (by omega)]; exact h1) h2 h3 (fun q => hb (q.imp id (fun z => Nat.le_trans h4 z))) (h6 _ hlt) rfl rfl hd K1
theorem tm_klen (hd : decode y.2.1 pc = .ok (.arraylength, 1)) (kk : TW g y R mc ms r M' cells slots (pc + 1) lc (ti (nI tZn) :: st) M) : TW g y R mc ms r M' cells slots pc lc (tr 90 0 :: st) M := by
  intro p e s m args below meth c X ad H locs ls hW hO' hlo hL hs hl
  obtain ⟨cell, h1, h2, h3, h4, h5, h6, h7⟩ := X.2.2.2.2.2.2.2.2.2.2.2.2.2.1
  have K1 := kk p e s m args below meth c X ad H locs ls hW hO' hlo hL ⟨trivial, hs.2⟩ hl
  have he : (tr 90 0 :: st).map (tC ad) = .ref (gk g) :: st.map (tC ad) := by
    show Value.ref (ad 90 0) :: _ = _
    rw [hW.2.2.2.2.2.1]
  rw [he]
  exact W.alen (n := nI tZn) X.1 X.2.1 (by rw [hO'.2 _ (by omega)]; exact h1) h2 h5 rfl rfl hd K1
theorem tm_sld {x : Int32} (hd : decode y.2.1 pc = .ok (.iaload, 1)) (hb : vp_in x (gL g)) (kk : TW g y R mc ms r M' cells slots (pc + 1) lc (ti (gx g x.toNatClampNeg) :: st) M) : TW g y R mc ms r M' cells slots pc lc (ti x :: tr 91 0 :: st) M := by
  intro p e s m args below meth c X ad H locs ls hW hO' hlo hL hs hl
  obtain ⟨⟨cell, h1, h2, h3, h4, h5⟩, h6, h7⟩ := X.2.2.2.2.2.2.2.2.2.2.2.2.2.2
  have K1 := kk p e s m args below meth c X ad H locs ls hW hO' hlo hL ⟨trivial, hs.2.2⟩ hl
  have hlt : x.toNatClampNeg < gL g := Nat.not_le.mp fun q => hb (Or.inr q)
  have he : (ti x :: tr 91 0 :: st).map (tC ad) = .int x :: .ref (gb g) :: st.map (tC ad) := by
    show _ :: Value.ref (ad 91 0) :: _ = _
    rw [hW.2.2.2.2.2.2]; rfl
  rw [he]
  exact W.iald (v := .int (gx g x.toNatClampNeg)) X.1 X.2.1 (by rw [hO'.2 _ h6]; exact h1) h2 h3 (by rw [h4]; exact hb) (h5 _ hlt) rfl rfl hd K1
theorem tm_slen (hd : decode y.2.1 pc = .ok (.arraylength, 1)) (kk : TW g y R mc ms r M' cells slots (pc + 1) lc (ti (nI (gL g)) :: st) M) : TW g y R mc ms r M' cells slots pc lc (tr 91 0 :: st) M := by
  intro p e s m args below meth c X ad H locs ls hW hO' hlo hL hs hl
  obtain ⟨⟨cell, h1, h2, h3, h4, h5⟩, h6, h7⟩ := X.2.2.2.2.2.2.2.2.2.2.2.2.2.2
  have K1 := kk p e s m args below meth c X ad H locs ls hW hO' hlo hL ⟨trivial, hs.2⟩ hl
  have he : (tr 91 0 :: st).map (tC ad) = .ref (gb g) :: st.map (tC ad) := by
    show Value.ref (ad 91 0) :: _ = _
    rw [hW.2.2.2.2.2.2]
  rw [he]
  exact W.alen (n := nI (gL g)) X.1 X.2.1 (by rw [hO'.2 _ h6]; exact h1) h2 (by rw [h4]; rfl) rfl rfl hd K1
theorem tm_acmp_ne {k2 : Nat} {q1 q2 : Option Nat} {off : Int} {tgt : Nat} (hk : tRO k2 = false) (hd : decode y.2.1 pc = .ok (.if_acmp .ne off, 3)) (ht : (pc : Int) + off = (tgt : Int)) (kt : ¬ q1 = q2 → TW g y R mc ms r M' cells slots tgt lc st M) (kf : q1 = q2 → TW g y R mc ms r M' cells slots (pc + 3) lc st M) (hgh : ∀ i, tgh M k2 i = false := by intro _; rfl) : TW g y R mc ms r M' cells slots pc lc (tq k2 q2 :: tq k2 q1 :: st) M := by
  intro p e s m args below meth c X ad H locs ls hW hO' hlo hL hs hl
  have hc : ∀ q : Option Nat, tC ad (tq k2 q) = va_rf (q.map (ad k2)) := fun q => by cases q <;> rfl
  have he : (tq k2 q2 :: tq k2 q1 :: st).map (tC ad) = va_rf (q2.map (ad k2)) :: va_rf (q1.map (ad k2)) :: st.map (tC ad) := by
    rw [← hc, ← hc]; rfl
  rw [he]
  have inj : q1.map (ad k2) = q2.map (ad k2) → q1 = q2 := by
    intro h
    rcases q1 with _ | a <;> rcases q2 with _ | b
    · rfl
    · cases h
    · cases h
    · have h1 := tE_of (k := k2) (i := a) hk hs.2.1
      have h2 := tE_of (k := k2) (i := b) hk hs.1
      rw [(hW.2.1 _ _ _ _ h1 (hgh _) h2 (hgh _) (Option.some.inj h)).2]
  exact lv_acmp_ne X.1 X.2.1 hd ht (fun z => kt (fun z2 => z (by rw [z2])) p e s m args below meth c X ad H locs ls hW hO' hlo hL hs.2.2 hl) (fun z => kf (inj z) p e s m args below meth c X ad H locs ls hW hO' hlo hL hs.2.2 hl)
theorem t_nn {z : Int32} (hz : ¬ z < 0) : z.toInt = (z.toNatClampNeg : Int) := by
  have hz0 : (0 : Int) ≤ z.toInt := by
    have := Int32.not_lt.mp hz
    simpa using Int32.le_iff_toInt_le.mp this
  show z.toInt = ((z.toInt.toNat : Nat) : Int)
  omega
def tCW (own : String) (idx : Nat) : Prop := Cond.methodLink own idx arraycopyName ∈ tgd ∧ Cond.native arraycopyName ∈ tgd ∧ Cond.static arraycopyName ∈ tgd ∧ Cond.initialized "java/lang/System" ∈ tgd
theorem tm_copyI {k0 i0 k1 i1 idx : Nat} {sp dp n : Int32} (hk0 : tIsI k0 = true) (hk1 : tIsI k1 = true) (hw : tCW y.1 idx) (hR : 1 ≤ R.frames ∧ (st.map tcat).sum + 18 ≤ R.locals) (hd : decode y.2.1 pc = .ok (.invokestatic idx, 3))
    (h1 : ¬ sp < 0) (h2 : ¬ dp < 0) (h3 : ¬ n < 0) (h4 : sp.toNatClampNeg + n.toNatClampNeg ≤ mN M k0 i0) (h5 : dp.toNatClampNeg + n.toNatClampNeg ≤ mN M k1 i1)
    (kk : TW g y R mc ms r M' cells slots (pc + 3) lc st (cI M k1 i1 (va_cpy (mI M k0 i0) (mI M k1 i1) sp.toNatClampNeg dp.toNatClampNeg n.toNatClampNeg))) : TW g y R mc ms r M' cells slots pc lc (ti n :: ti dp :: tr k1 i1 :: ti sp :: tr k0 i0 :: st) M := by
  intro p e s m args below meth c X ad H locs ls hW hO' hlo hL hs hl
  obtain ⟨hO0, hR0, hA0, hT0⟩ := tIsI_spec hk0
  obtain ⟨hO1, hR1, hA1, hT1⟩ := tIsI_spec hk1
  have hE0 := tE_of hR0 hs.2.2.2.2.1
  have hE1 := tE_of hR1 hs.2.2.1
  have hts := X.2.2.2.2.1
  have hc0 : H[ad k0 i0]? = some (arrV (gA g k0) (mN M k0 i0) (fun j => .int (mI M k0 i0 j))) := by
    rw [tW_arr hW hO0 hE0]; congr 2; funext j; rw [tv_I (hT0 j)]; rfl
  have hc1 : H[ad k1 i1]? = some (arrV (gA g k1) (mN M k1 i1) (fun j => .int (mI M k1 i1 j))) := by
    rw [tW_arr hW hO1 hE1]; congr 2; funext j; rw [tv_I (hT1 j)]; rfl
  have hB0 := (X.2.2.2.2.2.2.2.2.2.1 k0).1
  rw [hA0] at hB0
  have hB1 := (X.2.2.2.2.2.2.2.2.2.1 k1).1
  rw [hA1] at hB1
  have hSa := hW.2.2.1 k1 i1 hE1
  intro T hT XS
  obtain ⟨-, c0, hk0', cm0, hkk0⟩ := hB0 (mN M k0 i0) (fun j => .int (mI M k0 i0 j))
  obtain ⟨-, c1, hk1', cm1, hkk1⟩ := hB1 (mN M k1 i1) (fun j => .int (mI M k1 i1 j))
  obtain ⟨vm', X', step⟩ := XS.arraycopy X.1 X.2.2.2.1 (hts _ hw.1) (hts _ hw.2.1) (hts _ hw.2.2.1) (hts _ hw.2.2.2) (src := ad k0 i0) (dst := ad k1 i1) (cs := arrV (gA g k0) (mN M k0 i0) (fun j => .int (mI M k0 i0 j))) (cd := arrV (gA g k1) (mN M k1 i1) (fun j => .int (mI M k1 i1 j))) (srcPos := sp) (destPos := dp) (n := n) (by rw [hT]; exact hc0) (by rw [hT]; exact hc1)
    (fun _ h => by cases h) (fun _ h => by cases h) (fun h => by cases h) (fun h => by cases h) hk0' hk1' hkk0 hkk1 (by simp [refKind]) h1 h2 h3
    (by rw [t_nn h1, t_nn h3, arrV_size]; omega)
    (by rw [t_nn h2, t_nn h3, arrV_size]; omega)
    (fun vm₁ _ j hj => by
      have e : (arrV (gA g k0) (mN M k0 i0) (fun j => Value.int (mI M k0 i0 j))).slots.getD (sp.toNatClampNeg + j) .null = .int (mI M k0 i0 (sp.toNatClampNeg + j)) := by
        rw [Array.getD_eq_getD_getElem?, arrV_read _ _ (by omega)]
        rfl
      refine ⟨?_, ?_⟩
      · rw [e]; rfl
      · rw [e]; exact trivial)
    (g := F0 m pc ls (.int n :: .int dp :: .ref (ad k1 i1) :: .int sp :: .ref (ad k0 i0) :: st.map (tC ad))) rfl (by rw [X.2.2.1]; exact hl.1) (rest := st.map (tC ad)) rfl (by rw [X.2.1]; exact hd) hR.1 (by show 2 * 0 + _ + (7 + 11) ≤ _; rw [tcat_sum]; have := hR.2; omega)
  have e1 : copied (arrV (gA g k0) (mN M k0 i0) (fun j => .int (mI M k0 i0 j))) (arrV (gA g k1) (mN M k1 i1) (fun j => .int (mI M k1 i1 j))) sp dp n = arrV (gA g k1) (mN M k1 i1) (fun j => .int (va_cpy (mI M k0 i0) (mI M k1 i1) sp.toNatClampNeg dp.toNatClampNeg n.toNatClampNeg j)) := va_copied (fun z => .int z) (gA g k0) (gA g k1) (mI M k0 i0) (mI M k1 i1) h4
  rw [e1] at X' step
  have hlt : ad k1 i1 < H.size := (Array.getElem?_eq_some_iff.mp hc1).1
  generalize hnew : arrV (gA g k1) (mN M k1 i1) (fun j => .int (va_cpy (mI M k0 i0) (mI M k1 i1) sp.toNatClampNeg dp.toNatClampNeg n.toNatClampNeg j)) = nc at X' step
  have hheap : ((T.setVm vm').setCell (ad k1 i1) nc).heap = H.setIfInBounds (ad k1 i1) nc := by rw [← hT]; rfl
  have oq : ∀ q : Nat, q ≠ ad k1 i1 → (H.setIfInBounds (ad k1 i1) nc)[q]? = H[q]? := fun q hq => by simp [Array.getElem?_setIfInBounds, Ne.symm hq]
  have sq : (H.setIfInBounds (ad k1 i1) nc)[ad k1 i1]? = some nc := by simp [Array.getElem?_setIfInBounds, hlt]
  have hW1 : tW g ad (cI M k1 i1 (va_cpy (mI M k0 i0) (mI M k1 i1) sp.toNatClampNeg dp.toNatClampNeg n.toNatClampNeg)) (H.setIfInBounds (ad k1 i1) nc) := by
    refine tW_whole hW hE1 (tgh_arr hO1) (fun a b c h => ?_) (fun c => ?_) (fun _ _ => rfl) (fun _ _ => rfl) ?_ oq
    · unfold tv; rw [mI_cI, if_neg h, mL_cI, mR_cI]
    · rw [tv_I (hT1 c)]; trivial
    · simp only [tCell, hO1]
      rw [sq, ← hnew, mN_cI]
      congr 2
      funext j
      rw [tv_I (hT1 j), mI_cI, if_pos ⟨rfl, rfl⟩]
      rfl
  obtain ⟨t, a1, b1⟩ := kk p e s m args below meth c X ad _ _ ls hW1 (tOld_put hO' (by simp) oq hSa) (fun l hl' => by
      rcases List.mem_append.mp hl' with h | h
      · exact hlo l h
      · obtain ⟨z, -, hz⟩ := List.mem_map.mp h
        rw [← hz]; exact hSa) (tLc_eq (M := M) (M1 := cI M k1 i1 _) (fun _ _ => rfl) hL) (tLs_eq (M := M) (M1 := cI M k1 i1 _) (fun _ _ => rfl) hs.2.2.2.2.2) hl _ hheap X'
  exact ⟨t, step t a1, b1⟩
theorem tm_copyL {k0 i0 k1 i1 idx : Nat} {sp dp n : Int32} (hk0 : tIsL k0 = true) (hk1 : tIsL k1 = true) (hw : tCW y.1 idx) (hR : 1 ≤ R.frames ∧ (st.map tcat).sum + 18 ≤ R.locals) (hd : decode y.2.1 pc = .ok (.invokestatic idx, 3))
    (h1 : ¬ sp < 0) (h2 : ¬ dp < 0) (h3 : ¬ n < 0) (h4 : sp.toNatClampNeg + n.toNatClampNeg ≤ mN M k0 i0) (h5 : dp.toNatClampNeg + n.toNatClampNeg ≤ mN M k1 i1)
    (kk : TW g y R mc ms r M' cells slots (pc + 3) lc st (cL M k1 i1 (va_cpy (mL M k0 i0) (mL M k1 i1) sp.toNatClampNeg dp.toNatClampNeg n.toNatClampNeg))) : TW g y R mc ms r M' cells slots pc lc (ti n :: ti dp :: tr k1 i1 :: ti sp :: tr k0 i0 :: st) M := by
  intro p e s m args below meth c X ad H locs ls hW hO' hlo hL hs hl
  obtain ⟨hO0, hR0, hA0, hT0⟩ := tIsL_spec hk0
  obtain ⟨hO1, hR1, hA1, hT1⟩ := tIsL_spec hk1
  have hE0 := tE_of hR0 hs.2.2.2.2.1
  have hE1 := tE_of hR1 hs.2.2.1
  have hts := X.2.2.2.2.1
  have hc0 : H[ad k0 i0]? = some (arrV (gA g k0) (mN M k0 i0) (fun j => .long (mL M k0 i0 j))) := by
    rw [tW_arr hW hO0 hE0]; congr 2; funext j; rw [tv_L (hT0 j)]; rfl
  have hc1 : H[ad k1 i1]? = some (arrV (gA g k1) (mN M k1 i1) (fun j => .long (mL M k1 i1 j))) := by
    rw [tW_arr hW hO1 hE1]; congr 2; funext j; rw [tv_L (hT1 j)]; rfl
  have hB0 := (X.2.2.2.2.2.2.2.2.2.1 k0).1
  rw [hA0] at hB0
  have hB1 := (X.2.2.2.2.2.2.2.2.2.1 k1).1
  rw [hA1] at hB1
  have hSa := hW.2.2.1 k1 i1 hE1
  intro T hT XS
  obtain ⟨-, c0, hk0', cm0, hkk0⟩ := hB0 (mN M k0 i0) (fun j => .long (mL M k0 i0 j))
  obtain ⟨-, c1, hk1', cm1, hkk1⟩ := hB1 (mN M k1 i1) (fun j => .long (mL M k1 i1 j))
  obtain ⟨vm', X', step⟩ := XS.arraycopy X.1 X.2.2.2.1 (hts _ hw.1) (hts _ hw.2.1) (hts _ hw.2.2.1) (hts _ hw.2.2.2) (src := ad k0 i0) (dst := ad k1 i1) (cs := arrV (gA g k0) (mN M k0 i0) (fun j => .long (mL M k0 i0 j))) (cd := arrV (gA g k1) (mN M k1 i1) (fun j => .long (mL M k1 i1 j))) (srcPos := sp) (destPos := dp) (n := n) (by rw [hT]; exact hc0) (by rw [hT]; exact hc1)
    (fun _ h => by cases h) (fun _ h => by cases h) (fun h => by cases h) (fun h => by cases h) hk0' hk1' hkk0 hkk1 (by simp [refKind]) h1 h2 h3
    (by rw [t_nn h1, t_nn h3, arrV_size]; omega)
    (by rw [t_nn h2, t_nn h3, arrV_size]; omega)
    (fun vm₁ _ j hj => by
      have e : (arrV (gA g k0) (mN M k0 i0) (fun j => Value.long (mL M k0 i0 j))).slots.getD (sp.toNatClampNeg + j) .null = .long (mL M k0 i0 (sp.toNatClampNeg + j)) := by
        rw [Array.getD_eq_getD_getElem?, arrV_read _ _ (by omega)]
        rfl
      refine ⟨?_, ?_⟩
      · rw [e]; rfl
      · rw [e]; exact trivial)
    (g := F0 m pc ls (.int n :: .int dp :: .ref (ad k1 i1) :: .int sp :: .ref (ad k0 i0) :: st.map (tC ad))) rfl (by rw [X.2.2.1]; exact hl.1) (rest := st.map (tC ad)) rfl (by rw [X.2.1]; exact hd) hR.1 (by show 2 * 0 + _ + (7 + 11) ≤ _; rw [tcat_sum]; have := hR.2; omega)
  have e1 : copied (arrV (gA g k0) (mN M k0 i0) (fun j => .long (mL M k0 i0 j))) (arrV (gA g k1) (mN M k1 i1) (fun j => .long (mL M k1 i1 j))) sp dp n = arrV (gA g k1) (mN M k1 i1) (fun j => .long (va_cpy (mL M k0 i0) (mL M k1 i1) sp.toNatClampNeg dp.toNatClampNeg n.toNatClampNeg j)) := va_copied (fun z => .long z) (gA g k0) (gA g k1) (mL M k0 i0) (mL M k1 i1) h4
  rw [e1] at X' step
  have hlt : ad k1 i1 < H.size := (Array.getElem?_eq_some_iff.mp hc1).1
  generalize hnew : arrV (gA g k1) (mN M k1 i1) (fun j => .long (va_cpy (mL M k0 i0) (mL M k1 i1) sp.toNatClampNeg dp.toNatClampNeg n.toNatClampNeg j)) = nc at X' step
  have hheap : ((T.setVm vm').setCell (ad k1 i1) nc).heap = H.setIfInBounds (ad k1 i1) nc := by rw [← hT]; rfl
  have oq : ∀ q : Nat, q ≠ ad k1 i1 → (H.setIfInBounds (ad k1 i1) nc)[q]? = H[q]? := fun q hq => by simp [Array.getElem?_setIfInBounds, Ne.symm hq]
  have sq : (H.setIfInBounds (ad k1 i1) nc)[ad k1 i1]? = some nc := by simp [Array.getElem?_setIfInBounds, hlt]
  have hW1 : tW g ad (cL M k1 i1 (va_cpy (mL M k0 i0) (mL M k1 i1) sp.toNatClampNeg dp.toNatClampNeg n.toNatClampNeg)) (H.setIfInBounds (ad k1 i1) nc) := by
    refine tW_whole hW hE1 (tgh_arr hO1) (fun a b c h => ?_) (fun c => ?_) (fun _ _ => rfl) (fun _ _ => rfl) ?_ oq
    · unfold tv; rw [mL_cL, if_neg h, mI_cL, mR_cL]
    · rw [tv_L (hT1 c)]; trivial
    · simp only [tCell, hO1]
      rw [sq, ← hnew, mN_cL]
      congr 2
      funext j
      rw [tv_L (hT1 j), mL_cL, if_pos ⟨rfl, rfl⟩]
      rfl
  obtain ⟨t, a1, b1⟩ := kk p e s m args below meth c X ad _ _ ls hW1 (tOld_put hO' (by simp) oq hSa) (fun l hl' => by
      rcases List.mem_append.mp hl' with h | h
      · exact hlo l h
      · obtain ⟨z, -, hz⟩ := List.mem_map.mp h
        rw [← hz]; exact hSa) (tLc_eq (M := M) (M1 := cL M k1 i1 _) (fun _ _ => rfl) hL) (tLs_eq (M := M) (M1 := cL M k1 i1 _) (fun _ _ => rfl) hs.2.2.2.2.2) hl _ hheap X'
  exact ⟨t, step t a1, b1⟩
end TO
