/-! new cells, Object.<init>, the two old arrays, arraycopy -/
def tup (ad : Nat → Nat → Nat) (k i a : Nat) : Nat → Nat → Nat := fun k' i' => if k' = k ∧ i' = i then a else ad k' i'
theorem tup_old {ad : Nat → Nat → Nat} {M : tM} {k i a : Nat} (hk : tRO k = false) (hE : mE M k i = false) : ∀ k' i', mE M k' i' = true ∨ tRO k' = true → tup ad k i a k' i' = ad k' i' := by
  intro k' i' h
  unfold tup
  rw [if_neg]
  rintro ⟨rfl, rfl⟩
  rcases h with h | h
  · rw [hE] at h; cases h
  · rw [hk] at h; cases h
theorem tv_mA_ne {M : tM} {k i n k' i' : Nat} (h : ¬ (k' = k ∧ i' = i)) (j : Nat) : tv (mA M k i n) k' i' j = tv M k' i' j := by
  unfold tv
  rw [mI_mA, mL_mA, mR_mA, if_neg h, if_neg h, if_neg h]
theorem mE_mA_mono {M : tM} {k i n : Nat} : ∀ k' i', mE M k' i' = true → mE (mA M k i n) k' i' = true := by
  intro k' i' h
  rw [mE_mA]
  split
  · rfl
  · exact h
/-- what stands in a new cell -/
def tdef (k j : Nat) : tV := match tT k j with
  | 0 => ti 0
  | 1 => tl 0
  | _ + 2 => tn
/-- no place of this kind is fixed -/
def tRaw (k : Nat) : Prop := ∀ j, tT k j = 0 ∨ tT k j = 1 ∨ tT k j % 2 = 0
theorem tv_mA_eq {M : tM} {k i n : Nat} (hr : tRaw k) (j : Nat) : tv (mA M k i n) k i j = tdef k j := by
  have hj := hr j
  unfold tv tdef
  rw [mI_mA, mL_mA, mR_mA, if_pos ⟨rfl, rfl⟩, if_pos ⟨rfl, rfl⟩, if_pos ⟨rfl, rfl⟩]
  generalize tT k j = t at hj
  match t, hj with
  | 0, _ => rfl
  | 1, _ => rfl
  | c + 2, hj =>
    show (if c % 2 = 0 then _ else _) = _
    rw [if_pos (by omega)]
    rfl
theorem tdef_lv {M : tM} (k j : Nat) : tLv M (tdef k j) := by
  unfold tdef
  split <;> trivial
theorem tCell_lt {g : tG} {ad : Nat → Nat → Nat} {M : tM} {k i : Nat} {H : Heap} (h : tCell g ad M k i H) : ad k i < H.size := by
  cases hk : tO k with
  | none =>
    simp only [tCell, hk] at h
    exact (Array.getElem?_eq_some_iff.mp h).1
  | some ci =>
    simp only [tCell, hk] at h
    obtain ⟨r, -, cell, h2, -⟩ := h
    exact (Array.getElem?_eq_some_iff.mp h2).1
theorem tW_new {g : tG} {ad : Nat → Nat → Nat} {M : tM} {H H1 : Heap} {k i n : Nat} (h : tW g ad M H) (hO : tOld g H) (hR : tRO k = false) (hE : mE M k i = false) (hr : tRaw k) (hnk : tNC ≤ k) (ho : ∀ q, q < H.size → H1[q]? = H[q]?) (hc : tCell g (tup ad k i H.size) (mA M k i n) k i H1) : tW g (tup ad k i H.size) (mA M k i n) H1 := by
  obtain ⟨a1, a2, a3, a4, a5, a6, a7⟩ := h
  have hne : ∀ {k' i'}, mE M k' i' = true → ¬ (k' = k ∧ i' = i) := by
    rintro k' i' h' ⟨rfl, rfl⟩
    rw [hE] at h'; cases h'
  have hup : ∀ {k' i'}, ¬ (k' = k ∧ i' = i) → tup ad k i H.size k' i' = ad k' i' := fun h' => by unfold tup; rw [if_neg h']
  have hself : tup ad k i H.size k i = H.size := by unfold tup; rw [if_pos ⟨rfl, rfl⟩]
  have hold : ∀ {k' i'}, mE (mA M k i n) k' i' = true → (k' = k ∧ i' = i) ∨ (¬ (k' = k ∧ i' = i) ∧ mE M k' i' = true) := by
    intro k' i' h'
    by_cases e : k' = k ∧ i' = i
    · exact Or.inl e
    · rw [mE_mA, if_neg e] at h'
      exact Or.inr ⟨e, h'⟩
  have hgg : ∀ k' i', tgh (mA M k i n) k' i' = tgh M k' i' := by
    intro k' i'
    unfold tgh
    by_cases hq : k' < 2 * tNC
    · by_cases hq2 : tNC ≤ k'
      · rw [mE_mA, if_neg (fun z => by have := z.1; omega)]
      · rw [decide_eq_false hq2, Bool.false_and, Bool.false_and]
    · rw [decide_eq_false hq, Bool.false_and, Bool.false_and]
  have hlt : ∀ {k' i'}, mE M k' i' = true → tgh M k' i' = false → ad k' i' < H.size := fun h' n' => tCell_lt (a1 _ _ h' n')
  refine ⟨fun k' i' h' n' => ?_, fun k1 i1 k2 i2 h1 n1 h2 n2 q => ?_, fun k' i' h' => ?_, fun k' i' j h' n' => ?_, fun k' i' h' => ?_, ?_, ?_⟩
  · rcases hold h' with ⟨rfl, rfl⟩ | ⟨e, h'⟩
    · exact hc
    · rw [hgg] at n'
      have old := a1 k' i' h' n'
      have same : ∀ j', tC (tup ad k i H.size) (tv (mA M k i n) k' i' j') = tC ad (tv M k' i' j') := fun j' => by
        rw [tv_mA_ne e]
        exact tC_same (tup_old hR hE) (a4 k' i' j' h' n')
      cases hk : tO k' with
      | none =>
        simp only [tCell, hk, same, hup e, mN_mA, if_neg e] at old ⊢
        rw [ho _ (Array.getElem?_eq_some_iff.mp old).1]
        exact old
      | some ci =>
        simp only [tCell, hk, same, hup e] at old ⊢
        obtain ⟨r, hr, hob⟩ := old
        exact ⟨r, hr, hob.kept (ho _ (by obtain ⟨cell, h2, -⟩ := hob; exact (Array.getElem?_eq_some_iff.mp h2).1))⟩
  · rw [hgg] at n1 n2
    rcases hold h1 with e1 | ⟨e1, h1'⟩ <;> rcases hold h2 with e2 | ⟨e2, h2'⟩
    · exact ⟨e1.1.trans e2.1.symm, e1.2.trans e2.2.symm⟩
    · rw [e1.1, e1.2, hself, hup e2] at q
      exact absurd (hlt h2' n2) (by omega)
    · rw [e2.1, e2.2, hself, hup e1] at q
      exact absurd (hlt h1' n1) (by omega)
    · rw [hup e1, hup e2] at q
      exact a2 _ _ _ _ h1' n1 h2' n2 q
  · rcases hold h' with ⟨rfl, rfl⟩ | ⟨e, h'⟩
    · rw [hself]; exact hO.1
    · rw [hup e]; exact a3 _ _ h'
  · rcases hold h' with ⟨rfl, rfl⟩ | ⟨e, h'⟩
    · rw [tv_mA_eq hr]; exact tdef_lv _ _
    · rw [hgg] at n'
      rw [tv_mA_ne e]
      exact tLv_mono mE_mA_mono (a4 _ _ _ h' n')
  · rw [mE_mA, if_neg]
    · exact a5 _ _ h'
    · rintro ⟨rfl, rfl⟩
      rw [hR] at h'; cases h'
  · rw [tup_old hR hE 90 0 (Or.inr rfl)]; exact a6
  · rw [tup_old hR hE 91 0 (Or.inr rfl)]; exact a7
theorem tOld_new {g : tG} {H H1 : Heap} (h : tOld g H) (z : H1.size = H.size + 1) (ho : ∀ q, q < H.size → H1[q]? = H[q]?) : tOld g H1 :=
  ⟨by rw [z]; have := h.1; omega, fun q hq => by rw [ho q (by have := h.1; omega)]; exact h.2 q hq⟩
section TN
variable {g : tG} {y : tY} {R : Room} {mc ms : Nat} {r : Option tV} {M' : tM} {cells slots pc : Nat} {lc : List (Nat × tV)} {st : List tV} {M : tM}
/-- behind the making of a cell -/
theorem tm_made {p : Program} {e : Env} {s : State} {m : MethodId} {args : Array Value} {below : List Frame} {meth : Method} {c : Code} (X : tX g y p s m args meth c) {ad : Nat → Nat → Nat} {H H1 : Heap} {locs : List Loc} {ls : Array Slot} (hW : tW g ad M H) (hO : tOld g H) (hlo : ∀ l ∈ locs, gS g ≤ l.base) (hL : tLc M lc) (hs : tLs M st) (hl : lv_has ls y.2.2.1 (tlc ad lc))
    {k i n c2 s2 pc2 : Nat} (hR : tRO k = false) (hE : mE M k i = false) (hr : tRaw k) (hnk : tNC ≤ k) (z : H1.size = H.size + 1) (ho : ∀ q, q < H.size → H1[q]? = H[q]?) (hc : tCell g (tup ad k i H.size) (mA M k i n) k i H1)
    (kk : TW g y R mc ms r M' c2 s2 pc2 lc (tr k i :: st) (mA M k i n)) : W p (gl g) e R s m args below meth c H1 locs c2 s2 (MQ below (tQ g ad M r M') args s mc ms (fun q => gS g ≤ q)) (F0 m pc2 ls (.ref H.size :: st.map (tC ad))) := by
  have hu := tup_old (ad := ad) (a := H.size) hR hE
  have hst : st.map (tC (tup ad k i H.size)) = st.map (tC ad) := List.map_congr_left (fun v hv => tC_same hu (tLs_mem hs hv))
  have hlc : tlc (tup ad k i H.size) lc = tlc ad lc := List.map_congr_left (fun q hq => by rw [tC_same hu (tLc_mem hL hq)])
  have hself : tup ad k i H.size k i = H.size := by unfold tup; rw [if_pos ⟨rfl, rfl⟩]
  have K1 := kk p e s m args below meth c X (tup ad k i H.size) H1 locs ls (tW_new hW hO hR hE hr hnk ho hc) (tOld_new hO z ho) hlo (tLc_of (fun q hq => tLv_mono mE_mA_mono (tLc_mem hL hq))) ⟨Or.inr (by rw [mE_mA, if_pos ⟨rfl, rfl⟩]), tLs_of (fun v hv => tLv_mono mE_mA_mono (tLs_mem hs hv))⟩ (by rw [hlc]; exact hl)
  have he : (tr k i :: st).map (tC (tup ad k i H.size)) = .ref H.size :: st.map (tC ad) := by
    show Value.ref (tup ad k i H.size k i) :: _ = _
    rw [hself, hst]
  rw [he] at K1
  exact tW_mono K1 (tMQ_mono (tQ_mono hu mE_mA_mono))
theorem tm_new {ci k i idx : Nat} {C : String} {T : u_T} {N : Nat} {ty : Nat → FieldType} (K : tCl ci C T N ty) (hO : tO k = some ci) (hdf : ∀ ad j, j < N → defaultValue (ty j) = tC ad (tdef k j)) (hw1 : Cond.classLink y.1 idx C ∈ tgd) (hw2 : Cond.instantiable C N ∈ tgd) (hw3 : Cond.initialized C ∈ tgd) (hE : mE M k i = false) (hr : tRaw k) (hnk : tNC ≤ k) (hcs : cells + 1 ≤ R.cells ∧ slots + N ≤ R.slots) (hd : decode y.2.1 pc = .ok (.new idx, 3))
    (kk : TW g y R mc ms r M' (cells + 1) (slots + N) (pc + 3) lc (tr k i :: st) (mA M k i N)) : TW g y R mc ms r M' cells slots pc lc st M := by
  intro p e s m args below meth c X ad H locs ls hW hO' hlo hL hs hl
  have hts := X.2.2.2.2.1
  have hKn := X.2.2.2.2.2.2.2.2.1.1 ci _ K.1
  refine W.newcK X.1 X.2.1 X.2.2.2.1 (hts _ hw1) (hts _ hw2) (hts _ hw3) rfl hd hcs.1 hcs.2 hKn.2.1 rfl fun H1 kC hkC e1 z1 o1 => ?_
  refine tm_made X hW hO' hlo hL hs hl (tRO_obj hO) hE hr hnk z1 o1 ?_ kk
  simp only [tCell, hO]
  have hself : tup ad k i H.size k i = H.size := by unfold tup; rw [if_pos ⟨rfl, rfl⟩]
  rw [hself]
  refine ⟨_, K.1, (u_born ty hts K.2.1 hKn hkC e1 K.2.2.1).to (fun j hj => ?_)⟩
  rw [tv_mA_eq hr]
  exact hdf _ j hj
theorem tm_newa {k i : Nat} {at_ : ArrayType} {n : Int32} (hO : tO k = none ∧ tRO k = false) (hat : newarray.typeOf at_ = tA k) (hdf : ∀ ad j, defaultValue (tA k) = tC ad (tdef k j)) (hw : Cond.arrayClass (newarray.typeOf at_) ∈ tgd) (hE : mE M k i = false) (hr : tRaw k) (hnk : tNC ≤ k) (hn : ¬ n < 0) (hby : n.toNatClampNeg * componentBytes (newarray.typeOf at_) ≤ 536870912) (hcs : cells + 1 ≤ R.cells ∧ slots + n.toNatClampNeg ≤ R.slots) (hra : ∀ U cA, va_RA U cA (tA k) → U.vm.findClass ("[" ++ (tA k).toString) = some cA) (hd : decode y.2.1 pc = .ok (.newarray at_, 2))
    (kk : TW g y R mc ms r M' (cells + 1) (slots + n.toNatClampNeg) (pc + 2) lc (tr k i :: st) (mA M k i n.toNatClampNeg)) : TW g y R mc ms r M' cells slots pc lc (ti n :: st) M := by
  intro p e s m args below meth c X ad H locs ls hW hO' hlo hL hs hl
  have hts := X.2.2.2.2.1
  refine va_newaK X.1 X.2.1 (hts _ hw) rfl hd rfl hn rfl hby hcs.1 hcs.2 rfl fun H1 cA e1 z1 o1 hAr hNm => ?_
  refine tm_made X hW hO' hlo hL hs.2 hl hO.2 hE hr hnk z1 o1 ?_ kk
  have hcA : cA = gA g k := by
    have := hra s _ (X.2.2.2.2.2.2.2.2.2.1 k).2
    rw [hat] at hNm
    exact Option.some.inj (hNm.symm.trans this)
  have hself : tup ad k i H.size k i = H.size := by unfold tup; rw [if_pos ⟨rfl, rfl⟩]
  simp only [tCell, hO.1]
  rw [hself, e1, mN_mA, if_pos ⟨rfl, rfl⟩, hcA]
  congr 2
  funext j
  rw [tv_mA_eq hr, hat]
  exact hdf _ j
theorem tm_anewa {k i idx : Nat} {C : String} {n : Int32} (hO : tO k = none ∧ tRO k = false ∧ tA k = .object C) (hdf : ∀ j, tdef k j = tn) (hC : C ∈ tOver) (hw : Cond.classLink y.1 idx C ∈ tgd) (hE : mE M k i = false) (hr : tRaw k) (hnk : tNC ≤ k) (hn : ¬ n < 0) (hby : n.toNatClampNeg * 4 ≤ 536870912) (hcs : cells + 1 ≤ R.cells ∧ slots + n.toNatClampNeg ≤ R.slots) (hd : decode y.2.1 pc = .ok (.anewarray idx, 3))
    (kk : TW g y R mc ms r M' (cells + 1) (slots + n.toNatClampNeg) (pc + 3) lc (tr k i :: st) (mA M k i n.toNatClampNeg)) : TW g y R mc ms r M' cells slots pc lc (ti n :: st) M := by
  intro p e s m args below meth c X ad H locs ls hW hO' hlo hL hs hl
  have hts := X.2.2.2.2.1
  refine W.anew X.1 X.2.1 X.2.2.2.1 (hts _ hw) (va_AO.use (X.2.2.2.2.2.2.2.2.2.2.2.1 C hC)) rfl hd rfl hn hby hcs.1 hcs.2 fun cA kA comp f1 f2 f3 f4 => ?_
  generalize hH1 : H.push ({ cls := cA, slots := Array.replicate n.toNatClampNeg .null, vm := .none } : Cell) = H1
  have z1 : H1.size = H.size + 1 := by rw [← hH1, Array.size_push]
  have e1 : H1[H.size]? = some (arrV cA n.toNatClampNeg (fun _ => .null)) := by rw [← hH1, Array.getElem?_push_size, ← arrV_new]
  have o1 : ∀ q : Nat, q < H.size → H1[q]? = H[q]? := fun q hq => by rw [← hH1, Array.getElem?_push, if_neg (Nat.ne_of_lt hq)]
  refine tm_made X hW hO' hlo hL hs.2 hl hO.2.1 hE hr hnk z1 o1 ?_ kk
  have hcA : cA = gA g k := by
    have h1 := (X.2.2.2.2.2.2.2.2.2.1 k).2
    rw [hO.2.2] at h1
    obtain ⟨kA', comp', -, -, -, h4⟩ := h1
    exact Option.some.inj (f1.symm.trans h4)
  have hself : tup ad k i H.size k i = H.size := by unfold tup; rw [if_pos ⟨rfl, rfl⟩]
  simp only [tCell, hO.1]
  rw [hself, e1, mN_mA, if_pos ⟨rfl, rfl⟩, hcA]
  congr 2
  funext j
  rw [tv_mA_eq hr, hdf]
  rfl
theorem tm_objInit {k i idx : Nat} (hw1 : Cond.methodLink y.1 idx objectInit ∈ tgd) (hw2 : Cond.instanceMethod objectInit ∈ tgd) (hw3 : Cond.code objectInit ⟨#[0xb1]⟩ 1 none ∈ tgd) (hR : 1 ≤ R.frames ∧ (st.map tcat).sum + 12 ≤ R.locals) (hd : decode y.2.1 pc = .ok (.invokespecial idx, 3))
    (kk : TW g y R mc ms r M' cells slots (pc + 3) lc st M) : TW g y R mc ms r M' cells slots pc lc (tr k i :: st) M := by
  intro p e s m args below meth c X ad H locs ls hW hO' hlo hL hs hl
  have hts := X.2.2.2.2.1
  refine W.objInit X.1 X.2.1 X.2.2.2.1 (hts _ hw1) (hts _ hw2) (hts _ hw3) rfl (by rw [X.2.2.1]; exact hl.1) rfl hd hR.1 ?_ ?_
  · show 2 * 0 + _ + 12 ≤ _
    rw [tcat_sum]
    have := hR.2
    omega
  · exact kk p e s m args below meth c X ad H locs ls hW hO' hlo hL hs.2 hl
end TN
