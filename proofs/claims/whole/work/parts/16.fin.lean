/-! an object that has been made: from then on its fixed fields are fixed -/
def mF (M : tM) (kc k i : Nat) : tM := (fun a b c => if a = k ∧ b = i then M.1 kc i c else M.1 a b c, fun a b c => if a = k ∧ b = i then M.2.1 kc i c else M.2.1 a b c, fun a b c => if a = k ∧ b = i then M.2.2.1 kc i c else M.2.2.1 a b c, fun a b => if a = k ∧ b = i then M.2.2.2.1 kc i else M.2.2.2.1 a b, fun a b => if a = k ∧ b = i then true else M.2.2.2.2 a b)
theorem mI_mF (M : tM) (kc k i a b c : Nat) : mI (mF M kc k i) a b c = if a = k ∧ b = i then mI M kc i c else mI M a b c := rfl
theorem mL_mF (M : tM) (kc k i a b c : Nat) : mL (mF M kc k i) a b c = if a = k ∧ b = i then mL M kc i c else mL M a b c := rfl
theorem mR_mF (M : tM) (kc k i a b c : Nat) : mR (mF M kc k i) a b c = if a = k ∧ b = i then mR M kc i c else mR M a b c := rfl
theorem mN_mF (M : tM) (kc k i a b : Nat) : mN (mF M kc k i) a b = if a = k ∧ b = i then mN M kc i else mN M a b := rfl
theorem mE_mF (M : tM) (kc k i a b : Nat) : mE (mF M kc k i) a b = if a = k ∧ b = i then true else mE M a b := rfl
/-- the fixed fields hold what they must -/
def tfix (M : tM) (kc k i : Nat) : Bool := decide ((tTT.getD k []).length ≤ 100) && (List.range 100).all (fun j => decide (tT k j < 2) || decide (tT k j % 2 = 0) || decide (mR M kc i j = some i))
theorem tfix_of {M : tM} {kc k i : Nat} (hk : k < tNC) (h : tfix M kc k i = true) (j k2 : Nat) (hj : tT k j = 2 * k2 + 3) : mR M kc i j = some i := by
  simp only [tfix, Bool.and_eq_true, decide_eq_true_eq] at h
  have hlt : j < 100 := by
    refine Nat.lt_of_not_le fun hle => ?_
    have : tT k j = 0 := by
      have hk2 := hk
      unfold tNC at hk2
      unfold tT
      rw [if_pos hk2, List.getD_eq_getElem?_getD, List.getElem?_eq_none (by omega)]
      rfl
    omega
  have h1 := List.all_eq_true.mp h.2 j (List.mem_range.mpr hlt)
  simp only [Bool.or_eq_true, decide_eq_true_eq] at h1
  rcases h1 with (h1 | h1) | h1
  · omega
  · omega
  · exact h1
/-- the code of a place while the object is being made -/
def trc (c : Nat) : Nat := if c < 2 then c else c / 2 * 2
theorem tv_mF_ne {M : tM} {kc k i a b : Nat} (h : ¬ (a = k ∧ b = i)) (j : Nat) : tv (mF M kc k i) a b j = tv M a b j := by
  unfold tv
  rw [mI_mF, mL_mF, mR_mF, if_neg h, if_neg h, if_neg h]
theorem tv_mF_eq {M : tM} {kc k i : Nat} (hk : k < tNC) (hr : ∀ j, tT kc j = trc (tT k j)) (hf : tfix M kc k i = true) (j : Nat) : tv (mF M kc k i) k i j = tv M kc i j := by
  have h := hr j
  have hx := tfix_of hk hf j
  unfold tv
  rw [mI_mF, mL_mF, mR_mF, if_pos ⟨rfl, rfl⟩, if_pos ⟨rfl, rfl⟩, if_pos ⟨rfl, rfl⟩]
  generalize tT kc j = d at h
  generalize tT k j = c at h hx
  match c, h with
  | 0, h => rw [show d = 0 from h]
  | 1, h => rw [show d = 1 from h]
  | c + 2, h =>
    have h' : d = c / 2 * 2 + 2 := by
      rw [h]; unfold trc; rw [if_neg (by omega)]; omega
    subst h'
    show (if c % 2 = 0 then tq (c / 2) (mR M kc i j) else tr (c / 2) i) = (if c / 2 * 2 % 2 = 0 then tq (c / 2 * 2 / 2) (mR M kc i j) else tr (c / 2 * 2 / 2) i)
    rw [if_pos (show c / 2 * 2 % 2 = 0 by omega), show c / 2 * 2 / 2 = c / 2 by omega]
    split
    · rfl
    · rename_i hc
      rw [hx (c / 2) (by omega)]
      rfl
theorem mE_mF_mono {M : tM} {kc k i : Nat} : ∀ k' i', mE M k' i' = true → mE (mF M kc k i) k' i' = true := by
  intro k' i' h
  rw [mE_mF]
  split
  · rfl
  · exact h
theorem tgh_mF {M : tM} {kc k i k' i' : Nat} (h : tgh (mF M kc k i) k' i' = false) : tgh M k' i' = false := by
  unfold tgh at h ⊢
  by_cases h1 : tNC ≤ k'
  · by_cases h2 : k' < 2 * tNC
    · rw [decide_eq_true h1, decide_eq_true h2, Bool.true_and, Bool.true_and] at h ⊢
      rw [mE_mF] at h
      split at h
      · cases h
      · exact h
    · rw [decide_eq_false h2, Bool.false_and, Bool.and_false]
  · rw [decide_eq_false h1, Bool.false_and]
section TF
variable {g : tG} {y : tY} {R : Room} {mc ms : Nat} {r : Option tV} {M' : tM} {cells slots pc : Nat} {lc : List (Nat × tV)} {st : List tV} {M : tM}
theorem tm_fin {kc k i ci : Nat} (hkc : kc = tNC + k) (hk : k < tNC) (hO : tO k = some ci) (hOc : tO kc = some ci) (hr : ∀ j, tT kc j = trc (tT k j)) (hE0 : (!mE M k i) = true) (hf : tfix M kc k i = true)
    (kk : TW g y R mc ms r M' cells slots pc lc (tr k i :: st) (mF M kc k i)) : TW g y R mc ms r M' cells slots pc lc (tr kc i :: st) M := by
  intro p e s m args below meth c X ad H locs ls hW hO' hlo hL hs hl
  have hE : mE M k i = false := by simpa using hE0
  have hEc := tE_of (tRO_obj hOc) hs.1
  have hgc : tgh M kc i = false := by
    unfold tgh
    rw [show kc - tNC = k by omega, hE, Bool.and_false, Bool.and_false]
  have hgF : tgh (mF M kc k i) kc i = true := by
    unfold tgh
    rw [show kc - tNC = k by omega, mE_mF, if_pos ⟨rfl, rfl⟩, decide_eq_true (show tNC ≤ kc by omega), decide_eq_true (show kc < 2 * tNC by omega)]
    rfl
  have hu := tup_old (ad := ad) (a := ad kc i) (tRO_obj hO) hE
  have hself : tup ad k i (ad kc i) k i = ad kc i := by unfold tup; rw [if_pos ⟨rfl, rfl⟩]
  obtain ⟨a1, a2, a3, a4, a5, a6, a7⟩ := hW
  have hup : ∀ {k' i'}, ¬ (k' = k ∧ i' = i) → tup ad k i (ad kc i) k' i' = ad k' i' := fun h' => by unfold tup; rw [if_neg h']
  have hold : ∀ {k' i'}, mE (mF M kc k i) k' i' = true → (k' = k ∧ i' = i) ∨ (¬ (k' = k ∧ i' = i) ∧ mE M k' i' = true) := by
    intro k' i' h'
    by_cases e : k' = k ∧ i' = i
    · exact Or.inl e
    · rw [mE_mF, if_neg e] at h'
      exact Or.inr ⟨e, h'⟩
  have hnot : ∀ {k' i'}, tgh (mF M kc k i) k' i' = false → ¬ (kc = k' ∧ i = i') := by
    rintro k' i' h' ⟨rfl, rfl⟩
    rw [hgF] at h'; cases h'
  have hW1 : tW g (tup ad k i (ad kc i)) (mF M kc k i) H := by
    refine ⟨fun k' i' h' n' => ?_, fun k1 i1 k2 i2 h1 n1 h2 n2 q => ?_, fun k' i' h' => ?_, fun k' i' j h' n' => ?_, fun k' i' h' => ?_, ?_, ?_⟩
    · rcases hold h' with ⟨rfl, rfl⟩ | ⟨e', h'⟩
      · have old := a1 kc i' hEc hgc
        simp only [tCell, hO, hOc] at old ⊢
        obtain ⟨rr, hrr, hob⟩ := old
        rw [hself]
        refine ⟨rr, hrr, hob.to (fun j _ => ?_)⟩
        rw [tv_mF_eq hk hr hf]
        exact (tC_same hu (a4 kc i' j hEc hgc)).symm
      · have old := a1 k' i' h' (tgh_mF n')
        have same : ∀ j', tC (tup ad k i (ad kc i)) (tv (mF M kc k i) k' i' j') = tC ad (tv M k' i' j') := fun j' => by
          rw [tv_mF_ne e']
          exact tC_same hu (a4 k' i' j' h' (tgh_mF n'))
        cases hk' : tO k' with
        | none =>
          simp only [tCell, hk', same, hup e', mN_mF, if_neg e'] at old ⊢
          exact old
        | some ci' =>
          simp only [tCell, hk', same, hup e'] at old ⊢
          exact old
    · rcases hold h1 with e1 | ⟨e1, h1'⟩ <;> rcases hold h2 with e2 | ⟨e2, h2'⟩
      · exact ⟨e1.1.trans e2.1.symm, e1.2.trans e2.2.symm⟩
      · rw [e1.1, e1.2, hself, hup e2] at q
        exact absurd (a2 _ _ _ _ hEc hgc h2' (tgh_mF n2) q) (hnot n2)
      · rw [e2.1, e2.2, hself, hup e1] at q
        exact absurd (a2 _ _ _ _ hEc hgc h1' (tgh_mF n1) q.symm) (hnot n1)
      · rw [hup e1, hup e2] at q
        exact a2 _ _ _ _ h1' (tgh_mF n1) h2' (tgh_mF n2) q
    · rcases hold h' with e' | ⟨e', h'⟩
      · rw [e'.1, e'.2, hself]; exact a3 _ _ hEc
      · rw [hup e']; exact a3 _ _ h'
    · rcases hold h' with ⟨rfl, rfl⟩ | ⟨e', h'⟩
      · rw [tv_mF_eq hk hr hf]
        exact tLv_mono mE_mF_mono (a4 _ _ _ hEc hgc)
      · rw [tv_mF_ne e']
        exact tLv_mono mE_mF_mono (a4 _ _ _ h' (tgh_mF n'))
    · rw [mE_mF, if_neg]
      · exact a5 _ _ h'
      · rintro ⟨rfl, rfl⟩
        rw [tRO_obj hO] at h'; cases h'
    · rw [hu 90 0 (Or.inr rfl)]; exact a6
    · rw [hu 91 0 (Or.inr rfl)]; exact a7
  have hst : st.map (tC (tup ad k i (ad kc i))) = st.map (tC ad) := List.map_congr_left (fun v hv => tC_same hu (tLs_mem hs.2 hv))
  have hlc : tlc (tup ad k i (ad kc i)) lc = tlc ad lc := List.map_congr_left (fun q hq => by rw [tC_same hu (tLc_mem hL hq)])
  have K1 := kk p e s m args below meth c X _ H locs ls hW1 hO' hlo (tLc_of (fun q hq => tLv_mono mE_mF_mono (tLc_mem hL hq))) ⟨Or.inr (by rw [mE_mF, if_pos ⟨rfl, rfl⟩]), tLs_of (fun v hv => tLv_mono mE_mF_mono (tLs_mem hs.2 hv))⟩ (by rw [hlc]; exact hl)
  have he : (tr k i :: st).map (tC (tup ad k i (ad kc i))) = (tr kc i :: st).map (tC ad) := by
    show Value.ref (tup ad k i (ad kc i) k i) :: _ = Value.ref (ad kc i) :: _
    rw [hself, hst]
  rw [he] at K1
  exact tW_mono K1 (tMQ_mono (tQ_mono hu mE_mF_mono))
end TF
