/-! fields, arrays, new cells, returns, calls -/
/-- a class of the tables: its number, name, fields, their types -/
def tCl (ci : Nat) (C : String) (T : u_T) (N : Nat) (ty : Nat → FieldType) : Prop :=
  vwCl[ci]? = some (C, T, N) ∧ (∀ w ∈ u_ws C T N, w ∈ tgd) ∧ (∀ k, k < N → parseFieldDescriptor (T k).2.2.1 = some (ty k)) ∧ (∀ a, a < N → ∀ b, b < N → a ≠ b → (T a).2.1 ≠ (T b).2.1)
theorem tRO_obj {k ci : Nat} (h : tO k = some ci) : tRO k = false := by
  have hk : k < 2 * tNC := by
    unfold tO at h
    unfold tNC
    split at h
    · omega
    · split at h
      · omega
      · cases h
  have h2 : 2 * tNC ≤ 90 := by decide
  simp [tRO]; omega
theorem tE_of {M : tM} {k i : Nat} (hR : tRO k = false) (h : tLv M (tr k i)) : mE M k i = true :=
  h.elim (fun q => by rw [show tRO k = true from q] at hR; cases hR) id
/-- one place gets a new value -/
def tPut (M : tM) (k i j : Nat) (v : tV) (M1 : tM) : Prop :=
  (∀ a b c, tv M1 a b c = if a = k ∧ b = i ∧ c = j then v else tv M a b c) ∧ (∀ a b, mN M1 a b = mN M a b) ∧ (∀ a b, mE M1 a b = mE M a b)
theorem tPut_I {M : tM} {k i j : Nat} (x : Int32) (h : tT k j = 0) : tPut M k i j (ti x) (sI M k i j x) := by
  refine ⟨fun a b c => ?_, fun _ _ => rfl, fun _ _ => rfl⟩
  by_cases e : a = k ∧ b = i ∧ c = j
  · rw [if_pos e]
    obtain ⟨rfl, rfl, rfl⟩ := e
    rw [tv_I h, mI_sI, if_pos ⟨rfl, rfl, rfl⟩]
  · rw [if_neg e]
    unfold tv
    rw [mI_sI, if_neg e, mL_sI, mR_sI]
theorem tPut_L {M : tM} {k i j : Nat} (x : Int64) (h : tT k j = 1) : tPut M k i j (tl x) (sL M k i j x) := by
  refine ⟨fun a b c => ?_, fun _ _ => rfl, fun _ _ => rfl⟩
  by_cases e : a = k ∧ b = i ∧ c = j
  · rw [if_pos e]
    obtain ⟨rfl, rfl, rfl⟩ := e
    rw [tv_L h, mL_sL, if_pos ⟨rfl, rfl, rfl⟩]
  · rw [if_neg e]
    unfold tv
    rw [mL_sL, if_neg e, mI_sL, mR_sL]
theorem tPut_R {M : tM} {k i j k2 : Nat} (x : Option Nat) (h : tT k j = 2 * k2 + 2) : tPut M k i j (tq k2 x) (sR M k i j x) := by
  refine ⟨fun a b c => ?_, fun _ _ => rfl, fun _ _ => rfl⟩
  by_cases e : a = k ∧ b = i ∧ c = j
  · rw [if_pos e]
    obtain ⟨rfl, rfl, rfl⟩ := e
    rw [tv_R h, mR_sR, if_pos ⟨rfl, rfl, rfl⟩]
  · rw [if_neg e]
    unfold tv
    rw [mR_sR, if_neg e, mI_sR, mL_sR]
theorem tLv_eq {M M1 : tM} (h : ∀ a b, mE M1 a b = mE M a b) {v : tV} : tLv M1 v ↔ tLv M v :=
  ⟨tLv_mono (fun k i q => by rw [← h]; exact q), tLv_mono (fun k i q => by rw [h]; exact q)⟩
theorem tLs_eq {M M1 : tM} (h : ∀ a b, mE M1 a b = mE M a b) : ∀ {l : List tV}, tLs M l → tLs M1 l
  | [], _ => trivial
  | _ :: _, q => ⟨(tLv_eq h).mpr q.1, tLs_eq h q.2⟩
theorem tLc_eq {M M1 : tM} (h : ∀ a b, mE M1 a b = mE M a b) : ∀ {l : List (Nat × tV)}, tLc M l → tLc M1 l
  | [], _ => trivial
  | _ :: _, q => ⟨(tLv_eq h).mpr q.1, tLc_eq h q.2⟩
theorem tW_put {g : tG} {ad : Nat → Nat → Nat} {M M1 : tM} {H H1 : Heap} {k i j : Nat} {v : tV} (h : tW g ad M H) (hE : mE M k i = true) (hgh : tgh M k i = false) (hp : tPut M k i j v M1) (hv : tLv M v) (hc : tCell g ad M1 k i H1) (ho : ∀ q, q ≠ ad k i → H1[q]? = H[q]?) : tW g ad M1 H1 := by
  obtain ⟨a1, a2, a3, a4, a5, a6⟩ := h
  refine ⟨fun k' i' h' n' => ?_, fun k1 i1 k2 i2 h1 n1 h2 n2 => ?_, fun k' i' h' => ?_, fun k' i' j' h' n' => ?_, fun k' i' h' => ?_, a6⟩
  · rw [hp.2.2] at h'
    rw [tgh_eq hp.2.2] at n'
    by_cases e : k' = k ∧ i' = i
    · obtain ⟨rfl, rfl⟩ := e
      exact hc
    · have hne : ad k' i' ≠ ad k i := fun q => e (a2 _ _ _ _ h' n' hE hgh q)
      have old := a1 k' i' h' n'
      have same : ∀ j', tv M1 k' i' j' = tv M k' i' j' := fun j' => by rw [hp.1, if_neg (fun q => e ⟨q.1, q.2.1⟩)]
      cases hk : tO k' with
      | none =>
        simp only [tCell, hk, same, hp.2.1] at old ⊢
        rw [ho _ hne]
        exact old
      | some ci =>
        simp only [tCell, hk, same] at old ⊢
        obtain ⟨r, hr, hob⟩ := old
        exact ⟨r, hr, hob.kept (ho _ hne)⟩
  · rw [hp.2.2] at h1 h2
    rw [tgh_eq hp.2.2] at n1 n2
    exact a2 _ _ _ _ h1 n1 h2 n2
  · rw [hp.2.2] at h'
    exact a3 _ _ h'
  · rw [hp.2.2] at h'
    rw [tgh_eq hp.2.2] at n'
    rw [tLv_eq hp.2.2, hp.1]
    split
    · exact hv
    · exact a4 _ _ _ h' n'
  · rw [hp.2.2]
    exact a5 _ _ h'
theorem tOld_put {g : tG} {H H1 : Heap} {a : Nat} (h : tOld g H) (z : H1.size = H.size) (ho : ∀ q, q ≠ a → H1[q]? = H[q]?) (ha : gS g ≤ a) : tOld g H1 :=
  ⟨by rw [z]; exact h.1, fun q hq => by rw [ho q (by omega)]; exact h.2 q hq⟩
theorem tlo_put {g : tG} {locs : List Loc} {a k : Nat} (h : ∀ l ∈ locs, gS g ≤ l.base) (ha : gS g ≤ a) : ∀ l ∈ locs ++ [(⟨a, k⟩ : Loc)], gS g ≤ l.base := by
  intro l hl
  rcases List.mem_append.mp hl with h1 | h1
  · exact h l h1
  · rw [List.mem_singleton.mp h1]; exact ha
section TH
variable {g : tG} {y : tY} {R : Room} {mc ms : Nat} {r : Option tV} {M' : tM} {cells slots pc : Nat} {lc : List (Nat × tV)} {st : List tV} {M : tM}
theorem tm_get {ci k i j idx : Nat} {C : String} {T : u_T} {N : Nat} {ty : Nat → FieldType} (K : tCl ci C T N ty) (hO : tO k = some ci) (hj : j < N) (hlk : Cond.fieldLink y.1 idx (T j).1 (T j).2.1 (T j).2.2.1 ∈ tgd) (hd : decode y.2.1 pc = .ok (.getfield idx, 3)) {v : tV} (hv : tv M k i j = v)
    (kk : TW g y R mc ms r M' cells slots (pc + 3) lc (v :: st) M) (hgh : tgh M k i = false := by rfl) : TW g y R mc ms r M' cells slots pc lc (tr k i :: st) M := by
  intro p e s m args below meth c X ad H locs ls hW hO' hlo hL hs hl
  subst hv
  have hE := tE_of (tRO_obj hO) hs.1
  have hcell := hW.1 k i hE hgh
  simp only [tCell, hO] at hcell
  obtain ⟨r', h1, cell, q1, q2, q3, q4⟩ := hcell
  have hr : r' = (C, T, N) := Option.some.inj (h1.symm.trans K.1)
  subst hr
  obtain ⟨hS, hfc, kC, hkC, hkind⟩ := X.2.2.2.2.2.2.2.2.1.1 ci _ K.1
  obtain ⟨cf, kf, fi, f, hi, hsl⟩ := hS j hj
  exact W.getf X.1 X.2.1 X.2.2.2.1 (X.2.2.2.2.1 _ hlk) hi (u_facts hfc hkC (u_lays X.2.2.2.2.1 K.2.1 hj) hi).1 q1 (by rw [q3]; exact fun h => by cases h) (v := tC ad (tv M k i j)) (by rw [hsl]; exact q4 j hj) rfl rfl hd
    (kk p e s m args below meth c X ad H locs ls hW hO' hlo hL ⟨hW.2.2.2.1 k i j hE hgh, hs.2⟩ hl)
theorem tm_put {ci k i j idx : Nat} {C : String} {T : u_T} {N : Nat} {ty : Nat → FieldType} (K : tCl ci C T N ty) (hO : tO k = some ci) (hj : j < N) (hlk : Cond.fieldLink y.1 idx (T j).1 (T j).2.1 (T j).2.2.1 ∈ tgd) (hfin : (T j).2.2.2 = false) (hd : decode y.2.1 pc = .ok (.putfield idx, 3)) {v : tV} {M1 : tM}
    (hf : ∀ ad, narrow (ty j) (tC ad v) = tC ad v ∧ fits (ty j) (tC ad v) = true) (hp : tPut M k i j v M1)
    (kk : TW g y R mc ms r M' cells slots (pc + 3) lc st M1) (hgh : tgh M k i = false := by rfl) : TW g y R mc ms r M' cells slots pc lc (v :: tr k i :: st) M := by
  intro p e s m args below meth c X ad H locs ls hW hO' hlo hL hs hl
  have hE := tE_of (tRO_obj hO) hs.2.1
  have hcell := hW.1 k i hE hgh
  simp only [tCell, hO] at hcell
  obtain ⟨r', h1, cell, q1, q2, q3, q4⟩ := hcell
  have hr : r' = (C, T, N) := Option.some.inj (h1.symm.trans K.1)
  subst hr
  have hKK := X.2.2.2.2.2.2.2.2.1
  have hts := X.2.2.2.2.1
  obtain ⟨hS, hfc, kC, hkC, hkind⟩ := hKK.1 ci _ K.1
  obtain ⟨cf, kf, fi, f, hi, hsl⟩ := hS j hj
  have hap := va_apart (own := y.1) hts K.2.1 ty K.2.2.1 K.2.2.2 hKK K.1
  have hlay := hts _ (K.2.1 _ (u_in_lay hj))
  unfold u_lay at hlay
  rw [if_neg (by rw [hfin]; decide)] at hlay
  have hst := (u_facts hfc hkC (u_lays hts K.2.1 hj) hi).1
  have h6 := u_store hfc hkC hkind hlay hi (K.2.2.1 j hj) (hf ad).1 (hf ad).2
  have hA := hW.2.2.1 k i hE
  refine W.putK X.1 X.2.1 (f := f) ⟨X.2.2.2.1, hts _ hlk, ⟨_, _, _, hi⟩, hst⟩ (by rw [q2]; exact h6) q1 q3 (by rw [hsl]; exact k2_hasslot (q4 j hj)) rfl rfl hd fun H' e1 e2 e3 => ?_
  rw [hsl] at e1
  have hc1 : tCell g ad M1 k i H' := by
    simp only [tCell, hO]
    refine ⟨_, K.1, t_OB.to (V := updV (fun j => tC ad (tv M k i j)) j (tC ad v)) ⟨_, e1, q2, q3, t_set q4 hap hj _⟩ (fun j' _ => ?_)⟩
    rw [hp.1]
    unfold updV
    by_cases hjj : j' = j
    · rw [if_pos hjj, if_pos ⟨rfl, rfl, hjj⟩]
    · rw [if_neg hjj, if_neg (fun q => hjj q.2.2)]
  exact tW_mono (kk p e s m args below meth c X ad H' _ ls (tW_put hW hE hgh hp hs.1 hc1 e3) (tOld_put hO' e2 e3 hA) (tlo_put hlo hA) (tLc_eq hp.2.2 hL) (tLs_eq hp.2.2 hs.2.2) hl) (tMQ_mono (tQ_mono (fun _ _ _ => rfl) (fun a b q => by rw [hp.2.2]; exact q)))
theorem tm_putF {ci k i j idx : Nat} {C : String} {T : u_T} {N : Nat} {ty : Nat → FieldType} (K : tCl ci C T N ty) (hO : tO k = some ci) (hj : j < N) (hlk : Cond.fieldLink y.1 idx (T j).1 (T j).2.1 (T j).2.2.1 ∈ tgd) (hfin : (T j).2.2.2 = true) (hin : y.2.2.2.2 = "<init>") (hdecl : (T j).1 = y.1) (hd : decode y.2.1 pc = .ok (.putfield idx, 3)) {v : tV} {M1 : tM}
    (hf : ∀ ad, narrow (ty j) (tC ad v) = tC ad v ∧ fits (ty j) (tC ad v) = true) (hp : tPut M k i j v M1)
    (kk : TW g y R mc ms r M' cells slots (pc + 3) lc st M1) (hgh : tgh M k i = false := by rfl) : TW g y R mc ms r M' cells slots pc lc (v :: tr k i :: st) M := by
  intro p e s m args below meth c X ad H locs ls hW hO' hlo hL hs hl
  have hE := tE_of (tRO_obj hO) hs.2.1
  have hcell := hW.1 k i hE hgh
  simp only [tCell, hO] at hcell
  obtain ⟨r', h1, cell, q1, q2, q3, q4⟩ := hcell
  have hr : r' = (C, T, N) := Option.some.inj (h1.symm.trans K.1)
  subst hr
  have hKK := X.2.2.2.2.2.2.2.2.1
  have hts := X.2.2.2.2.1
  obtain ⟨hS, hfc, kC, hkC, hkind⟩ := hKK.1 ci _ K.1
  obtain ⟨cf, kf, fi, f, hi, hsl⟩ := hS j hj
  have hap := va_apart (own := y.1) hts K.2.1 ty K.2.2.1 K.2.2.2 hKK K.1
  have hlay := hts _ (K.2.1 _ (u_in_lay hj))
  unfold u_lay at hlay
  rw [if_pos hfin] at hlay
  have hst := (u_facts hfc hkC (u_lays hts K.2.1 hj) hi).1
  have hcf : m.cls = cf := by
    obtain ⟨_, _, c', _, _, _, -, -, hf', -, -, -, hown2, -⟩ := Cond.laysFinal_spec hlay
    have e1 : c' = cf := by have := hi.symm.trans hf'; simp at this; exact this.1.symm
    rw [hdecl] at hown2
    rw [← e1]; exact Option.some.inj (X.2.2.2.1.symm.trans hown2)
  have h6 := u_fits hfc hkC hkind (Or.inr hlay) hi (K.2.2.1 j hj) (hf ad).1 (hf ad).2
  have hA := hW.2.2.1 k i hE
  refine W.putFinK X.1 X.2.1 X.2.2.2.1 (hts _ hlk) hi hst hcf (X.2.2.2.2.2.2.2.1.trans hin) (by rw [q2]; exact h6) q1 q3 (by rw [hsl]; exact k2_hasslot (q4 j hj)) rfl rfl hd fun H' e1 e2 e3 => ?_
  rw [hsl] at e1
  have hc1 : tCell g ad M1 k i H' := by
    simp only [tCell, hO]
    refine ⟨_, K.1, t_OB.to (V := updV (fun j => tC ad (tv M k i j)) j (tC ad v)) ⟨_, e1, q2, q3, t_set q4 hap hj _⟩ (fun j' _ => ?_)⟩
    rw [hp.1]
    unfold updV
    by_cases hjj : j' = j
    · rw [if_pos hjj, if_pos ⟨rfl, rfl, hjj⟩]
    · rw [if_neg hjj, if_neg (fun q => hjj q.2.2)]
  exact tW_mono (kk p e s m args below meth c X ad H' _ ls (tW_put hW hE hgh hp hs.1 hc1 e3) (tOld_put hO' e2 e3 hA) (tlo_put hlo hA) (tLc_eq hp.2.2 hL) (tLs_eq hp.2.2 hs.2.2) hl) (tMQ_mono (tQ_mono (fun _ _ _ => rfl) (fun a b q => by rw [hp.2.2]; exact q)))
end TH
