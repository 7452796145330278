/-! beat: the waits -/
def bs (R : Nat → Nat) (p : Nat) : Nat := sumTo R p
theorem bs_le {R : Nat → Nat} {p q : Nat} (h : p ≤ q) : bs R p ≤ bs R q := by
  induction q with
  | zero => rw [show p = 0 by omega]; exact Nat.le_refl _
  | succ q ih =>
    by_cases e : p = q + 1
    · rw [e]; exact Nat.le_refl _
    · have := ih (by omega)
      show bs R p ≤ sumTo R q + R q
      exact Nat.le_trans this (Nat.le_add_right _ _)
theorem bs_lt {R : Nat → Nat} {p n j : Nat} (h : p < n) (hj : j < R p) : bs R p + j < bs R n := by
  have h1 := bs_le (R := R) (show p + 1 ≤ n by omega)
  have h2 : bs R (p + 1) = bs R p + R p := rfl
  omega
theorem bs_inj {R : Nat → Nat} {p q i j : Nat} (hi : i < R p) (hj : j < R q) (e : bs R p + i = bs R q + j) : p = q ∧ i = j := by
  have h : p = q := by
    rcases Nat.lt_trichotomy p q with h | h | h
    · have := bs_lt h hi; omega
    · exact h
    · have := bs_lt h hj; omega
  subst h
  exact ⟨rfl, by omega⟩
theorem bs_dec {R : Nat → Nat} : ∀ {n v : Nat}, v < bs R n → ∃ p j, p < n ∧ j < R p ∧ v = bs R p + j := by
  intro n
  induction n with
  | zero => intro v h; cases h
  | succ n ih =>
    intro v h
    have h2 : bs R (n + 1) = bs R n + R n := rfl
    by_cases c : v < bs R n
    · obtain ⟨p, j, h1, h2, h3⟩ := ih c
      exact ⟨p, j, by omega, h2, h3⟩
    · exact ⟨n, v - bs R n, by omega, by omega, by omega⟩
/-- which FIRING, how many ROUNDS back -/
def gvr (N : NG) (R : Nat → Nat) (l need q u : Nat) : Prop := u < R (nF N l) ∧ gN N l u + nS N l < need + q * gN N l (R (nF N l)) ∧ need + q * gN N l (R (nF N l)) ≤ gN N l (u + 1) + nS N l
def gq (N : NG) (R : Nat → Nat) (l need : Nat) : Nat := if nS N l < need then 0 else (nS N l - need) / gN N l (R (nF N l)) + 1
noncomputable def gu (N : NG) (R : Nat → Nat) (l need : Nat) : Nat := @dite _ (∃ u, gvr N R l need (gq N R l need) u) (Classical.propDecidable _) (fun h => Classical.choose h) (fun _ => 0)
theorem frst {G : Nat → Nat} {n t : Nat} (h0 : G 0 < t) (hn : t ≤ G n) : ∃ u, u < n ∧ G u < t ∧ t ≤ G (u + 1) := by
  induction n with
  | zero => omega
  | succ n ih =>
    by_cases c : t ≤ G n
    · obtain ⟨u, h1, h2⟩ := ih c
      exact ⟨u, by omega, h2⟩
    · exact ⟨n, by omega, by omega, hn⟩
theorem gq_b {N : NG} {R : Nat → Nat} {l need K : Nat} (hK : K = gN N l (R (nF N l))) (h1 : 1 ≤ need) (h2 : need ≤ K) : nS N l < need + gq N R l need * K ∧ need + gq N R l need * K ≤ nS N l + K := by
  unfold gq
  rw [← hK]
  by_cases c : nS N l < need
  · rw [if_pos c, Nat.zero_mul]; omega
  · rw [if_neg c]
    have e := Nat.div_add_mod (nS N l - need) K
    have m := Nat.mod_lt (nS N l - need) (show 0 < K by omega)
    rw [Nat.add_mul, Nat.one_mul, Nat.mul_comm ((nS N l - need) / K) K]
    generalize K * ((nS N l - need) / K) = y at *
    omega
theorem gvr_ex {N : NG} {R : Nat → Nat} {l need : Nat} (h1 : 1 ≤ need) (h2 : need ≤ gN N l (R (nF N l))) : gvr N R l need (gq N R l need) (gu N R l need) := by
  have hb := gq_b (N := N) (R := R) (l := l) rfl h1 h2
  have : ∃ u, gvr N R l need (gq N R l need) u := by
    obtain ⟨u, a, b, c⟩ := frst (G := fun i => gN N l i + nS N l) (n := R (nF N l)) (t := need + gq N R l need * gN N l (R (nF N l))) (by
      show gN N l 0 + nS N l < _
      have : gN N l 0 = 0 := rfl
      omega) (by show _ ≤ gN N l (R (nF N l)) + nS N l; omega)
    exact ⟨u, a, b, c⟩
  unfold gu
  rw [dif_pos this]
  exact Classical.choose_spec this
theorem gN_mono {N : NG} {l a b : Nat} (h : a ≤ b) : gN N l a ≤ gN N l b := gsum_mono _ _ h
theorem tN_mono {N : NG} {l a b : Nat} (h : a ≤ b) : tN N l a ≤ tN N l b := gsum_mono _ _ h
theorem gvr_u {N : NG} {R : Nat → Nat} {l need q u u' : Nat} (h : gvr N R l need q u) (h' : gvr N R l need q u') : u = u' := by
  obtain ⟨-, b, c⟩ := h
  obtain ⟨-, b', c'⟩ := h'
  rcases Nat.lt_trichotomy u u' with z | z | z
  · have := gN_mono (N := N) (l := l) (show u + 1 ≤ u' by omega); omega
  · exact z
  · have := gN_mono (N := N) (l := l) (show u' + 1 ≤ u by omega); omega
abbrev ED : Type := Nat × Nat × Nat
def own (R : Nat → Nat) (p : Nat) : Nat → List ED
  | 0 => []
  | k + 1 => own R p k ++ [(bs R p + k, if k = 0 then bs R p + (R p - 1) else bs R p + (k - 1), if k = 0 then 1 else 0)]
def ownA (R : Nat → Nat) : Nat → List ED
  | 0 => []
  | p + 1 => ownA R p ++ own R p (R p)
noncomputable def lnE (N : NG) (R : Nat → Nat) (l : Nat) : Nat → List ED
  | 0 => []
  | k + 1 => lnE N R l k ++ (if nK N l (k % nH N (nT N l)) = 0 then [] else [(bs R (nT N l) + k, bs R (nF N l) + gu N R l (tN N l (k + 1)), gq N R l (tN N l (k + 1)))])
noncomputable def lnA (N : NG) (R : Nat → Nat) : Nat → List ED
  | 0 => ownA R (nP N)
  | l + 1 => lnA N R l ++ lnE N R l (R (nT N l))
theorem own_len {R : Nat → Nat} {p : Nat} : ∀ k, (own R p k).length = k := by
  intro k
  induction k with
  | zero => rfl
  | succ k ih => rw [own, List.length_append, ih]; rfl
theorem ownA_len {R : Nat → Nat} : ∀ p, (ownA R p).length = bs R p := by
  intro p
  induction p with
  | zero => rfl
  | succ p ih => rw [ownA, List.length_append, ih, own_len]; rfl
theorem lnE_len {N : NG} {R : Nat → Nat} {l : Nat} : ∀ k, (lnE N R l k).length ≤ k := by
  intro k
  induction k with
  | zero => exact Nat.le_refl _
  | succ k ih =>
    rw [lnE, List.length_append]
    split
    · show _ + 0 ≤ _; omega
    · show _ + 1 ≤ _; omega
theorem lnA_len {N : NG} {R : Nat → Nat} (hN : NOK N) (hn : bs R (nP N) ≤ 60) : ∀ l, l ≤ nL N → (lnA N R l).length ≤ bs R (nP N) + 60 * l := by
  intro l
  induction l with
  | zero => intro _; rw [lnA, ownA_len]; omega
  | succ l ih =>
    intro hl
    have h1 := ih (by omega)
    have h2 := lnE_len (N := N) (R := R) (l := l) (R (nT N l))
    have h3 : R (nT N l) ≤ bs R (nP N) := sumTo_ge (hN.2.2.1 l (by omega)).2.1
    rw [lnA, List.length_append]; omega
/-- an edge between nodes that goes 0 ROUNDS back goes to an earlier one -/
def edOK (n : Nat) (ps : Nat → Nat) (e : ED) : Prop := e.1 < n ∧ e.2.1 < n ∧ e.2.2 ≤ 60 ∧ (e.2.2 = 0 → ps e.2.1 < ps e.1)
theorem cO_mono {od : Nat → Nat} {p i j : Nat} (h : i ≤ j) : cO od i p ≤ cO od j p := by
  induction j with
  | zero => rw [show i = 0 by omega]; exact Nat.le_refl _
  | succ j ih =>
    by_cases e : i = j + 1
    · rw [e]; exact Nat.le_refl _
    · have := ih (by omega)
      rw [ph_next]; split <;> omega
theorem cO_ex {od : Nat → Nat} {p : Nat} : ∀ {k j : Nat}, j < cO od k p → ∃ i, i < k ∧ od i = p ∧ cO od i p = j := by
  intro k
  induction k with
  | zero => intro j h; cases h
  | succ k ih =>
    intro j h
    by_cases c : j < cO od k p
    · obtain ⟨i, h1, h2⟩ := ih c
      exact ⟨i, by omega, h2⟩
    · rw [ph_next] at h
      split at h
      · rename_i e
        exact ⟨k, by omega, e.symm, by omega⟩
      · omega
theorem cO_uniq {od : Nat → Nat} {p i j : Nat} (h1 : od i = p) (h2 : od j = p) (e : cO od i p = cO od j p) : i = j := by
  have up : ∀ i, od i = p → cO od (i + 1) p = cO od i p + 1 := fun i h => by rw [ph_next, if_pos h.symm]
  rcases Nat.lt_trichotomy i j with z | z | z
  · have := cO_mono (od := od) (p := p) (show i + 1 ≤ j by omega); have := up i h1; omega
  · exact z
  · have := cO_mono (od := od) (p := p) (show j + 1 ≤ i by omega); have := up j h2; omega
noncomputable def psn (R od : Nat → Nat) (n v : Nat) : Nat := @dite _ (∃ k, k < n ∧ v = bs R (od k) + cO od k (od k)) (Classical.propDecidable _) (fun h => Classical.choose h) (fun _ => 0)
theorem psn_eq {N : NG} {R od : Nat → Nat} {n k : Nat} (hv : vr N R od n) (hk : k < n) : psn R od n (bs R (od k) + cO od k (od k)) = k := by
  have hx : ∃ i, i < n ∧ bs R (od k) + cO od k (od k) = bs R (od i) + cO od i (od i) := ⟨k, hk, rfl⟩
  unfold psn
  rw [dif_pos hx]
  have sp := Classical.choose_spec hx
  generalize Classical.choose hx = i at *
  obtain ⟨hi, e⟩ := sp
  have a := (hv k hk).2.1
  have b := (hv i hi).2.1
  obtain ⟨e1, e2⟩ := bs_inj a b e
  refine cO_uniq (p := od k) e1.symm rfl ?_
  rw [e2, e1]
theorem psn_of {N : NG} {R od : Nat → Nat} {n k p j : Nat} (hv : vr N R od n) (hk : k < n) (h1 : od k = p) (h2 : cO od k p = j) : psn R od n (bs R p + j) = k := by
  have := psn_eq hv hk
  rw [h1, h2] at this
  exact this
theorem cO_full {N : NG} {R od : Nat → Nat} (hv : vr N R od (bs R (nP N))) : ∀ p, p < nP N → cO od (bs R (nP N)) p = R p := by
  have hsum := vr_sum hv
  have hK := vr_ok hv
  intro p hp
  have aux : ∀ (f g : Nat → Nat) n, (∀ q, q < n → f q ≤ g q) → sumTo (fun q => g q - f q) n + sumTo f n = sumTo g n := by
    intro f g n
    induction n with
    | zero => intro _; rfl
    | succ n ihn =>
      intro hq
      have h1 := ihn (fun q h => hq q (by omega))
      have h2 := hq n (by omega)
      rw [sumTo, sumTo, sumTo]
      show sumTo (fun q => g q - f q) n + (g n - f n) + _ = _
      omega
  have this := aux _ _ _ hK.1
  have e : bs R (nP N) = sumTo R (nP N) := rfl
  have h0 : sumTo (fun q => R q - cO od (bs R (nP N)) q) (nP N) = 0 := by omega
  have h1 : R p - cO od (bs R (nP N)) p = 0 := sumTo_zero.mp h0 p hp
  have h2 := hK.1 p hp
  omega
theorem own_ok {N : NG} {R od : Nat → Nat} (hv : vr N R od (bs R (nP N))) {p : Nat} (hp : p < nP N) : ∀ k, k ≤ R p → ∀ e, e ∈ own R p k → edOK (bs R (nP N)) (psn R od (bs R (nP N))) e := by
  intro k
  induction k with
  | zero => intro _ e h; cases h
  | succ k ih =>
    intro hk e h
    rw [own] at h
    rcases List.mem_append.mp h with h | h
    · exact ih (by omega) e h
    · rw [List.mem_singleton.mp h]
      have b1 := bs_lt (n := nP N) hp (show k < R p by omega)
      by_cases z : k = 0
      · rw [if_pos z, if_pos z]
        have b2 := bs_lt (n := nP N) hp (show R p - 1 < R p by omega)
        exact ⟨b1, b2, by show 1 ≤ 60; omega, fun q => by cases q⟩
      · rw [if_neg z, if_neg z]
        have b2 := bs_lt (n := nP N) hp (show k - 1 < R p by omega)
        refine ⟨b1, b2, by show 0 ≤ 60; omega, fun _ => ?_⟩
        show psn R od (bs R (nP N)) (bs R p + (k - 1)) < psn R od (bs R (nP N)) (bs R p + k)
        obtain ⟨i, h1, h2, h3⟩ := cO_ex (od := od) (p := p) (k := bs R (nP N)) (j := k) (by rw [cO_full hv p hp]; omega)
        obtain ⟨i', g1, g2, g3⟩ := cO_ex (od := od) (p := p) (k := i) (j := k - 1) (by omega)
        rw [psn_of hv h1 h2 h3, psn_of hv (by omega) g2 g3]
        exact g1
theorem lnE_ok {N : NG} {R od : Nat → Nat} (hN : NOK N) (hB : RBal N R) (hv : vr N R od (bs R (nP N))) {l : Nat} (hl : l < nL N) : ∀ k, k ≤ R (nT N l) → ∀ e, e ∈ lnE N R l k → edOK (bs R (nP N)) (psn R od (bs R (nP N))) e := by
  obtain ⟨f1, f2, f3⟩ := hN.2.2.1 l hl
  intro k
  induction k with
  | zero => intro _ e h; cases h
  | succ k ih =>
    intro hk e h
    rw [lnE] at h
    rcases List.mem_append.mp h with h | h
    · exact ih (by omega) e h
    · split at h
      · cases h
      · rename_i z
        rw [List.mem_singleton.mp h]
        have n1 : tN N l (k + 1) = tN N l k + nK N l (k % nH N (nT N l)) := rfl
        have n2 := tN_mono (N := N) (l := l) hk
        have n3 := (hB.2 l hl).1
        have hg := gvr_ex (N := N) (R := R) (l := l) (need := tN N l (k + 1)) (by omega) (by omega)
        have b1 := bs_lt (n := nP N) f2 (show k < R (nT N l) by omega)
        have b2 := bs_lt (n := nP N) f1 hg.1
        refine ⟨b1, b2, ?_, fun q0 => ?_⟩
        · show gq N R l (tN N l (k + 1)) ≤ 60
          unfold gq
          split
          · omega
          · have : (nS N l - tN N l (k + 1)) / gN N l (R (nF N l)) ≤ nS N l - tN N l (k + 1) := Nat.div_le_self _ _
            omega
        · have q0 : gq N R l (tN N l (k + 1)) = 0 := q0
          rw [q0] at hg
          obtain ⟨g1, g2, g3⟩ := hg
          show psn R od (bs R (nP N)) (bs R (nF N l) + gu N R l (tN N l (k + 1))) < psn R od (bs R (nP N)) (bs R (nT N l) + k)
          obtain ⟨i, h1, h2, h3⟩ := cO_ex (od := od) (p := nT N l) (k := bs R (nP N)) (j := k) (by rw [cO_full hv _ f2]; omega)
          have he := (hv i h1).2.2 l hl h2.symm
          rw [h2, h3] at he
          have hlt : gu N R l (tN N l (k + 1)) < cO od i (nF N l) := by
            refine Nat.lt_of_not_le fun c => ?_
            have := gN_mono (N := N) (l := l) c
            omega
          obtain ⟨i', g1, g2, g3⟩ := cO_ex (od := od) (p := nF N l) (k := i) hlt
          rw [psn_of hv h1 h2 h3, psn_of hv (by omega) g2 g3]
          exact g1
theorem ownA_ok {N : NG} {R od : Nat → Nat} (hv : vr N R od (bs R (nP N))) : ∀ p, p ≤ nP N → ∀ e, e ∈ ownA R p → edOK (bs R (nP N)) (psn R od (bs R (nP N))) e := by
  intro p
  induction p with
  | zero => intro _ e h; cases h
  | succ p ih =>
    intro hp e h
    rw [ownA] at h
    rcases List.mem_append.mp h with h | h
    · exact ih (by omega) e h
    · exact own_ok hv (by omega) _ (Nat.le_refl _) e h
theorem lnA_ok {N : NG} {R od : Nat → Nat} (hN : NOK N) (hB : RBal N R) (hv : vr N R od (bs R (nP N))) : ∀ l, l ≤ nL N → ∀ e, e ∈ lnA N R l → edOK (bs R (nP N)) (psn R od (bs R (nP N))) e := by
  intro l
  induction l with
  | zero => intro _ e h; exact ownA_ok hv _ (Nat.le_refl _) e h
  | succ l ih =>
    intro hl e h
    rw [lnA] at h
    rcases List.mem_append.mp h with h | h
    · exact ih (by omega) e h
    · exact lnE_ok hN hB hv (by omega) _ (Nat.le_refl _) e h
