/-! small pieces of the reference -/
theorem L32 (k : Nat) : (OfNat.ofNat k : Int32) = nI k := rfl
theorem ix_cases (a : Int32) {n : Nat} (hn : n < 2 ^ 31) : (∃ j, j < n ∧ a = nI j) ∨ (a < 0 ∨ nI n ≤ a) := by
  rcases pk_ix a hn with h | h | h
  · exact Or.inr (Or.inl h)
  · exact Or.inr (Or.inr h)
  · exact Or.inl h
theorem in_in {a lo hi : Int32} {M : tM} (h1 : ¬ a < lo) (h2 : ¬ hi < a) : fX11_in a lo hi M = some 1 := by
  rw [fX11_in, if_neg h1, if_neg h2]
theorem in_out {a lo hi : Int32} {M : tM} (h : a < lo ∨ hi < a) : fX11_in a lo hi M = some 0 := by
  rw [fX11_in]
  by_cases h1 : a < lo
  · rw [if_pos h1]
  · rw [if_neg h1, if_pos (h.resolve_left h1)]
theorem mPart_in {M : tM} {N : NG} {p : Nat} (hN : NOK N) (h : Gr M N) (hp : p < nP N) : fX11_isPart (nI p) M = some 1 := by
  have h1 := hN.1.1
  rw [fX11_isPart, h.1.1, in_in (nI_pos (by omega)) (by rw [L32 1, pk_sub (by omega)]; exact nI_nlt (by omega) (by omega))]
  rfl
theorem sub1_toInt {n : Nat} (h : n < 2 ^ 30) : (nI n - 1).toInt = (n : Int) - 1 := by
  rw [L32 1, pk_sub_toInt h (by decide)]
  rfl
theorem mPart_out {M : tM} {N : NG} {a : Int32} (hN : NOK N) (h : Gr M N) (ha : a < 0 ∨ nI (nP N) ≤ a) : fX11_isPart a M = some 0 := by
  have h1 := hN.1.1
  rw [fX11_isPart, h.1.1, in_out (ha.imp id (fun q => by
    rw [Int32.lt_iff_toInt_lt, sub1_toInt (by omega)]
    rw [Int32.le_iff_toInt_le, nI_toInt (by omega)] at q
    omega))]
  rfl
theorem sX11_threadsBegin {M : tM} (hl : Len M) : Ok (fX11_threadsBegin M) (fun M' => (∀ t, t < 4 → mI M' 1230 0 t = 0) ∧ Fr [1230] M M') := by
  rw [fX11_threadsBegin]
  refine ok_call (loop0 (fun n i s => fX11_threadsBegin_l2 n i s) 4 (fun i s => (∀ t, t < i → mI s 1230 0 t = 0) ∧ Fr [1230] M s) (fun M' => (∀ t, t < 4 → mI M' 1230 0 t = 0) ∧ Fr [1230] M M') (by omega) ?_ ?_ M ⟨fun t h => by omega, Fr.refl⟩) (fun a h => ok_some h)
  · intro n s h
    rw [fX11_threadsBegin_l2]
    simp (disch := omega) only [L32, nI_leI]
    rw [if_pos (by omega)]
    exact ok_some h
  · intro n i s hi h k
    rw [fX11_threadsBegin_l2]
    simp (disch := omega) only [L32, nI_leI, h.2.n, ln1230 hl, chk_nI, bnd_eq, nI_add, nI_clamp]
    rw [if_neg (by omega)]
    refine k _ ⟨fun t ht => ?_, h.2.wI (by decide)⟩
    rw [mI_sI]
    split
    · rfl
    · exact h.1 t (by omega)
