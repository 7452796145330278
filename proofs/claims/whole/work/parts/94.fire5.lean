/-! fire: the move, one LINE of the class -/
def LC (M : tM) (l o : Nat) (v : Nat → Int64) : Prop := ∃ h, h < 400 ∧ o ≤ 400 ∧ mI M 4 l 9 = nI o ∧ mI M 4 l 8 = nI h ∧ ∀ i, i < o → mL M 507 l ((h + i) % 400) = v i
def GC (M : tM) (l g : Nat) (w : Nat → Int64) : Prop := mI M 4 l 11 = nI (min g 200) ∧ ∀ i, i < min g 200 → mL M 510 l i = w i
theorem min_l {n m : Nat} {M : tM} (h : n ≤ m) (hm : m < 2 ^ 31) : fJ9_min_7cf53 (nI n) (nI m) M = some (nI n) := by
  rw [fJ9_min_7cf53]
  split <;> first | rfl | (congr 1; apply Int32.toInt_inj.mp; simp only [Int32.le_iff_toInt_le, Int32.lt_iff_toInt_lt, nI_toInt (show n < 2 ^ 31 by omega), nI_toInt hm] at *; omega)
theorem max_r {n : Nat} {M : tM} (hn : n < 2 ^ 31) : fJ9_max_7cf53 0 (nI n) M = some (nI n) := by
  rw [fJ9_max_7cf53, show (0 : Int32) = nI 0 from rfl]
  split <;> first | rfl | (congr 1; apply Int32.toInt_inj.mp; simp only [Int32.le_iff_toInt_le, Int32.lt_iff_toInt_lt, nI_toInt (show 0 < 2 ^ 31 by omega), nI_toInt hn] at *; omega)
theorem s_drop {M : tM} {l o k : Nat} {v : Nat → Int64} (h : LC M l o v) (hk : k ≤ o) : Ok (fX4_drop l (nI k) M) (fun M' => Fr [50008, 50009] M M' ∧ LC M' l (o - k) (fun i => v (i + k)) ∧ ∀ x, ¬ x = l → mI M' 4 x 8 = mI M 4 x 8 ∧ mI M' 4 x 9 = mI M 4 x 9) := by
  obtain ⟨h, hh, ho, h9, h8, hv⟩ := h
  have e : nI h + nI k - (nI h + nI k) / 400 * 400 = nI ((h + k) % 400) := by
    rw [nI_add, L32 400]
    exact pk_rem (by omega) (by omega) (by omega)
  rw [fX4_drop, h9, min_l hk (by omega), Option.bind_some, max_r (by omega), Option.bind_some, chk_tr (by decide), bnd_eq, bnd_eq, h8, e, mI_sI, if_neg (by simp), h9, pk_sub hk]
  refine ok_some ⟨(Fr.refl.wIo (by decide)).wIo (by decide), ⟨(h + k) % 400, by omega, by omega, by simp [mI_sI], by simp [mI_sI], fun i hi => ?_⟩, fun x hx => by simp [mI_sI, hx]⟩
  show _ = v (i + k)
  rw [mL_sI, mL_sI, ← hv (i + k) (by omega)]
  congr 1
  omega
theorem s_put {M : tM} {l o g : Nat} {v w : Nat → Int64} {x : Int64} (h : LC M l o v) (hg : GC M l g w) (ho : o < 400) (n7 : mN M 507 l = 400) (n10 : mN M 510 l = 200) : Ok (fX4_put l x M) (fun M' => Fr [507, 510, 50009, 50011] M M' ∧ LC M' l (o + 1) (fun i => if i = o then x else v i) ∧ GC M' l (g + 1) (fun i => if i = g then x else w i) ∧ ∀ q, ¬ q = l → mI M' 4 q 9 = mI M 4 q 9 ∧ mI M' 4 q 11 = mI M 4 q 11 ∧ ∀ j, mL M' 507 q j = mL M 507 q j ∧ mL M' 510 q j = mL M 510 q j) := by
  obtain ⟨h, hh, -, h9, h8, hv⟩ := h
  obtain ⟨g1, g2⟩ := hg
  have e : nI h + nI o - (nI h + nI o) / 400 * 400 = nI ((h + o) % 400) := by
    rw [nI_add, L32 400]
    exact pk_rem (by omega) (by omega) (by omega)
  rw [fX4_put, h9, if_pos (show nI o < (400 : Int32) from nI_lt (b := 400) ho (by decide)), chk_tr (by decide), h8, e, n7, chk_nI (by omega) (by omega), bnd_eq, bnd_eq, nI_clamp (by omega), mI_sL, h9, nI_1]
  have i11 : mI (sI (sL M 507 l ((h + o) % 400) x) 4 l 9 (nI (o + 1))) 4 l 11 = nI (min g 200) := by simp [mI_sI, mI_sL, g1]
  rw [i11]
  by_cases q : 200 ≤ g
  · rw [if_pos (show (200 : Int32) ≤ nI (min g 200) from nI_le (a := 200) (by omega) (by omega))]
    refine ok_some ⟨((Fr.refl.wL (by decide)).wIo (by decide)), ⟨h, hh, by omega, by simp [mI_sI], by simp [mI_sI, mI_sL, h8], fun i hi => ?_⟩, ⟨?_, fun i hi => ?_⟩, fun y hy => ?_⟩
    · show _ = if i = o then x else v i
      rw [mL_sI, mL_sL]
      by_cases z : i = o
      · rw [if_pos ⟨rfl, rfl, by rw [z]⟩, if_pos z]
      · rw [if_neg (by omega), if_neg z]; exact hv i (by omega)
    · rw [mI_sI, if_neg (by simp), mI_sL, g1]; congr 1; omega
    · show _ = if i = g then x else w i
      rw [mL_sI, mL_sL, if_neg (by simp), if_neg (by omega)]; exact g2 i (by omega)
    · simp [mI_sI, mI_sL, mL_sI, mL_sL, hy]
  · rw [if_neg (show ¬ (200 : Int32) ≤ nI (min g 200) from nI_ge (b := 200) (by omega) (by decide)), mN_sI, mN_sL, n10, chk_nI (by omega) (by omega), bnd_eq, bnd_eq, nI_clamp (by omega), mI_sL, i11, nI_1]
    have em : min g 200 = g := by omega
    rw [em] at g1 g2 ⊢
    refine ok_some ⟨(((Fr.refl.wL (by decide)).wIo (by decide)).wL (by decide)).wIo (by decide), ⟨h, hh, by omega, by simp [mI_sI, mI_sL], by simp [mI_sI, mI_sL, h8], fun i hi => ?_⟩, ⟨?_, fun i hi => ?_⟩, fun y hy => ?_⟩
    · show _ = if i = o then x else v i
      rw [mL_sI, mL_sL, if_neg (by simp), mL_sI, mL_sL]
      by_cases z : i = o
      · rw [if_pos ⟨rfl, rfl, by rw [z]⟩, if_pos z]
      · rw [if_neg (by omega), if_neg z]; exact hv i (by omega)
    · rw [mI_sI, if_pos ⟨rfl, rfl, rfl⟩]; congr 1; omega
    · show _ = if i = g then x else w i
      rw [mL_sI, mL_sL]
      by_cases z : i = g
      · rw [if_pos ⟨rfl, rfl, z⟩, if_pos z]
      · rw [if_neg (by omega), if_neg z, mL_sI, mL_sL, if_neg (by simp)]; exact g2 i (by omega)
    · simp [mI_sI, mI_sL, mL_sI, mL_sL, hy]
