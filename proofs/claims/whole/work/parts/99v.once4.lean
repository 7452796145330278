/-! once: the items -/
def its (R rw : Nat → Nat) (sp : Nat → Nat → Nat) : Nat → Nat → Nat → Nat → List Int32
  | 0, _, _, _ => []
  | f + 1, i, j, a => (if gcR R rw i j / a ≤ 1 then [] else [nI (gcR R rw i j / a + 1)]) ++ (if i = j then [(-1) - nI (rw i)] else its R rw sp f i (sp i j) (gcR R rw i j) ++ its R rw sp f (sp i j + 1) j (gcR R rw i j)) ++ (if gcR R rw i j / a ≤ 1 then [] else [0])
def SPok (N : NG) (sp : Nat → Nat → Nat) : Prop := ∀ i j, i < j → j < nP N → i ≤ sp i j ∧ sp i j < j
theorem its_len {N : NG} {R rw : Nat → Nat} {sp : Nat → Nat → Nat} (hs : SPok N sp) : ∀ f i j a, i ≤ j → j < nP N → (its R rw sp f i j a).length ≤ 5 * (j - i) + 3 := by
  intro f
  induction f with
  | zero => intro i j a _ _; exact Nat.zero_le _
  | succ f ih =>
    intro i j a hij hj
    rw [its, List.length_append, List.length_append]
    have e1 : (if gcR R rw i j / a ≤ 1 then ([] : List Int32) else [nI (gcR R rw i j / a + 1)]).length ≤ 1 := by split <;> simp
    have e2 : (if gcR R rw i j / a ≤ 1 then ([] : List Int32) else [0]).length ≤ 1 := by split <;> simp
    have e3 : (if i = j then [(-1) - nI (rw i)] else its R rw sp f i (sp i j) (gcR R rw i j) ++ its R rw sp f (sp i j + 1) j (gcR R rw i j)).length ≤ 5 * (j - i) + 1 := by
      by_cases e : i = j
      · rw [if_pos e]; show 1 ≤ _; omega
      · rw [if_neg e, List.length_append]
        obtain ⟨s1, s2⟩ := hs i j (by omega) hj
        have h1 := ih i (sp i j) (gcR R rw i j) s1 (by omega)
        have h2 := ih (sp i j + 1) j (gcR R rw i j) (by omega) hj
        omega
    omega
def IC (M : tM) (L : List Int32) : Prop := mI M 6 0 7 = nI L.length ∧ ∀ t, t < L.length → mI M 706 0 t = L.getD t 0
def IX (X : tM) (L : List Int32) : Prop := mI X 11 0 60 = nI L.length ∧ ∀ t, t < L.length → mI X 1259 0 t = L.getD t 0
theorem c_item {M : tM} {L : List Int32} {v : Int32} (hl : Len M) (h : IC M L) (hL : L.length < 60) : Ok (fX6_writeItem v M) (fun m => Fr [706, 70007] M m ∧ IC m (L ++ [v])) := by
  rw [fX6_writeItem, ln706 hl, h.1, if_neg (nI_ge hL (by omega)), chk_nI (by omega) (by omega), bnd_eq, bnd_eq, nI_clamp (by omega), mI_sI, if_neg (by simp), h.1, nI_1]
  refine ok_some ⟨(Fr.refl.wI (by decide)).wIo (by decide), ?_, fun t ht => ?_⟩
  · rw [mI_sI, if_pos ⟨rfl, rfl, rfl⟩, List.length_append]; rfl
  · rw [List.length_append] at ht
    rw [mI_sI, if_neg (by simp), mI_sI, getD_snoc ht]
    by_cases e : t = L.length
    · rw [if_pos ⟨rfl, rfl, e⟩, if_pos e]
    · rw [if_neg (fun q => e q.2.2), if_neg e]
      exact h.2 t (by have : t < L.length + 1 := ht; omega)
theorem m_item {X : tM} {L : List Int32} {v : Int32} (hl : Len X) (h : IX X L) (hL : L.length < 200) : Ok (fX11_item v X) (fun m => Fr [1259, 120060] X m ∧ IX m (L ++ [v])) := by
  rw [fX11_item, ln1259 hl, h.1, chk_nI (by omega) (by omega), bnd_eq, bnd_eq, nI_clamp (by omega), mI_sI, if_neg (by simp), h.1, nI_1]
  refine ok_some ⟨(Fr.refl.wI (by decide)).wIo (by decide), ?_, fun t ht => ?_⟩
  · rw [mI_sI, if_pos ⟨rfl, rfl, rfl⟩, List.length_append]; rfl
  · rw [List.length_append] at ht
    rw [mI_sI, if_neg (by simp), mI_sI, getD_snoc ht]
    by_cases e : t = L.length
    · rw [if_pos ⟨rfl, rfl, e⟩, if_pos e]
    · rw [if_neg (fun q => e q.2.2), if_neg e]
      exact h.2 t (by have : t < L.length + 1 := ht; omega)
/-- the class's rows and tables -/
def TC (M : tM) (N : NG) (R rw : Nat → Nat) (sp : Nat → Nat → Nat) : Prop := (∀ i, i < nP N → mI M 701 0 i = nI (rw i)) ∧ GC3 M 703 N R rw (nP N) ∧ ∀ i j, i < j → j < nP N → mI M 705 0 (12 * i + j) = nI (sp i j)
theorem TC.fr {ks : List Nat} {M M2 : tM} {N : NG} {R rw : Nat → Nat} {sp : Nat → Nat → Nat} (h : TC M N R rw sp) (hF : Fr ks M M2) (hd : disj ks [701, 703, 705] = true) : TC M2 N R rw sp := by
  simp only [TC, GC3] at h ⊢
  simp only [hF.gI hd 701 (by decide), hF.gI hd 703 (by decide), hF.gI hd 705 (by decide)]
  exact h
theorem c_times {M : tM} {N : NG} {R rw : Nat → Nat} {i j a : Nat} (hN : NOK N) (hl : Len M) (h : ROK N R rw) (hg : GC3 M 703 N R rw (nP N)) (hij : i ≤ j) (hj : j < nP N) (ha : 1 ≤ a) (ha2 : a ≤ 1000) : fX6_timesWithin (nI i) (nI j) (nI a) M = some (nI (gcR R rw i j / a)) := by
  have hb := hN.1
  have hgv := gcR_ok h hij hj
  have emax : fJ9_max_7cf53 (nI a) 1 M = some (nI a) := by
    rw [fJ9_max_7cf53, if_neg (show ¬ nI a < (1 : Int32) from nI_nlt (b := 1) ha (by omega))]
  rw [fX6_timesWithin, ix12, ln703 hl, chk_nI (by omega) (by omega), emax, Option.bind_some, chk_tr (show nz4 (nI a) = true from decide_eq_true (nI_ne0 (by omega) (by omega))), nI_clamp (by omega), hg i j (by omega) hij hj, pk_div (by omega) (by omega) (by omega)]
theorem dvd_le {a g : Nat} (hd : a ∣ g) (h : 1 ≤ g) : 1 ≤ a ∧ a ≤ g ∧ 1 ≤ g / a ∧ a * (g / a) = g := by
  have h1 := Nat.pos_of_dvd_of_pos hd h
  have h2 := Nat.le_of_dvd h hd
  exact ⟨h1, h2, Nat.div_pos h2 h1, Nat.mul_div_cancel' hd⟩
theorem c_write {N : NG} {R rw : Nat → Nat} {sp : Nat → Nat → Nat} (hN : NOK N) (h : ROK N R rw) (hs : SPok N sp) : ∀ f i j a dep L M, i ≤ j → j < nP N → j - i < f → dep + (j - i) ≤ 12 → a ∣ gcR R rw i j → L.length + 5 * (j - i) + 3 ≤ 60 → Len M → TC M N R rw sp → IC M L →
    Ok (fX6_writeRow f (nI i) (nI j) (nI a) (nI dep) M) (fun m => Fr [706, 70007] M m ∧ IC m (L ++ its R rw sp f i j a)) := by
  have hb := hN.1
  intro f
  induction f with
  | zero => intro i j a dep L M _ _ h; omega
  | succ f ih =>
    intro i j a dep L M hij hj hf hdep hd hL hl hT hI
    have hgv := gcR_ok h hij hj
    obtain ⟨a1, a2, n1, ea⟩ := dvd_le hd hgv.1
    have nb : gcR R rw i j / a ≤ 1000 := Nat.le_trans (Nat.div_le_self _ _) hgv.2
    rw [fX6_writeRow, fX6_writeRow_b, if_pos (show nI dep ≤ (12 : Int32) from nI_le (b := 12) (by omega) (by omega)), c_times hN hl h hT.2.1 hij hj a1 (by omega), Option.bind_some, its]
    refine ok_call (P := fun m => Fr [706, 70007] M m ∧ IC m (L ++ (if gcR R rw i j / a ≤ 1 then [] else [nI (gcR R rw i j / a + 1)]))) ?_ ?_
    · by_cases c : gcR R rw i j / a ≤ 1
      · rw [if_pos (show nI (gcR R rw i j / a) ≤ (1 : Int32) from nI_le (b := 1) c (by omega)), if_pos c, List.append_nil]
        exact ok_some ⟨Fr.refl, hI⟩
      · rw [if_neg (show ¬ nI (gcR R rw i j / a) ≤ (1 : Int32) from nI_ge (a := 1) (by omega) (by omega)), if_neg c, nI_1]
        exact ok_call (c_item hl hI (by omega)) (fun m h => ok_some h)
    rintro M1 ⟨F1, I1⟩
    have len1 : (L ++ (if gcR R rw i j / a ≤ 1 then [] else [nI (gcR R rw i j / a + 1)])).length ≤ L.length + 1 := by
      rw [List.length_append]
      split <;> simp
    have hl1 := hl.fr F1
    have hT1 := hT.fr F1 (by decide)
    refine ok_call (P := fun m => Fr [706, 70007] M m ∧ IC m (L ++ (if gcR R rw i j / a ≤ 1 then [] else [nI (gcR R rw i j / a + 1)]) ++ (if i = j then [(-1) - nI (rw i)] else its R rw sp f i (sp i j) (gcR R rw i j) ++ its R rw sp f (sp i j + 1) j (gcR R rw i j)))) ?_ ?_
    · by_cases e : i = j
      · subst e
        rw [if_pos rfl, if_pos rfl, F1.n, ln701 hl, chk_nI (by omega) (by omega), nI_clamp (by omega), hT1.1 i hj]
        refine ok_call (c_item hl1 I1 (by omega)) ?_
        rintro m ⟨F2, I2⟩
        exact ok_some ⟨F1.step F2 (by decide), I2⟩
      · obtain ⟨s1, s2⟩ := hs i j (by omega) hj
        have d1 : gcR R rw i j ∣ gcR R rw i (sp i j) := gcR_sub (Nat.le_refl _) s1 (by omega)
        have d2 : gcR R rw i j ∣ gcR R rw (sp i j + 1) j := gcR_sub (by omega) (by omega) (Nat.le_refl _)
        have l1 := its_len (R := R) (rw := rw) hs f i (sp i j) (gcR R rw i j) s1 (by omega)
        have em : nI a * nI (gcR R rw i j / a) = nI (gcR R rw i j) := by rw [pk_mul, ea]
        rw [if_neg (nI_ne (by omega) (by omega) e), if_neg e, ix12, F1.n, ln705 hl, chk_nI (by omega) (by omega), bnd_eq, nI_clamp (by omega), hT1.2.2 i j (by omega) hj, em, nI_1, nI_1]
        refine ok_call (ih i (sp i j) (gcR R rw i j) (dep + 1) _ M1 s1 (by omega) (by omega) (by omega) d1 (by omega) hl1 hT1 I1) ?_
        rintro M2 ⟨F2, I2⟩
        refine ok_call (ih (sp i j + 1) j (gcR R rw i j) (dep + 1) _ M2 (by omega) hj (by omega) (by omega) d2 (by rw [List.length_append]; omega) (hl1.fr F2) (hT1.fr F2 (by decide)) I2) ?_
        rintro M3 ⟨F3, I3⟩
        rw [List.append_assoc] at I3
        exact ok_some ⟨(F1.step F2 (by decide)).step F3 (by decide), I3⟩
    rintro M2 ⟨F2, I2⟩
    by_cases c : gcR R rw i j / a ≤ 1
    · rw [if_pos c, if_pos c] at *
      rw [if_pos (show nI (gcR R rw i j / a) ≤ (1 : Int32) from nI_le (b := 1) c (by omega))]
      refine ok_some ⟨F2, ?_⟩
      rw [List.append_nil, List.nil_append]
      rw [List.append_nil] at I2
      exact I2
    · have ll := its_len (R := R) (rw := rw) hs (f + 1) i j a hij hj
      rw [its, if_neg c, if_neg c, List.length_append, List.length_append] at ll
      rw [if_neg c] at I2
      rw [if_neg c, if_neg c, if_neg (show ¬ nI (gcR R rw i j / a) ≤ (1 : Int32) from nI_ge (a := 1) (by omega) (by omega))]
      refine ok_call (c_item (v := 0) (hl.fr F2) I2 ?_) ?_
      · rw [List.length_append, List.length_append]
        have : ([0] : List Int32).length = 1 := rfl
        omega
      · rintro m ⟨F3, I3⟩
        refine ok_some ⟨F2.step F3 (by decide), ?_⟩
        rw [← List.append_assoc, ← List.append_assoc]
        exact I3
/-- the model's -/
def TX (X : tM) (N : NG) (R rw : Nat → Nat) (sp : Nat → Nat → Nat) : Prop := (∀ i, i < nP N → mI X 1254 0 i = nI (rw i)) ∧ GC3 X 1256 N R rw (nP N) ∧ ∀ i j, i < j → j < nP N → mI X 1258 0 (12 * i + j) = nI (sp i j)
theorem TX.fr {ks : List Nat} {M M2 : tM} {N : NG} {R rw : Nat → Nat} {sp : Nat → Nat → Nat} (h : TX M N R rw sp) (hF : Fr ks M M2) (hd : disj ks [1254, 1256, 1258] = true) : TX M2 N R rw sp := by
  simp only [TX, GC3] at h ⊢
  simp only [hF.gI hd 1254 (by decide), hF.gI hd 1256 (by decide), hF.gI hd 1258 (by decide)]
  exact h
theorem ix3 (t c : Nat) : 3 * nI t + nI c = nI (3 * t + c) := by rw [L32 3, pk_mul, nI_add]
def kWr : List Nat := [1259, 1261, 120060]
set_option maxHeartbeats 1000000 in
theorem m_write {N : NG} {R rw : Nat → Nat} {sp : Nat → Nat → Nat} (hN : NOK N) (h : ROK N R rw) (hs : SPok N sp) (Q : tM → Prop) : ∀ f i j a t L n X, i ≤ j → j < nP N → j - i < f → t + 2 * (j - i) + 1 ≤ 60 → a ∣ gcR R rw i j → L.length + 5 * (j - i) + 3 ≤ 190 → 4 * (j - i) + 2 ≤ n → Len X → TX X N R rw sp → IX X L → mI X 1261 0 (3 * t) = nI i → mI X 1261 0 (3 * t + 1) = nI j → mI X 1261 0 (3 * t + 2) = nI a →
    (∀ n' X', n ≤ n' + 4 * (j - i) + 2 → Fr kWr X X' → IX X' (L ++ its R rw sp f i j a) → (∀ u, u < 3 * t → mI X' 1261 0 u = mI X 1261 0 u) → Ok (fX11_write_l33 n' (nI t) X') Q) → Ok (fX11_write_l33 n (nI (t + 1)) X) Q := by
  have hb := hN.1
  intro f
  induction f with
  | zero => intro i j a t L n X _ _ h; omega
  | succ f ih =>
    intro i j a t L n X hij hj hf ht hd hL hn hl hT hI w0 w1 w2 cont
    obtain ⟨n, rfl⟩ : ∃ m, n = m + 1 := ⟨n - 1, by omega⟩
    have hgv := gcR_ok h hij hj
    obtain ⟨a1, a2, n1, ea⟩ := dvd_le hd hgv.1
    have nb : gcR R rw i j / a ≤ 1000 := Nat.le_trans (Nat.div_le_self _ _) hgv.2
    have em : nI (t + 1) + (-1) = nI t := pk_m1 t
    have e30 : 3 * nI t = nI (3 * t) := by rw [L32 3, pk_mul]
    have e31 : nI (3 * t) + 1 = nI (3 * t + 1) := nI_1 _
    have e32 : nI (3 * t) + 2 = nI (3 * t + 2) := by rw [L32 2, nI_add]
    rw [fX11_write_l33, if_neg (nI_nle (by omega) (by omega)), bnd_eq, em, e30, ln1261 hl, chk_nI (by omega) (by omega), bnd_eq, nI_clamp (show 3 * t < 2 ^ 31 by omega), w0, e31, chk_nI (by omega) (by omega), bnd_eq, nI_clamp (show 3 * t + 1 < 2 ^ 31 by omega), w1, e32, chk_nI (by omega) (by omega), bnd_eq, nI_clamp (show 3 * t + 2 < 2 ^ 31 by omega), w2, if_pos (nI_pos' (by omega)), ix12', ln1256 hl, chk_nI (by omega) (by omega), bnd_eq, nI_clamp (show 12 * i + j < 2 ^ 31 by omega), hT.2.1 i j (by omega) hij hj, chk_tr (show nz4 (nI a) = true from decide_eq_true (nI_ne0 (by omega) (by omega))), bnd_eq, pk_div (by omega) (by omega) (by omega)]
    rw [its] at cont
    refine ok_call (P := fun m => Fr [1259, 120060] X m ∧ IX m (L ++ (if gcR R rw i j / a ≤ 1 then [] else [nI (gcR R rw i j / a + 1)]))) ?_ ?_
    · by_cases c : gcR R rw i j / a ≤ 1
      · rw [if_pos (show nI (gcR R rw i j / a) ≤ (1 : Int32) from nI_le (b := 1) c (by omega)), if_pos c, List.append_nil]
        exact ok_some ⟨Fr.refl, hI⟩
      · rw [if_neg (show ¬ nI (gcR R rw i j / a) ≤ (1 : Int32) from nI_ge (a := 1) (by omega) (by omega)), if_neg c, nI_1]
        exact ok_call (m_item hl hI (by omega)) (fun m h => ok_some h)
    rintro X1 ⟨F1, I1⟩
    have len1 : (L ++ (if gcR R rw i j / a ≤ 1 then [] else [nI (gcR R rw i j / a + 1)])).length ≤ L.length + 1 := by
      rw [List.length_append]
      split <;> simp
    have hl1 := hl.fr F1
    have hT1 := hT.fr F1 (by decide)
    by_cases e : i = j
    · subst e
      rw [if_pos rfl, F1.n, ln1254 hl, chk_nI (by omega) (by omega), nI_clamp (by omega), hT1.1 i hj]
      refine ok_call (m_item hl1 I1 (by omega)) ?_
      rintro X2 ⟨F2, I2⟩
      have G2 : Fr kWr X X2 := (F1.mono (by decide)).step F2 (by decide)
      rw [if_pos rfl] at cont
      by_cases c : gcR R rw i i / a ≤ 1
      · rw [if_pos (show nI (gcR R rw i i / a) ≤ (1 : Int32) from nI_le (b := 1) c (by omega))]
        rw [if_pos c] at I2
        rw [if_pos c, if_pos c] at cont
        refine cont n X2 (by omega) G2 ?_ (fun u _ => by rw [F2.aI (by decide), F1.aI (by decide)])
        rw [List.append_nil, List.nil_append]
        rw [List.append_nil] at I2
        exact I2
      · rw [if_neg (show ¬ nI (gcR R rw i i / a) ≤ (1 : Int32) from nI_ge (a := 1) (by omega) (by omega))]
        rw [if_neg c] at I2 len1
        rw [if_neg c, if_neg c] at cont
        refine ok_call (m_item (v := 0) (hl1.fr F2) I2 (by rw [List.length_append]; have : ([-1 - nI (rw i)] : List Int32).length = 1 := rfl; omega)) ?_
        rintro X3 ⟨F3, I3⟩
        refine cont n X3 (by omega) (G2.step F3 (by decide)) ?_ (fun u _ => by rw [F3.aI (by decide), F2.aI (by decide), F1.aI (by decide)])
        rw [← List.append_assoc, ← List.append_assoc]
        exact I3
    obtain ⟨s1, s2⟩ := hs i j (by omega) hj
    have d1 : gcR R rw i j ∣ gcR R rw i (sp i j) := gcR_sub (Nat.le_refl _) s1 (by omega)
    have d2 : gcR R rw i j ∣ gcR R rw (sp i j + 1) j := gcR_sub (by omega) (by omega) (Nat.le_refl _)
    have l1 := its_len (R := R) (rw := rw) hs f i (sp i j) (gcR R rw i j) s1 (by omega)
    have l2 := its_len (R := R) (rw := rw) hs f (sp i j + 1) j (gcR R rw i j) (by omega) hj
    rw [if_neg (nI_ne (by omega) (by omega) e)]
    rw [if_neg e] at cont
    -- both children, pushed at b and b + 1
    have kids : ∀ b Xb, (t ≤ b ∧ b ≤ t + 1) → Fr kWr X1 Xb → IX Xb (L ++ (if gcR R rw i j / a ≤ 1 then [] else [nI (gcR R rw i j / a + 1)])) → mI Xb 1261 0 (3 * b) = nI (sp i j + 1) → mI Xb 1261 0 (3 * b + 1) = nI j → mI Xb 1261 0 (3 * b + 2) = nI (gcR R rw i j) → mI Xb 1261 0 (3 * (b + 1)) = nI i → mI Xb 1261 0 (3 * (b + 1) + 1) = nI (sp i j) → mI Xb 1261 0 (3 * (b + 1) + 2) = nI (gcR R rw i j) →
        (∀ n' X', n ≤ n' + 4 * (j - i) → Fr kWr X1 X' → IX X' (L ++ (if gcR R rw i j / a ≤ 1 then [] else [nI (gcR R rw i j / a + 1)]) ++ (its R rw sp f i (sp i j) (gcR R rw i j) ++ its R rw sp f (sp i j + 1) j (gcR R rw i j))) → (∀ u, u < 3 * b → mI X' 1261 0 u = mI Xb 1261 0 u) → Ok (fX11_write_l33 n' (nI b) X') Q) → Ok (fX11_write_l33 n (nI (b + 1 + 1)) Xb) Q := fun b Xb hbt Fb Ib r0 r1 r2 q0 q1 q2 ct => by
      refine ih i (sp i j) (gcR R rw i j) (b + 1) _ n Xb s1 (by omega) (by omega) (by omega) d1 (by omega) (by omega) (hl1.fr Fb) (hT1.fr Fb (by decide)) Ib q0 q1 q2 ?_
      intro n' X' c1 c2 c3 c4
      refine ih (sp i j + 1) j (gcR R rw i j) b _ n' X' (by omega) hj (by omega) (by omega) d2 (by rw [List.length_append]; omega) (by omega) ((hl1.fr Fb).fr c2) ((hT1.fr Fb (by decide)).fr c2 (by decide)) c3 ((c4 _ (by omega)).trans r0) ((c4 _ (by omega)).trans r1) ((c4 _ (by omega)).trans r2) ?_
      intro n2 X2 c5 c6 c7 c8
      rw [List.append_assoc] at c7
      exact ct n2 X2 (by omega) ((Fb.step c2 (by decide)).step c6 (by decide)) c7 (fun u hu => (c8 u hu).trans (c4 u (by omega)))
    -- the pushes themselves
    have push : ∀ b Xc, (t ≤ b ∧ b ≤ t + 1) → Fr kWr X1 Xc → (∀ Xb, Fr [1261] Xc Xb → (∀ u, u < 3 * b → mI Xb 1261 0 u = mI Xc 1261 0 u) → mI Xb 1261 0 (3 * b) = nI (sp i j + 1) → mI Xb 1261 0 (3 * b + 1) = nI j → mI Xb 1261 0 (3 * b + 2) = nI (gcR R rw i j) → mI Xb 1261 0 (3 * (b + 1)) = nI i → mI Xb 1261 0 (3 * (b + 1) + 1) = nI (sp i j) → mI Xb 1261 0 (3 * (b + 1) + 2) = nI (gcR R rw i j) → Ok (fX11_write_l33 n (nI (b + 1 + 1)) Xb) Q) →
        Ok (chk (inb (nI (12 * i + j)) (mN Xc 1258 0)) <| chk (inb (3 * nI b) (mN Xc 1261 0)) <| bnd (sI Xc 1261 0 ((3 * nI b).toNatClampNeg) ((mI Xc 1258 0 (12 * i + j)) + 1)) fun M33 => chk (inb ((3 * nI b) + 1) (mN M33 1261 0)) <| bnd (sI M33 1261 0 (((3 * nI b) + 1).toNatClampNeg) (nI j)) fun M35 => chk (inb ((3 * nI b) + 2) (mN M35 1261 0)) <| bnd (sI M35 1261 0 (((3 * nI b) + 2).toNatClampNeg) (nI (gcR R rw i j))) fun M37 => bnd (nI b + 1) fun x38 => chk (inb (3 * x38) (mN M37 1261 0)) <| bnd (sI M37 1261 0 ((3 * x38).toNatClampNeg) (nI i)) fun M40 => chk (inb (nI (12 * i + j)) (mN M40 1258 0)) <| chk (inb ((3 * x38) + 1) (mN M40 1261 0)) <| bnd (sI M40 1261 0 (((3 * x38) + 1).toNatClampNeg) (mI M40 1258 0 (12 * i + j))) fun M43 => chk (inb ((3 * x38) + 2) (mN M43 1261 0)) <| bnd (sI M43 1261 0 (((3 * x38) + 2).toNatClampNeg) (nI (gcR R rw i j))) fun M45 => bnd (x38 + 1) fun x46 => fX11_write_l33 n x46 M45) Q := fun b Xc hbt Fc ct => by
      have Gc : Fr kWr X Xc := (F1.mono (by decide)).step Fc (by decide)
      have b30 : 3 * nI b = nI (3 * b) := by rw [L32 3, pk_mul]
      have b31 : nI (3 * b) + 1 = nI (3 * b + 1) := nI_1 _
      have b32 : nI (3 * b) + 2 = nI (3 * b + 2) := by rw [L32 2, nI_add]
      have c30 : 3 * nI (b + 1) = nI (3 * (b + 1)) := by rw [L32 3, pk_mul]
      have c31 : nI (3 * (b + 1)) + 1 = nI (3 * (b + 1) + 1) := nI_1 _
      have c32 : nI (3 * (b + 1)) + 2 = nI (3 * (b + 1) + 2) := by rw [L32 2, nI_add]
      have v58 : mI Xc 1258 0 (12 * i + j) = nI (sp i j) := (hT1.fr Fc (by decide)).2.2 i j (by omega) hj
      rw [Gc.n, ln1258 hl, chk_nI (by omega) (by omega), b30, Gc.n, ln1261 hl, chk_nI (by omega) (by omega), bnd_eq, nI_clamp (show 3 * b < 2 ^ 31 by omega), v58, nI_1 (sp i j), b31, mN_sI, Gc.n, ln1261 hl, chk_nI (by omega) (by omega), bnd_eq, nI_clamp (show 3 * b + 1 < 2 ^ 31 by omega), b32, mN_sI, mN_sI, Gc.n, ln1261 hl, chk_nI (by omega) (by omega), bnd_eq, nI_clamp (show 3 * b + 2 < 2 ^ 31 by omega), bnd_eq, nI_1 b, c30, mN_sI, mN_sI, mN_sI, Gc.n, ln1261 hl, chk_nI (by omega) (by omega), bnd_eq, nI_clamp (show 3 * (b + 1) < 2 ^ 31 by omega), mN_sI, mN_sI, mN_sI, mN_sI, Gc.n, ln1258 hl, chk_nI (by omega) (by omega), c31, mN_sI, mN_sI, mN_sI, mN_sI, Gc.n, ln1261 hl, chk_nI (by omega) (by omega), bnd_eq, nI_clamp (show 3 * (b + 1) + 1 < 2 ^ 31 by omega)]
      have v58' : mI (sI (sI (sI (sI Xc 1261 0 (3 * b) (nI (sp i j + 1))) 1261 0 (3 * b + 1) (nI j)) 1261 0 (3 * b + 2) (nI (gcR R rw i j))) 1261 0 (3 * (b + 1)) (nI i)) 1258 0 (12 * i + j) = nI (sp i j) := by
        rw [mI_sI, if_neg (by simp), mI_sI, if_neg (by simp), mI_sI, if_neg (by simp), mI_sI, if_neg (by simp)]; exact v58
      rw [v58', c32, mN_sI, mN_sI, mN_sI, mN_sI, mN_sI, Gc.n, ln1261 hl, chk_nI (by omega) (by omega), bnd_eq, nI_clamp (show 3 * (b + 1) + 2 < 2 ^ 31 by omega), bnd_eq, nI_1 (b + 1)]
      have st : ∀ (Y : tM) k v u, mI (sI Y 1261 0 k v) 1261 0 u = if u = k then v else mI Y 1261 0 u := fun Y k v u => by
        rw [mI_sI]
        by_cases z : u = k
        · rw [if_pos ⟨rfl, rfl, z⟩, if_pos z]
        · rw [if_neg (fun y => z y.2.2), if_neg z]
      refine ct _ ((((((Fr.refl.wI (by decide)).wI (by decide)).wI (by decide)).wI (by decide)).wI (by decide)).wI (by decide)) (fun u hu => ?_) ?_ ?_ ?_ ?_ ?_ ?_
      · rw [st, if_neg (by omega), st, if_neg (by omega), st, if_neg (by omega), st, if_neg (by omega), st, if_neg (by omega), st, if_neg (by omega)]
      · rw [st, if_neg (by omega), st, if_neg (by omega), st, if_neg (by omega), st, if_neg (by omega), st, if_neg (by omega), st, if_pos rfl]
      · rw [st, if_neg (by omega), st, if_neg (by omega), st, if_neg (by omega), st, if_neg (by omega), st, if_pos rfl]
      · rw [st, if_neg (by omega), st, if_neg (by omega), st, if_neg (by omega), st, if_pos rfl]
      · rw [st, if_neg (by omega), st, if_neg (by omega), st, if_pos rfl]
      · rw [st, if_neg (by omega), st, if_pos rfl]
      · rw [st, if_pos rfl]
    have G1 : Fr kWr X X1 := F1.mono (by decide)
    by_cases c : gcR R rw i j / a ≤ 1
    · rw [if_pos (show nI (gcR R rw i j / a) ≤ (1 : Int32) from nI_le (b := 1) c (by omega)), Option.bind_some]
      refine push t X1 ⟨Nat.le_refl _, by omega⟩ Fr.refl ?_
      intro Xb Fb ub r0 r1 r2 q0 q1 q2
      have Fb' : Fr kWr X1 Xb := Fb.mono (by decide)
      refine kids t Xb ⟨Nat.le_refl _, by omega⟩ Fb' ⟨(Fb.oI (by decide)).trans I1.1, fun t ht => (Fb.aI (by decide)).trans (I1.2 t ht)⟩ r0 r1 r2 q0 q1 q2 ?_
      intro n' X' c1 c2 c3 c4
      refine cont n' X' (by omega) (G1.step c2 (by decide)) ?_ (fun u hu => by rw [c4 u hu, ub u hu, F1.aI (by decide)])
      rw [if_pos c] at c3
      rw [if_pos c, if_pos c, List.append_nil, List.nil_append]
      rw [List.append_nil] at c3
      exact c3
    · rw [if_neg (show ¬ nI (gcR R rw i j / a) ≤ (1 : Int32) from nI_ge (a := 1) (by omega) (by omega)), F1.n, ln1261 hl, chk_nI (by omega) (by omega), bnd_eq, bnd_eq, nI_1 t, Option.bind_some]
      have F2 : Fr [1261] X1 (sI X1 1261 0 (3 * t) (-1)) := Fr.refl.wI (by decide)
      have vm : mI (sI X1 1261 0 (3 * t) (-1)) 1261 0 (3 * t) = (-1) := by rw [mI_sI, if_pos ⟨rfl, rfl, rfl⟩]
      have om : ∀ u, u < 3 * t → mI (sI X1 1261 0 (3 * t) (-1)) 1261 0 u = mI X 1261 0 u := fun u hu => by rw [mI_sI, if_neg (by omega), F1.aI (by decide)]
      have I2 : IX (sI X1 1261 0 (3 * t) (-1)) (L ++ (if gcR R rw i j / a ≤ 1 then [] else [nI (gcR R rw i j / a + 1)])) := ⟨(F2.oI (by decide)).trans I1.1, fun t ht => (F2.aI (by decide)).trans (I1.2 t ht)⟩
      generalize sI X1 1261 0 (3 * t) (-1) = X2 at *
      have F2' : Fr kWr X1 X2 := F2.mono (by decide)
      refine push (t + 1) X2 ⟨by omega, Nat.le_refl _⟩ F2' ?_
      intro Xb Fb ub r0 r1 r2 q0 q1 q2
      refine kids (t + 1) Xb ⟨by omega, Nat.le_refl _⟩ (F2'.step Fb (by decide)) ⟨(Fb.oI (by decide)).trans I2.1, fun t ht => (Fb.aI (by decide)).trans (I2.2 t ht)⟩ r0 r1 r2 q0 q1 q2 ?_
      intro n' X' c1 c2 c3 c4
      obtain ⟨m, rfl⟩ : ∃ m, n' = m + 1 := ⟨n' - 1, by omega⟩
      have Gx : Fr kWr X X' := G1.step c2 (by decide)
      have vx : mI X' 1261 0 (3 * t) = (-1) := by rw [c4 _ (by omega), ub _ (by omega)]; exact vm
      rw [fX11_write_l33, if_neg (nI_nle (by omega) (by omega)), bnd_eq, em, e30, Gx.n, ln1261 hl, chk_nI (by omega) (by omega), bnd_eq, nI_clamp (show 3 * t < 2 ^ 31 by omega), vx, e31, chk_nI (by omega) (by omega), bnd_eq, e32, chk_nI (by omega) (by omega), bnd_eq, if_neg (by decide)]
      rw [if_neg c] at c3
      have ll := its_len (R := R) (rw := rw) hs (f + 1) i j a hij hj
      rw [its, if_neg c, if_neg c, if_neg e, List.length_append, List.length_append] at ll
      have l0 : ([0] : List Int32).length = 1 := rfl
      refine ok_call (m_item (v := 0) (hl.fr Gx) c3 (by rw [List.length_append, List.length_append]; omega)) ?_
      rintro X4 ⟨F4, I4⟩
      refine cont m X4 (by omega) (Gx.step F4 (by decide)) ?_ (fun u hu => by rw [F4.aI (by decide), c4 u (by omega), ub u (by omega)]; exact om u hu)
      rw [if_neg c, if_neg c, ← List.append_assoc, ← List.append_assoc]
      exact I4
