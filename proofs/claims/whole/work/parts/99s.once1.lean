/-! once: the row -/
def pl (rw : Nat → Nat) (k p : Nat) : Prop := ∃ i, i < k ∧ rw i = p
def fre (N : NG) (rw : Nat → Nat) (k p : Nat) : Prop := p < nP N ∧ ¬ pl rw k p ∧ ∀ l, l < nL N → nT N l = p → pl rw k (nF N l)
def isRw (N : NG) (rw : Nat → Nat) (k : Nat) : Prop := ∀ i, i < k → fre N rw i (rw i) ∧ ∀ q, q < rw i → ¬ fre N rw i q
theorem pl_congr {rw rw' : Nat → Nat} {k p : Nat} (h : ∀ i, i < k → rw i = rw' i) : pl rw k p ↔ pl rw' k p :=
  ⟨fun ⟨i, hi, e⟩ => ⟨i, hi, by rw [← h i hi]; exact e⟩, fun ⟨i, hi, e⟩ => ⟨i, hi, by rw [h i hi]; exact e⟩⟩
theorem fre_congr {N : NG} {rw rw' : Nat → Nat} {k p : Nat} (h : ∀ i, i < k → rw i = rw' i) : fre N rw k p ↔ fre N rw' k p := by
  unfold fre
  rw [pl_congr h]
  constructor
  · rintro ⟨a, b, c⟩; exact ⟨a, b, fun l hl e => (pl_congr h).mp (c l hl e)⟩
  · rintro ⟨a, b, c⟩; exact ⟨a, b, fun l hl e => (pl_congr h).mpr (c l hl e)⟩
theorem rw_uniq {N : NG} {rw rw' : Nat → Nat} {k k' : Nat} (h : isRw N rw k) (h' : isRw N rw' k') : ∀ i, i < k → i < k' → rw i = rw' i := by
  intro i
  induction i using Nat.strongRecOn with
  | ind i ih =>
    intro hi hi'
    have hc : ∀ j, j < i → rw j = rw' j := fun j hj => ih j hj (by omega) (by omega)
    obtain ⟨a1, a2⟩ := h i hi
    obtain ⟨b1, b2⟩ := h' i hi'
    rcases Nat.lt_trichotomy (rw i) (rw' i) with z | z | z
    · exact absurd ((fre_congr hc).mp a1) (b2 _ z)
    · exact z
    · exact absurd ((fre_congr hc).mpr b1) (a2 _ z)
theorem rw_stuck {N : NG} {rw rw' : Nat → Nat} {k k' : Nat} (h : isRw N rw k) (h' : isRw N rw' k') (hk : k < k') (hs : ∀ q, ¬ fre N rw k q) : False := by
  have hc : ∀ j, j < k → rw j = rw' j := fun j hj => rw_uniq h h' j hj (by omega)
  exact hs _ ((fre_congr hc).mpr (h' k hk).1)
/-- class: 701, 702 -/
def RwC (M : tM) (N : NG) (rw : Nat → Nat) (k : Nat) : Prop := (∀ i, i < k → mI M 701 0 i = nI (rw i)) ∧ ∀ p, p < nP N → (pl rw k p → ∃ i, i < k ∧ rw i = p ∧ mI M 702 0 p = nI i) ∧ (¬ pl rw k p → mI M 702 0 p = (-9))
theorem n9 {i : Nat} (h : i < 2 ^ 31) : ¬ nI i = (-9) := fun q => by
  have := congrArg Int32.toInt q
  rw [nI_toInt h, show (-9 : Int32).toInt = -9 by decide] at this
  omega
theorem c_fed {M : tM} {N : NG} {rw : Nat → Nat} {k p : Nat} (hN : NOK N) (hl : Len M) (hC : Cg M M N) (hr : RwC M N rw k) (hk : k ≤ 12) (hp : p < nP N) : (fX6_isFed (some p) M = some 0 ∧ ∀ l, l < nL N → nT N l = p → pl rw k (nF N l)) ∨ (fX6_isFed (some p) M = some 1 ∧ ¬ ∀ l, l < nL N → nT N l = p → pl rw k (nF N l)) := by
  have hb := hN.1
  rw [fX6_isFed, Option.bind_some, bnd_eq, (hC.2.1 p hp).1.2.2.2.2.2.1]
  have key : Ok (fX6_isFed_l5 M FU (nx (nT N) p (nL N) 0)) (fun w => (w = .inr () ∧ ∀ l, l < nL N → nT N l = p → pl rw k (nF N l)) ∨ (w = .inl 1 ∧ ¬ ∀ l, l < nL N → nT N l = p → pl rw k (nF N l))) := by
    refine loopC0 (fun n r (_ : Unit) => fX6_isFed_l5 M n r) (nT N) p (nL N) (fun i _ => ∀ l, l < i → nT N l = p → pl rw k (nF N l)) _ hb.2 ?_ ?_ ?_ () (fun l hl => by omega)
    · intro n _ h
      rw [fX6_isFed_l5, if_pos rfl]
      exact ok_some (Or.inl ⟨rfl, h⟩)
    · intro i _ hi hne h l hl ht
      by_cases e : l = i
      · subst e; exact absurd ht hne
      · exact h l (by omega) ht
    · intro n i _ hi he h kk
      have cl := (hC.2.2.1 i hi).1
      have f1 := (hN.2.2.1 i hi).1
      rw [fX6_isFed_l5, if_neg (by simp), Option.bind_some, bnd_eq, cl.2.2.1, Option.bind_some, (hC.2.1 _ f1).1.2.1, ln702 hl, chk_nI (by omega) (by omega), nI_clamp (by omega)]
      by_cases q : pl rw k (nF N i)
      · obtain ⟨j, hj, -, e⟩ := (hr.2 _ f1).1 q
        rw [e, if_neg (n9 (by omega)), bnd_eq, cl.2.2.2.2.2.1, he]
        refine kk () (fun l hl ht => ?_)
        by_cases z : l = i
        · subst z; exact q
        · exact h l (by omega) ht
      · rw [(hr.2 _ f1).2 q, if_pos rfl]
        exact ok_some (Or.inr ⟨rfl, fun z => q (z i hi he)⟩)
  obtain ⟨w, e, k'⟩ := key
  rw [e, Option.bind_some]
  rcases k' with ⟨rfl, k'⟩ | ⟨rfl, k'⟩
  · exact Or.inl ⟨rfl, k'⟩
  · exact Or.inr ⟨rfl, k'⟩
theorem c_free {M : tM} {N : NG} {rw : Nat → Nat} {k : Nat} (hN : NOK N) (hl : Len M) (hC : Cg M M N) (hr : RwC M N rw k) (hk : k ≤ 12) : (∃ p, fre N rw k p ∧ (∀ q, q < p → ¬ fre N rw k q) ∧ fX6_leastFree M = some (nI p)) ∨ ((∀ q, ¬ fre N rw k q) ∧ fX6_leastFree M = some (-9)) := by
  have hb := hN.1
  have key : Ok (fX6_leastFree_l2 M FU 0) (fun w => (∃ p, fre N rw k p ∧ (∀ q, q < p → ¬ fre N rw k q) ∧ w = .inl (nI p)) ∨ ((∀ q, q < nP N → ¬ fre N rw k q) ∧ w = .inr ())) := by
    refine loop0 (fun n i (_ : Unit) => fX6_leastFree_l2 M n i) (nP N) (fun i _ => ∀ q, q < i → ¬ fre N rw k q) _ (by omega) ?_ ?_ () (fun q hq => by omega)
    · intro n _ h
      rw [fX6_leastFree_l2, hC.1.1, if_pos (nI_le (Nat.le_refl _) (by omega))]
      exact ok_some (Or.inr ⟨h, rfl⟩)
    · intro n i _ hi h kk
      have goon : ¬ fre N rw k i → Ok (bnd (nI i + 1) fun x4 => fX6_leastFree_l2 M n x4) (fun w => (∃ p, fre N rw k p ∧ (∀ q, q < p → ¬ fre N rw k q) ∧ w = .inl (nI p)) ∨ ((∀ q, q < nP N → ¬ fre N rw k q) ∧ w = .inr ())) := fun ne => by
        rw [bnd_eq, nI_1]
        refine kk () (fun q hq => ?_)
        by_cases e : q = i
        · rw [e]; exact ne
        · exact h q (by omega)
      rw [fX6_leastFree_l2, hC.1.1, if_neg (nI_ge hi (by omega)), ln702 hl, chk_nI (by omega) (by omega), nI_clamp (by omega)]
      by_cases q : pl rw k i
      · obtain ⟨j, hj, -, e⟩ := (hr.2 i hi).1 q
        rw [e, if_neg (n9 (by omega))]
        exact goon (fun z => z.2.1 q)
      · rw [(hr.2 i hi).2 q, if_pos rfl, ln200 hl, chk_nI (by omega) (by omega), bnd_eq, (hC.2.1 i hi).1.1]
        rcases c_fed hN hl hC hr hk hi with ⟨e, z⟩ | ⟨e, z⟩
        · rw [e, Option.bind_some, if_pos rfl]
          exact ok_some (Or.inl ⟨i, ⟨hi, q, z⟩, h, rfl⟩)
        · rw [e, Option.bind_some, if_neg (by decide)]
          exact goon (fun y => z y.2.2)
  obtain ⟨w, e, k'⟩ := key
  rw [fX6_leastFree, e, Option.bind_some]
  rcases k' with ⟨p, h1, h2, rfl⟩ | ⟨h1, rfl⟩
  · exact Or.inl ⟨p, h1, h2, rfl⟩
  · exact Or.inr ⟨fun q hq => h1 q hq.1 hq, rfl⟩
theorem pl_succ {rw : Nat → Nat} {k p q : Nat} : pl (upk rw k p) (k + 1) q ↔ pl rw k q ∨ q = p := by
  constructor
  · rintro ⟨i, hi, e⟩
    by_cases z : i = k
    · rw [z, upk_same] at e; exact Or.inr e.symm
    · rw [upk_ne z] at e; exact Or.inl ⟨i, by omega, e⟩
  · rintro (⟨i, hi, e⟩ | e)
    · exact ⟨i, by omega, by rw [upk_ne (by omega)]; exact e⟩
    · exact ⟨k, by omega, by rw [upk_same, e]⟩
theorem rw_succ {N : NG} {rw : Nat → Nat} {k p : Nat} (h : isRw N rw k) (h1 : fre N rw k p) (h2 : ∀ q, q < p → ¬ fre N rw k q) : isRw N (upk rw k p) (k + 1) := fun i hi => by
  by_cases z : i = k
  · subst z
    rw [upk_same]
    exact ⟨(fre_congr upk_lt).mp h1, fun q hq y => h2 q hq ((fre_congr upk_lt).mpr y)⟩
  · rw [upk_ne z]
    have hc : ∀ j, j < i → rw j = upk rw k p j := fun j hj => upk_lt j (by omega)
    obtain ⟨a, b⟩ := h i (by omega)
    exact ⟨(fre_congr hc).mp a, fun q hq y => b q hq ((fre_congr hc).mpr y)⟩
theorem c_row {M : tM} {N : NG} (hN : NOK N) (hl : Len M) (hC : Cg M M N) : Ok (fX6_putInOrder M) (fun w => Fr [701, 702] M w.2 ∧ ((w.1 = 1 ∧ ∃ rw, isRw N rw (nP N) ∧ RwC w.2 N rw (nP N)) ∨ (w.1 = 0 ∧ ∃ rw k, k < nP N ∧ isRw N rw k ∧ ∀ q, ¬ fre N rw k q))) := by
  have hb := hN.1
  rw [fX6_putInOrder]
  refine ok_call (s_fill (k := 702) (i := 0) (n := 12) (v := -9) (by decide) (by decide) (by decide) (ln702 hl) (by decide)) ?_
  rintro M1 ⟨F1, k1, -⟩
  have key : Ok (fX6_putInOrder_l11 FU 0 M1) (fun w => (∃ m rw, w = .inr m ∧ Fr [701, 702] M m ∧ isRw N rw (nP N) ∧ RwC m N rw (nP N)) ∨ ∃ m rw k, w = .inl (0, m) ∧ Fr [701, 702] M m ∧ k < nP N ∧ isRw N rw k ∧ ∀ q, ¬ fre N rw k q) := by
    refine loop0 (fun n i m => fX6_putInOrder_l11 n i m) (nP N) (fun i m => Fr [701, 702] M m ∧ ∃ rw, isRw N rw i ∧ RwC m N rw i) _ (by omega) ?_ ?_ M1 ⟨F1.mono (by decide), fun _ => 0, fun i hi => by omega, fun i hi => by omega, fun p hp => ⟨fun ⟨i, hi, _⟩ => by omega, fun _ => k1 p (by omega)⟩⟩
    · rintro n m ⟨F, rw', h1, h2⟩
      rw [fX6_putInOrder_l11, F.oI (by decide), hC.1.1, if_pos (nI_le (Nat.le_refl _) (by omega))]
      exact ok_some (Or.inl ⟨m, rw', rfl, F, h1, h2⟩)
    · rintro n i m hi ⟨F, rw', h1, h2⟩ kk
      rw [fX6_putInOrder_l11, F.oI (by decide), hC.1.1, if_neg (nI_ge hi (by omega))]
      rcases c_free hN (hl.fr F) (hC.fr F (by decide)) h2 (by omega) with ⟨p, f1, f2, e⟩ | ⟨f1, e⟩
      · have hp := f1.1
        rw [e, Option.bind_some, if_pos (nI_pos' (by omega)), F.n, ln701 hl, chk_nI (by omega) (by omega), bnd_eq, nI_clamp (by omega), mN_sI, F.n, ln702 hl, chk_nI (by omega) (by omega), bnd_eq, nI_clamp (by omega), bnd_eq, nI_1]
        refine kk _ ⟨(F.wI (by decide)).wI (by decide), upk rw' i p, rw_succ h1 f1 f2, fun j hj => ?_, fun q hq => ⟨fun hpl => ?_, fun hnp => ?_⟩⟩
        · rw [mI_sI, if_neg (by simp), mI_sI]
          by_cases z : j = i
          · rw [if_pos ⟨rfl, rfl, z⟩, z, upk_same]
          · rw [if_neg (fun y => z y.2.2), upk_ne z]; exact h2.1 j (by omega)
        · rw [mI_sI]
          by_cases z : q = p
          · exact ⟨i, by omega, by rw [upk_same, z], by rw [if_pos ⟨rfl, rfl, z⟩]⟩
          · rcases pl_succ.mp hpl with y | y
            · obtain ⟨j, hj, e1, e2⟩ := (h2.2 q hq).1 y
              exact ⟨j, by omega, by rw [upk_ne (by omega)]; exact e1, by rw [if_neg (fun y => z y.2.2), mI_sI, if_neg (by simp)]; exact e2⟩
            · exact absurd y z
        · rw [mI_sI, if_neg (fun y => hnp (pl_succ.mpr (Or.inr y.2.2))), mI_sI, if_neg (by simp)]
          exact (h2.2 q hq).2 (fun y => hnp (pl_succ.mpr (Or.inl y)))
      · rw [e, Option.bind_some, if_neg (by decide)]
        exact ok_some (Or.inr ⟨m, rw', i, rfl, F, hi, h1, f1⟩)
  refine ok_call key ?_
  rintro w (⟨m, rw', rfl, F, h1, h2⟩ | ⟨m, rw', k, rfl, F, h1, h2, h3⟩)
  · exact ok_some ⟨F, Or.inl ⟨rfl, rw', h1, h2⟩⟩
  · exact ok_some ⟨F, Or.inr ⟨rfl, rw', k, h1, h2, h3⟩⟩
/-- model: 1254, 1255 -/
def RwX (X : tM) (N : NG) (rw : Nat → Nat) (k : Nat) : Prop := (∀ i, i < k → mI X 1254 0 i = nI (rw i)) ∧ ∀ p, p < nP N → (pl rw k p → mI X 1255 0 p = 1) ∧ (¬ pl rw k p → mI X 1255 0 p = 0)
theorem m_free {X : tM} {N : NG} {rw : Nat → Nat} {k : Nat} {z1 : Int32} (hN : NOK N) (hl : Len X) (hG : Gr X N) (hr : RwX X N rw k) : (∃ p, fre N rw k p ∧ (∀ q, q < p → ¬ fre N rw k q) ∧ fX11_isRow_l38 z1 X FU (-9) 0 = some (nI p)) ∨ ((∀ q, ¬ fre N rw k q) ∧ fX11_isRow_l38 z1 X FU (-9) 0 = some (-9)) := by
  have hb := hN.1
  have key : Ok (fX11_isRow_l38 z1 X FU (-9) 0) (fun y => (∃ p, fre N rw k p ∧ (∀ q, q < p → ¬ fre N rw k q) ∧ y = nI p) ∨ ((∀ q, q < nP N → ¬ fre N rw k q) ∧ y = (-9))) := by
    refine loop0 (fun n i y => fX11_isRow_l38 z1 X n y i) (nP N) (fun i y => (∃ p, fre N rw k p ∧ (∀ q, q < p → ¬ fre N rw k q) ∧ y = nI p) ∨ ((∀ q, q < i → ¬ fre N rw k q) ∧ y = (-9))) _ (by omega) ?_ ?_ (-9) (Or.inr ⟨fun q hq => by omega, rfl⟩)
    · intro n y h
      rw [fX11_isRow_l38, hG.1.1, if_pos (nI_le (Nat.le_refl _) (by omega))]
      exact ok_some h
    · intro n i y hi h kk
      rw [fX11_isRow_l38, hG.1.1, if_neg (nI_ge hi (by omega)), ln1255 hl, chk_nI (by omega) (by omega), nI_clamp (by omega)]
      have zero : fX11_isRow_l69 z1 y (nI i) X FU 0 0 = some 0 := by
        obtain ⟨m, hm⟩ : ∃ m, FU = m + 1 := ⟨FU - 1, by have := FU_lt (n := 0) (by omega); omega⟩
        rw [hm, fX11_isRow_l69, if_pos rfl]
        split <;> rfl
      rcases h with ⟨p, f1, f2, rfl⟩ | ⟨h, rfl⟩
      · have hp := f1.1
        refine ok_call (P := fun x => x = 0) ?_ ?_
        · by_cases q : mI X 1255 0 i = 0
          · rw [if_pos q, if_pos (nI_pos' (by omega))]; exact ok_some rfl
          · rw [if_neg q]; exact ok_some rfl
        · rintro _ rfl
          rw [zero, Option.bind_some, if_pos rfl, Option.bind_some, bnd_eq, nI_1]
          exact kk _ (Or.inl ⟨p, f1, f2, rfl⟩)
      · by_cases q : pl rw k i
        · rw [(hr.2 i hi).1 q, if_neg (by decide), Option.bind_some, zero, Option.bind_some, if_pos rfl, Option.bind_some, bnd_eq, nI_1]
          refine kk _ (Or.inr ⟨fun p hp => ?_, rfl⟩)
          by_cases e : p = i
          · rw [e]; exact fun z => z.2.1 q
          · exact h p (by omega)
        · rw [(hr.2 i hi).2 q, if_pos rfl, if_neg (by decide), Option.bind_some]
          have k69 : Ok (fX11_isRow_l69 z1 (-9) (nI i) X FU 1 0) (fun w => (w = 1 ∧ ∀ l, l < nL N → nT N l = i → pl rw k (nF N l)) ∨ (w = 0 ∧ ¬ ∀ l, l < nL N → nT N l = i → pl rw k (nF N l))) := by
            refine loop0 (fun n j w => fX11_isRow_l69 z1 (-9) (nI i) X n w j) (nL N) (fun j w => (w = 1 ∧ ∀ l, l < j → nT N l = i → pl rw k (nF N l)) ∨ (w = 0 ∧ ¬ ∀ l, l < nL N → nT N l = i → pl rw k (nF N l))) _ (by omega) ?_ ?_ 1 (Or.inl ⟨rfl, fun l hl => by omega⟩)
            · intro n w h
              rw [fX11_isRow_l69, hG.1.2, if_pos (nI_le (Nat.le_refl _) (by omega))]
              exact ok_some h
            · intro n j w hj h kk
              have hg := hG.2.2.1 j hj
              obtain ⟨f1, f2, -⟩ := hN.2.2.1 j hj
              rw [fX11_isRow_l69, hG.1.2, if_neg (nI_ge hj (by omega))]
              rcases h with ⟨rfl, h⟩ | ⟨rfl, h⟩
              · rw [if_neg (by decide), ln1214 hl, chk_nI (by omega) (by omega), nI_clamp (by omega), hg.2.1]
                by_cases e : nT N j = i
                · rw [if_pos (by rw [e]), ln1213 hl, chk_nI (by omega) (by omega), hg.1, ln1255 hl, chk_nI (by omega) (by omega), nI_clamp (by omega)]
                  by_cases z : pl rw k (nF N j)
                  · rw [(hr.2 _ f1).1 z, if_neg (by decide), Option.bind_some, bnd_eq, nI_1]
                    refine kk _ (Or.inl ⟨rfl, fun l hl' e' => ?_⟩)
                    by_cases y : l = j
                    · rw [y]; exact z
                    · exact h l (by omega) e'
                  · rw [(hr.2 _ f1).2 z, if_pos rfl, Option.bind_some, bnd_eq, nI_1]
                    exact kk _ (Or.inr ⟨rfl, fun y => z (y j hj e)⟩)
                · rw [if_neg (fun q => e ((nI_eq (by omega) (by omega)).mp q)), Option.bind_some, bnd_eq, nI_1]
                  refine kk _ (Or.inl ⟨rfl, fun l hl' e' => ?_⟩)
                  by_cases y : l = j
                  · rw [y] at e'; exact absurd e' e
                  · exact h l (by omega) e'
              · rw [if_pos rfl]
                exact ok_some (Or.inr ⟨rfl, h⟩)
          refine ok_call k69 ?_
          rintro w (⟨rfl, z⟩ | ⟨rfl, z⟩)
          · rw [if_neg (by decide), Option.bind_some, bnd_eq, nI_1]
            exact kk _ (Or.inl ⟨i, ⟨hi, q, z⟩, h, rfl⟩)
          · rw [if_pos rfl, Option.bind_some, bnd_eq, nI_1]
            refine kk _ (Or.inr ⟨fun p hp => ?_, rfl⟩)
            by_cases e : p = i
            · rw [e]; exact fun y => z y.2.2
            · exact h p (by omega)
  obtain ⟨w, e, k'⟩ := key
  rcases k' with ⟨p, h1, h2, rfl⟩ | ⟨h1, rfl⟩
  · exact Or.inl ⟨p, h1, h2, e⟩
  · exact Or.inr ⟨fun q hq => h1 q hq.1 hq, e⟩
theorem m_row {X : tM} {N : NG} (hN : NOK N) (hl : Len X) (hG : Gr X N) : Ok (fX11_isRow X) (fun w => Fr [1254, 1255] X w.2 ∧ ((w.1 = 1 ∧ ∃ rw, isRw N rw (nP N) ∧ RwX w.2 N rw (nP N)) ∨ (w.1 = 0 ∧ ∃ rw k, k < nP N ∧ isRw N rw k ∧ ∀ q, ¬ fre N rw k q))) := by
  have hb := hN.1
  rw [fX11_isRow]
  have k0 : Ok (fX11_isRow_l2 FU 0 X) (fun m => Fr [1255] X m ∧ ∀ p, p < nP N → mI m 1255 0 p = 0) := by
    refine loop0 (fun n i m => fX11_isRow_l2 n i m) (nP N) (fun i m => Fr [1255] X m ∧ ∀ p, p < i → mI m 1255 0 p = 0) _ (by omega) ?_ ?_ X ⟨Fr.refl, fun p hp => by omega⟩
    · rintro n m ⟨F, h⟩
      rw [fX11_isRow_l2, F.oI (by decide), hG.1.1, if_pos (nI_le (Nat.le_refl _) (by omega))]
      exact ok_some ⟨F, h⟩
    · rintro n i m hi ⟨F, h⟩ kk
      rw [fX11_isRow_l2, F.oI (by decide), hG.1.1, if_neg (nI_ge hi (by omega)), F.n, ln1255 hl, chk_nI (by omega) (by omega), bnd_eq, bnd_eq, nI_1, nI_clamp (by omega)]
      refine kk _ ⟨F.wI (by decide), fun p hp => ?_⟩
      rw [mI_sI]
      by_cases e : p = i
      · rw [if_pos ⟨rfl, rfl, e⟩]
      · rw [if_neg (fun q => e q.2.2)]; exact h p (by omega)
  refine ok_call k0 ?_
  rintro X1 ⟨F1, k1⟩
  have key : Ok (fX11_isRow_l25 FU 0 X1) (fun w => (∃ m rw, w = .inr m ∧ Fr [1254, 1255] X m ∧ isRw N rw (nP N) ∧ RwX m N rw (nP N)) ∨ ∃ m rw k, w = .inl (0, m) ∧ Fr [1254, 1255] X m ∧ k < nP N ∧ isRw N rw k ∧ ∀ q, ¬ fre N rw k q) := by
    refine loop0 (fun n i m => fX11_isRow_l25 n i m) (nP N) (fun i m => Fr [1254, 1255] X m ∧ ∃ rw, isRw N rw i ∧ RwX m N rw i) _ (by omega) ?_ ?_ X1 ⟨F1.mono (by decide), fun _ => 0, fun i hi => by omega, fun i hi => by omega, fun p hp => ⟨fun ⟨i, hi, _⟩ => by omega, fun _ => k1 p hp⟩⟩
    · rintro n m ⟨F, rw', h1, h2⟩
      rw [fX11_isRow_l25, F.oI (by decide), hG.1.1, if_pos (nI_le (Nat.le_refl _) (by omega))]
      exact ok_some (Or.inl ⟨m, rw', rfl, F, h1, h2⟩)
    · rintro n i m hi ⟨F, rw', h1, h2⟩ kk
      rw [fX11_isRow_l25, F.oI (by decide), hG.1.1, if_neg (nI_ge hi (by omega))]
      rcases m_free (z1 := nI i) hN (hl.fr F) (hG.fr F (by decide)) h2 with ⟨p, f1, f2, e⟩ | ⟨f1, e⟩
      · have hp := f1.1
        rw [e, Option.bind_some, if_pos (nI_pos' (by omega)), F.n, ln1255 hl, chk_nI (by omega) (by omega), bnd_eq, nI_clamp (by omega), mN_sI, F.n, ln1254 hl, chk_nI (by omega) (by omega), bnd_eq, nI_clamp (by omega), bnd_eq, nI_1]
        refine kk _ ⟨(F.wI (by decide)).wI (by decide), upk rw' i p, rw_succ h1 f1 f2, fun j hj => ?_, fun q hq => ⟨fun hpl => ?_, fun hnp => ?_⟩⟩
        · rw [mI_sI]
          by_cases z : j = i
          · rw [if_pos ⟨rfl, rfl, z⟩, z, upk_same]
          · rw [if_neg (fun y => z y.2.2), upk_ne z, mI_sI, if_neg (by simp)]; exact h2.1 j (by omega)
        · rw [mI_sI, if_neg (by simp), mI_sI]
          by_cases z : q = p
          · rw [if_pos ⟨rfl, rfl, z⟩]
          · rw [if_neg (fun y => z y.2.2)]
            rcases pl_succ.mp hpl with y | y
            · exact (h2.2 q hq).1 y
            · exact absurd y z
        · rw [mI_sI, if_neg (by simp), mI_sI, if_neg (fun y => hnp (pl_succ.mpr (Or.inr y.2.2)))]
          exact (h2.2 q hq).2 (fun y => hnp (pl_succ.mpr (Or.inl y)))
      · rw [e, Option.bind_some, if_neg (by decide)]
        exact ok_some (Or.inr ⟨m, rw', i, rfl, F, hi, h1, f1⟩)
  refine ok_call key ?_
  rintro w (⟨m, rw', rfl, F, h1, h2⟩ | ⟨m, rw', k, rfl, F, h1, h2, h3⟩)
  · exact ok_some ⟨F, Or.inl ⟨rfl, rw', h1, h2⟩⟩
  · exact ok_some ⟨F, Or.inr ⟨rfl, rw', k, h1, h2, h3⟩⟩
/-- a whole row has each PART once -/
theorem rw_inj {N : NG} {rw : Nat → Nat} {k i j : Nat} (h : isRw N rw k) (hi : i < k) (hj : j < k) (e : rw i = rw j) : i = j := by
  rcases Nat.lt_trichotomy i j with z | z | z
  · exact absurd ⟨i, z, e⟩ (h j hj).1.2.1
  · exact z
  · exact absurd ⟨j, z, e.symm⟩ (h i hi).1.2.1
noncomputable def plI (rw : Nat → Nat) (k : Nat) (f : Nat → Nat) (p : Nat) : Nat := @ite _ (pl rw k p) (Classical.propDecidable _) (f p) 0
theorem sum_pl {N : NG} {rw : Nat → Nat} (f : Nat → Nat) : ∀ {k : Nat}, isRw N rw k → sumTo (fun i => f (rw i)) k = sumTo (plI rw k f) (nP N) := by
  intro k
  induction k with
  | zero =>
    intro _
    exact (sumTo_zero.mpr (fun p _ => if_neg (fun ⟨i, hi, _⟩ => by omega))).symm
  | succ k ih =>
    intro h
    have h1 := (h k (by omega)).1
    rw [sumTo, ih (fun i hi => h i (by omega))]
    refine (sumTo_upd (i := rw k) (d := f (rw k)) h1.1 ?_ (fun j hj hne => ?_)).symm
    · have a : plI rw (k + 1) f (rw k) = f (rw k) := if_pos ⟨k, by omega, rfl⟩
      have b : plI rw k f (rw k) = 0 := if_neg h1.2.1
      rw [a, b, Nat.zero_add]
    · by_cases q : pl rw k j
      · have a : plI rw (k + 1) f j = f j := if_pos (by obtain ⟨i, hi, e⟩ := q; exact ⟨i, by omega, e⟩)
        have b : plI rw k f j = f j := if_pos q
        rw [a, b]
      · have a : plI rw (k + 1) f j = 0 := if_neg (fun ⟨i, hi, e⟩ => by
          by_cases z : i = k
          · rw [z] at e; exact hne e.symm
          · exact q ⟨i, by omega, e⟩)
        have b : plI rw k f j = 0 := if_neg q
        rw [a, b]
theorem rw_sur {N : NG} {rw : Nat → Nat} (h : isRw N rw (nP N)) : ∀ p, p < nP N → pl rw (nP N) p := by
  intro p hp
  refine Classical.byContradiction (fun q => ?_)
  have h1 : sumTo (fun _ => 1) (nP N) = sumTo (plI rw (nP N) (fun _ => 1)) (nP N) := sum_pl (fun _ => 1) h
  have h2 : ∀ n, sumTo (fun _ => 1) n = n := by
    intro n
    induction n with
    | zero => rfl
    | succ n ih => rw [sumTo, ih]
  have h3 := h2 (nP N)
  have h4 : sumTo (plI rw (nP N) (fun _ => 1)) (nP N) + 1 ≤ nP N := by
    have e : sumTo (fun j => if j = p then plI rw (nP N) (fun _ => 1) j + 1 else plI rw (nP N) (fun _ => 1) j) (nP N) = sumTo (plI rw (nP N) (fun _ => 1)) (nP N) + 1 := sumTo_upd hp (if_pos rfl) (fun j _ hne => if_neg hne)
    rw [← e]
    refine Nat.le_trans (sumTo_le (g := fun _ => 1) (fun j hj => ?_)) (Nat.le_of_eq (h2 _))
    show (if j = p then plI rw (nP N) (fun _ => 1) j + 1 else plI rw (nP N) (fun _ => 1) j) ≤ 1
    by_cases z : j = p
    · rw [if_pos z, z]
      have : plI rw (nP N) (fun _ => 1) p = 0 := if_neg q
      omega
    · rw [if_neg z]
      by_cases y : pl rw (nP N) j
      · have : plI rw (nP N) (fun _ => 1) j = 1 := if_pos y
        omega
      · have : plI rw (nP N) (fun _ => 1) j = 0 := if_neg y
        omega
  omega
theorem sum_row {N : NG} {rw : Nat → Nat} (f : Nat → Nat) (h : isRw N rw (nP N)) : sumTo (fun i => f (rw i)) (nP N) = sumTo f (nP N) := by
  rw [sum_pl f h]
  exact sumTo_congr (fun p hp => if_pos (rw_sur h p hp))
