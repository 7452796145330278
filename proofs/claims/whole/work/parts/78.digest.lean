/-! digest, is, copy -/
def foldN {σ : Type} (g : Nat → σ → σ) : Nat → σ → σ
  | 0, s => s
  | n + 1, s => g n (foldN g n s)
theorem foldN_congr {σ : Type} {g h : Nat → σ → σ} {n : Nat} {s : σ} (e : ∀ i, i < n → ∀ s, g i s = h i s) : foldN g n s = foldN h n s := by
  induction n with
  | zero => rfl
  | succ n ih => rw [foldN, foldN, ih (fun i hi => e i (by omega)), e n (by omega)]
theorem loopA {σ : Type} (f : Nat → σ → Int32 → Option σ) (cnt : Nat) (g : Nat → σ → σ) (hc : cnt < 1000000000) (hend : ∀ n s, f (n + 1) s (nI cnt) = some s) (hstep : ∀ n i s, i < cnt → f (n + 1) s (nI i) = f n (g i s) (nI (i + 1))) (s0 : σ) : f FU s0 0 = some (foldN g cnt s0) := by
  obtain ⟨r, e, h⟩ := loop0 (fun n i s => f n s i) cnt (fun i s => s = foldN g i s0) (fun r => r = foldN g cnt s0) hc (fun n s h => by rw [hend]; exact ok_some h) (fun n i s hi h k => by rw [hstep n i s hi]; exact k _ (by rw [h]; rfl)) s0 rfl
  have e : f FU s0 0 = some r := e
  rw [e, h]
theorem w5 {w : Nat} (h : w < 5) : nI w = 0 ∨ nI w = 1 ∨ nI w = 2 ∨ nI w = 3 ∨ nI w = 4 := by
  rcases (show w = 0 ∨ w = 1 ∨ w = 2 ∨ w = 3 ∨ w = 4 by omega) with rfl | rfl | rfl | rfl | rfl
  · exact Or.inl rfl
  · exact Or.inr (Or.inl rfl)
  · exact Or.inr (Or.inr (Or.inl rfl))
  · exact Or.inr (Or.inr (Or.inr (Or.inl rfl)))
  · exact Or.inr (Or.inr (Or.inr (Or.inr rfl)))
theorem gt4 {w : Nat} (h : w < 5) : ¬ (4 : Int32) < nI w := nI_nlt (a := 4) (by omega) (by decide)
theorem gt5 : (4 : Int32) < nI 5 := by decide
/-- what a PART adds to the digest, and a LINE -/
def dgR (M : tM) (p r : Nat) (h : Int64) : Int64 := foldN (fun j h => 31 * h + mL M 1209 0 (12 * p + j)) r h
def dgP (M : tM) (N : NG) (p : Nat) (h : Int64) : Int64 := 31 * (31 * foldN (fun w h => 31 * h + (tw M N p (nI w)).toInt64) 5 h + (mI M 1219 0 p).toInt64) + mL M 1220 0 p
def dgQ (M : tM) (N : NG) (p : Nat) (h : Int64) : Int64 := if mI M 1206 0 p = (-9) then dgP M N p h else dgR M p (mI M 1206 0 p).toNatClampNeg (dgP M N p h)
def dgL (M : tM) (N : NG) (l : Nat) (h : Int64) : Int64 := foldN (fun i h => 31 * h + mL M 1222 0 (450 * l + i)) (mI M 1221 0 l).toNatClampNeg (31 * foldN (fun w h => 31 * h + (ew N l (nI w)).toInt64) 5 h + (mI M 1221 0 l).toInt64)
theorem dgC {M : tM} {N : NG} (hC : Cg M M N) (hT : Ct M M N) (hV : Cv M M N) {p : Nat} (hp : p < nP N) (h : Int64) : fX7_digestFrom p h M = some (dgQ M N p h) := by
  obtain ⟨f, -, -, -, hv, -⟩ := hV
  obtain ⟨v1, v2, v3, v4, v5, v6⟩ := hv p hp
  have e1 : fX7_digestFrom_l2 p M FU h 0 = some (foldN (fun w h => 31 * h + (tw M N p (nI w)).toInt64) 5 h) := by
    refine loopA (fun n s i => fX7_digestFrom_l2 p M n s i) 5 _ (by decide) (fun n s => ?_) (fun n i s hi => ?_) h
    · rw [fX7_digestFrom_l2, if_pos gt5]
    · rw [fX7_digestFrom_l2, if_neg (gt4 hi), toldC hC hT hp (w5 hi), Option.bind_some, bnd_eq, bnd_eq, nI_1]
  rw [fX7_digestFrom, e1, Option.bind_some, bnd_eq, bnd_eq, bnd_eq, v5, v3, v4]
  unfold dgQ
  rcases (hC.2.1 p hp).2 with ⟨w1, w2⟩ | ⟨r, w1, w2, w3, w4, w5, w6, w7⟩
  · rw [w2, if_pos rfl, w1, if_pos rfl]; rfl
  · rw [w4, if_neg (by simp), bnd_eq, Option.bind_some, bnd_eq, w6, w3, if_neg (fun e => (neg9_ne w2).2 e.symm), nI_clamp (by omega)]
    have e2 : ∀ x, fX7_digestFrom_l68 p (nI r) M FU x 0 = some (dgR M p r x) := fun x => by
      refine loopA (fun n s i => fX7_digestFrom_l68 p (nI r) M n s i) r _ (by omega) (fun n s => ?_) (fun n i s hi => ?_) x
      · rw [fX7_digestFrom_l68, if_pos (nI_le (Nat.le_refl _) (by omega))]
      · rw [fX7_digestFrom_l68, if_neg (nI_ge hi (by omega)), w6, chk_nI hi (by omega), bnd_eq, bnd_eq, bnd_eq, nI_1, nI_clamp (by omega), v6 r w3 w2 i hi]
    rw [e2]; rfl
theorem dgCl {M : tM} {N : NG} (hN : NOK N) (hC : Cg M M N) (hV : Cv M M N) {l : Nat} (hp : l < nL N) (h : Int64) : fX4_digestFrom l h M = some (dgL M N l h) := by
  obtain ⟨f, -, -, -, -, hv⟩ := hV
  obtain ⟨o, hh, g, ho, hh4, -, e1, e2, e3, e4, -⟩ := hv l hp
  have k1 : fX4_digestFrom_l2 l M FU h 0 = some (foldN (fun w h => 31 * h + (ew N l (nI w)).toInt64) 5 h) := by
    refine loopA (fun n s i => fX4_digestFrom_l2 l M n s i) 5 _ (by decide) (fun n s => ?_) (fun n i s hi => ?_) h
    · rw [fX4_digestFrom_l2, if_pos gt5]
    · rw [fX4_digestFrom_l2, if_neg (gt4 hi), endC hN hC hp (w5 hi), Option.bind_some, bnd_eq, bnd_eq, nI_1]
  have k2 : ∀ x, fX4_digestFrom_l40 l M FU x 0 = some (foldN (fun i h => 31 * h + mL M 1222 0 (450 * l + i)) o x) := fun x => by
    refine loopA (fun n s i => fX4_digestFrom_l40 l M n s i) o _ (by omega) (fun n s => ?_) (fun n i s hi => ?_) x
    · rw [fX4_digestFrom_l40, e2, if_pos (nI_le (Nat.le_refl _) (by omega))]
    · rw [fX4_digestFrom_l40, e2, if_neg (nI_ge hi (by omega)), cThing ho hh4 e2 e3 (hC.2.2.1 l hp).2.2.2.2.1 hi, Option.bind_some, bnd_eq, bnd_eq, nI_1, e4 i hi]
  rw [fX4_digestFrom, k1, Option.bind_some, bnd_eq, k2, Option.bind_some, e2]
  unfold dgL
  rw [e1, nI_clamp (by omega)]
theorem c42 : call42 Rel := by
  rintro M ⟨N, hA⟩
  obtain ⟨⟨hN, hl, hG⟩, hC, hT, hV, hF, hR, hD, hO, hS, -⟩ := id hA
  have hb := hN.1
  have c1 : fX10_digest_l6 M FU 17 0 = some (foldN (dgQ M N) (nP N) 17) := by
    refine loopA (fun n s i => fX10_digest_l6 M n s i) (nP N) _ (by omega) (fun n s => ?_) (fun n i s hi => ?_) 17
    · rw [fX10_digest_l6, hC.1.1, if_pos (nI_le (Nat.le_refl _) (by omega))]
    · rw [fX10_digest_l6, hC.1.1, if_neg (nI_ge hi (by omega)), ln200 hl, chk_nI (by omega) (by omega), bnd_eq, nI_clamp (by omega), (hC.2.1 i hi).1.1, Option.bind_some, dgC hC hT hV hi, Option.bind_some, bnd_eq, nI_1]
  have c2 : ∀ x, fX10_digest_l39 M FU x 0 = some (foldN (dgL M N) (nL N) x) := fun x => by
    refine loopA (fun n s i => fX10_digest_l39 M n s i) (nL N) _ (by omega) (fun n s => ?_) (fun n i s hi => ?_) x
    · rw [fX10_digest_l39, hC.1.2, if_pos (nI_le (Nat.le_refl _) (by omega))]
    · rw [fX10_digest_l39, hC.1.2, if_neg (nI_ge hi (by omega)), ln201 hl, chk_nI (by omega) (by omega), bnd_eq, nI_clamp (by omega), (hC.2.2.1 i hi).1.1, Option.bind_some, dgCl hN hC hV hi, Option.bind_some, bnd_eq, nI_1]
  have m1 : fX11_digest_l6 M FU 17 0 = some (foldN (dgQ M N) (nP N) 17) := by
    refine loopA (fun n s i => fX11_digest_l6 M n s i) (nP N) _ (by omega) (fun n s => ?_) (fun n p s hi => ?_) 17
    · rw [fX11_digest_l6, hG.1.1, if_pos (nI_le (Nat.le_refl _) (by omega))]
    · have e1 : fX11_digest_l17 (nI p) M FU s 0 = some (foldN (fun w h => 31 * h + (tw M N p (nI w)).toInt64) 5 s) := by
        refine loopA (fun n s i => fX11_digest_l17 (nI p) M n s i) 5 _ (by decide) (fun n s => ?_) (fun n i s hi' => ?_) s
        · rw [fX11_digest_l17, if_pos gt5]
        · rw [fX11_digest_l17, if_neg (gt4 hi'), tellsM hN hl hG hi, Option.bind_some, bnd_eq, bnd_eq, nI_1]
      obtain ⟨f, -, -, -, hv, -⟩ := id hV
      have v2 := (hv p hi).2.1
      rw [fX11_digest_l6, hG.1.1, if_neg (nI_ge hi (by omega)), e1, Option.bind_some, ln1219 hl, ln1220 hl, chk_nI (by omega) (by omega), chk_nI (by omega) (by omega), bnd_eq, nI_clamp (by omega)]
      have e2 : ∀ x, fX11_digest_l72 (nI p) M FU x 0 = some (if mI M 1206 0 p = (-9) then x else dgR M p (mI M 1206 0 p).toNatClampNeg x) := fun x => by
        rcases (hC.2.1 p hi).2 with ⟨w1, w2⟩ | ⟨r, w1, w2, w3, w4, w5, w6, w7⟩
        · rw [w1, if_pos rfl, show FU = 999999999 + 1 from rfl, fX11_digest_l72, ln1208 hl, chk_nI (by omega) (by omega), nI_clamp (by omega), v2, w1, if_pos (by decide)]
        · rw [w3, if_neg (fun e => (neg9_ne w2).2 e.symm), nI_clamp (by omega)]
          refine loopA (fun n s i => fX11_digest_l72 (nI p) M n s i) r _ (by omega) (fun n s => ?_) (fun n i s hi' => ?_) x
          · rw [fX11_digest_l72, ln1208 hl, chk_nI (by omega) (by omega), nI_clamp (by omega), v2, w3, if_pos (nI_le (Nat.le_refl _) (by omega))]
          · rw [fX11_digest_l72, ln1208 hl, chk_nI (by omega) (by omega), nI_clamp (by omega), v2, w3, if_neg (nI_ge hi' (by omega))]
            simp (disch := omega) only [L32, pk_mul, nI_add, ln1209 hl, chk_nI, bnd_eq, nI_clamp]
      rw [e2, Option.bind_some, bnd_eq, nI_1]
      unfold dgQ dgP
      rfl
  have m2 : ∀ x, fX11_digest_l116 M FU x 0 = some (foldN (dgL M N) (nL N) x) := fun x => by
    refine loopA (fun n s i => fX11_digest_l116 M n s i) (nL N) _ (by omega) (fun n s => ?_) (fun n l s hi => ?_) x
    · rw [fX11_digest_l116, hG.1.2, if_pos (nI_le (Nat.le_refl _) (by omega))]
    · have e1 : fX11_digest_l127 (nI l) M FU s 0 = some (foldN (fun w h => 31 * h + (ew N l (nI w)).toInt64) 5 s) := by
        refine loopA (fun n s i => fX11_digest_l127 (nI l) M n s i) 5 _ (by decide) (fun n s => ?_) (fun n i s hi' => ?_) s
        · rw [fX11_digest_l127, if_pos gt5]
        · rw [fX11_digest_l127, if_neg (gt4 hi'), endsM hN hl hG hi, Option.bind_some, bnd_eq, bnd_eq, nI_1]
      obtain ⟨o, ho, o1, -, o3⟩ := hV.on hi
      rw [fX11_digest_l116, hG.1.2, if_neg (nI_ge hi (by omega)), e1, Option.bind_some, ln1221 hl, chk_nI (by omega) (by omega), bnd_eq, nI_clamp (by omega)]
      have e2 : ∀ x, fX11_digest_l171 (nI l) M FU x 0 = some (foldN (fun i h => 31 * h + mL M 1222 0 (450 * l + i)) o x) := fun x => by
        refine loopA (fun n s i => fX11_digest_l171 (nI l) M n s i) o _ (by omega) (fun n s => ?_) (fun n i s hi' => ?_) x
        · rw [fX11_digest_l171, ln1221 hl, chk_nI (by omega) (by omega), nI_clamp (by omega), o1, if_pos (nI_le (Nat.le_refl _) (by omega))]
        · rw [fX11_digest_l171, ln1221 hl, chk_nI (by omega) (by omega), nI_clamp (by omega), o1, if_neg (nI_ge hi' (by omega))]
          simp (disch := omega) only [L32, pk_mul, nI_add, ln1222 hl, chk_nI, bnd_eq, nI_clamp]
      rw [e2, Option.bind_some, bnd_eq, nI_1]
      unfold dgL
      rw [o3]
  have key : ∀ x, ∃ v, fX10_digest_l72 M FU x 0 = some v ∧ fX11_digest_l216 M FU x 0 = some v := fun x => by
    rcases hS with ⟨o1, o2, -⟩ | ⟨z, hz1, hz2, o1, o2, o3, -⟩
    · refine ⟨x, ?_, ?_⟩
      · rw [show FU = 999999999 + 1 from rfl, fX10_digest_l72, o2, if_pos (by decide)]
      · rw [show FU = 999999999 + 1 from rfl, fX11_digest_l216, o1, if_pos (by decide)]
    · refine ⟨foldN (fun i h => 31 * h + (mI M 1242 0 i).toInt64) z x, ?_, ?_⟩
      · refine loopA (fun n s i => fX10_digest_l72 M n s i) z _ (by omega) (fun n s => ?_) (fun n i s hi => ?_) x
        · rw [fX10_digest_l72, o2, if_pos (nI_le (Nat.le_refl _) (by omega))]
        · obtain ⟨p, -, q1, q2⟩ := o3 i hi
          rw [fX10_digest_l72, o2, if_neg (nI_ge hi (by omega)), ln902 hl, chk_nI (by omega) (by omega), bnd_eq, bnd_eq, nI_1, nI_clamp (by omega), q2, q1]
      · refine loopA (fun n s i => fX11_digest_l216 M n s i) z _ (by omega) (fun n s => ?_) (fun n i s hi => ?_) x
        · rw [fX11_digest_l216, o1, if_pos (nI_le (Nat.le_refl _) (by omega))]
        · rw [fX11_digest_l216, o1, if_neg (nI_ge hi (by omega)), ln1242 hl, chk_nI (by omega) (by omega), bnd_eq, bnd_eq, nI_1, nI_clamp (by omega)]
  obtain ⟨v, k1, k2⟩ := key (foldN (dgL M N) (nL N) (foldN (dgQ M N) (nP N) 17))
  refine ⟨v, ?_, ?_, N, hA⟩
  · rw [fX10_digest, c1, Option.bind_some, c2, Option.bind_some, k1]; rfl
  · rw [fX11_digest, m1, Option.bind_some, m2, Option.bind_some, k2]; rfl
