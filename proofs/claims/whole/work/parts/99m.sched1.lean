/-! schedule: the choice -/
noncomputable def bst (E : Nat → Prop) (L : Nat → Nat → Prop) : Nat → Option Nat
  | 0 => none
  | i + 1 => match bst E L i with
    | none => @ite _ (E i) (Classical.propDecidable _) (some i) none
    | some b => @ite _ (E i ∧ L i b) (Classical.propDecidable _) (some i) (some b)
theorem bst_n {E : Nat → Prop} {L : Nat → Nat → Prop} {i : Nat} (h : bst E L i = none) (e : E i) : bst E L (i + 1) = some i := by rw [bst, h]; exact if_pos e
theorem bst_nn {E : Nat → Prop} {L : Nat → Nat → Prop} {i : Nat} (h : bst E L i = none) (e : ¬ E i) : bst E L (i + 1) = none := by rw [bst, h]; exact if_neg e
theorem bst_s {E : Nat → Prop} {L : Nat → Nat → Prop} {i b : Nat} (h : bst E L i = some b) (e : E i ∧ L i b) : bst E L (i + 1) = some i := by rw [bst, h]; exact if_pos e
theorem bst_ss {E : Nat → Prop} {L : Nat → Nat → Prop} {i b : Nat} (h : bst E L i = some b) (e : ¬ (E i ∧ L i b)) : bst E L (i + 1) = some b := by rw [bst, h]; exact if_neg e
theorem bst_some {E : Nat → Prop} {L : Nat → Nat → Prop} : ∀ {i b : Nat}, bst E L i = some b → b < i ∧ E b := by
  intro i
  induction i with
  | zero => intro b h; cases h
  | succ i ih =>
    intro b h
    cases q : bst E L i with
    | none =>
      by_cases e : E i
      · rw [bst_n q e] at h; cases h; exact ⟨by omega, e⟩
      · rw [bst_nn q e] at h; cases h
    | some c =>
      by_cases e : E i ∧ L i c
      · rw [bst_s q e] at h; cases h; exact ⟨by omega, e.1⟩
      · rw [bst_ss q e] at h; cases h
        have := ih q
        exact ⟨by omega, this.2⟩
theorem bst_none {E : Nat → Prop} {L : Nat → Nat → Prop} : ∀ {i : Nat}, bst E L i = none → ∀ j, j < i → ¬ E j := by
  intro i
  induction i with
  | zero => intro _ j hj; omega
  | succ i ih =>
    intro h j hj
    cases q : bst E L i with
    | none =>
      by_cases e : E i
      · rw [bst_n q e] at h; cases h
      · by_cases z : j = i
        · rw [z]; exact e
        · exact ih q j (by omega)
    | some c =>
      by_cases e : E i ∧ L i c
      · rw [bst_s q e] at h; cases h
      · rw [bst_ss q e] at h; cases h
/-- what a FIRING adds to all LINES together -/
def grw (N : NG) (c : Nat → Nat) (p : Nat) : Int32 := nI (sumTo (fun l => gvA N p (c p % nH N p) l) (nL N)) - nI (sumTo (fun l => tkA N p (c p % nH N p) l) (nL N))
def lsR (N : NG) (y : Int32) (c la : Nat → Nat) (i b : Nat) : Prop := (y = 1 ∧ grw N c i < grw N c b) ∨ (y = 2 ∧ la i < la b)
theorem i_sub1 (a b c : Int32) : a - b - c = a - (b + c) := by
  simp only [Int32.sub_eq_add_neg, Int32.neg_add]; ac_rfl
theorem i_sub2 (a b c d : Int32) : a - b + (c - d) = (a + c) - (b + d) := by
  simp only [Int32.sub_eq_add_neg, Int32.neg_add]; ac_rfl
theorem c_growth {M : tM} {N : NG} {R fs c : Nat → Nat} {p : Nat} (hN : NOK N) (hl : Len M) (hC : Cg M M N) (hM : MC M N R fs c) (hp : p < nP N) : fX5_growthBy (some p) M = some (grw N c p) := by
  have hb := hN.1
  have cp := (hC.2.1 p hp).1
  obtain ⟨ha, ha4⟩ := ph_lt hN hp (c p)
  rw [fX5_growthBy, Option.bind_some, cp.2.1, ln604 hl, chk_nI (by omega) (by omega), bnd_eq, nI_clamp (by omega), (hM.2.1 p hp).2, bnd_eq, cp.2.2.2.2.2.2.2.1]
  unfold grw
  generalize c p % nH N p = a at *
  have k1 : Ok (fX5_growthBy_l18 p (nI a) M FU 0 (nx (nF N) p (nL N) 0)) (fun w => w = nI (sumTo (fun l => gvA N p a l) (nL N))) := by
    refine loopC0 (fun n r s => fX5_growthBy_l18 p (nI a) M n s r) (nF N) p (nL N) (fun i s => s = nI (sumTo (fun l => gvA N p a l) i)) _ hb.2 ?_ ?_ ?_ 0 rfl
    · intro n s h
      rw [fX5_growthBy_l18, if_pos rfl]
      exact ok_some h
    · intro i s hi hne h
      rw [sumTo, h, gvA, if_neg hne]; rfl
    · intro n i s hi he h kk
      rw [fX5_growthBy_l18, if_neg (by simp), Option.bind_some, cGives hN hC hi (by rw [he]; exact ha), Option.bind_some, bnd_eq, bnd_eq, (hC.2.2.1 i hi).1.2.2.2.2.2.2, he]
      refine kk _ ?_
      rw [h, nI_add, sumTo, gvA, if_pos he]
  obtain ⟨w, e, rfl⟩ := k1
  rw [e, Option.bind_some, bnd_eq, cp.2.2.2.2.2.1]
  have k2 : Ok (fX5_growthBy_l48 (nI a) M FU (nI (sumTo (fun l => gvA N p a l) (nL N))) (nx (nT N) p (nL N) 0)) (fun w => w = nI (sumTo (fun l => gvA N p a l) (nL N)) - nI (sumTo (fun l => tkA N p a l) (nL N))) := by
    refine loopC0 (fun n r s => fX5_growthBy_l48 (nI a) M n s r) (nT N) p (nL N) (fun i s => s = nI (sumTo (fun l => gvA N p a l) (nL N)) - nI (sumTo (fun l => tkA N p a l) i)) _ hb.2 ?_ ?_ ?_ _ (Int32.sub_zero _).symm
    · intro n s h
      rw [fX5_growthBy_l48, if_pos rfl]
      exact ok_some h
    · intro i s hi hne h
      rw [sumTo, h, tkA, if_neg hne]; rfl
    · intro n i s hi he h kk
      rw [fX5_growthBy_l48, if_neg (by simp), Option.bind_some, cTakes hN hC hi (by rw [he]; exact ha), Option.bind_some, bnd_eq, bnd_eq, (hC.2.2.1 i hi).1.2.2.2.2.2.1, he]
      refine kk _ ?_
      rw [h, i_sub1, nI_add, sumTo, tkA, if_pos he]
  obtain ⟨w, e, rfl⟩ := k2
  rw [e, Option.bind_some]
theorem m_growth {X : tM} {N : NG} {R fs c : Nat → Nat} {p : Nat} (hN : NOK N) (hl : Len X) (hG : Gr X N) (hM : MX X N R fs c) (hp : p < nP N) : fX11_growth (nI p) X = some (grw N c p) := by
  have hb := hN.1
  obtain ⟨ha, ha4⟩ := ph_lt hN hp (c p)
  have a1 := (hM.2 p hp).1
  unfold grw
  generalize c p % nH N p = a at *
  have key : Ok (fX11_growth_l4 (nI p) X FU 0 0) (fun w => w = nI (sumTo (fun l => gvA N p a l) (nL N)) - nI (sumTo (fun l => tkA N p a l) (nL N))) := by
    refine loop0 (fun n i s => fX11_growth_l4 (nI p) X n s i) (nL N) (fun i s => s = nI (sumTo (fun l => gvA N p a l) i) - nI (sumTo (fun l => tkA N p a l) i)) _ (by omega) ?_ ?_ 0 (show (0 : Int32) = nI 0 - nI 0 by decide)
    · intro n s h
      rw [fX11_growth_l4, hG.1.2, if_pos (nI_le (Nat.le_refl _) (by omega))]
      exact ok_some h
    · intro n i s hi h kk
      have hg := hG.2.2.1 i hi
      have hq := hG.2.2.2 i a hi ha4
      have hti := (hN.2.2.1 i hi).2.1
      have hff := (hN.2.2.1 i hi).1
      have e4 : 4 * nI i + nI a = nI (4 * i + a) := by rw [L32 4, pk_mul, nI_add]
      rw [fX11_growth_l4, hG.1.2, if_neg (nI_ge hi (by omega)), ln1213 hl, chk_nI (by omega) (by omega), nI_clamp (by omega), hg.1]
      refine ok_call (P := fun x => x = nI (gvA N p a i)) ?_ ?_
      · by_cases e : nF N i = p
        · rw [if_pos (by rw [e]), ln1239 hl, chk_nI (by omega) (by omega), nI_clamp (by omega), a1, e4, ln1215 hl, chk_nI (by omega) (by omega), nI_clamp (by omega), hq.1, gvA, if_pos e]
          exact ok_some rfl
        · rw [if_neg (fun q => e ((nI_eq (by omega) (by omega)).mp q)), gvA, if_neg e]
          exact ok_some rfl
      · rintro _ rfl
        rw [ln1214 hl, chk_nI (by omega) (by omega), hg.2.1]
        refine ok_call (P := fun x => x = nI (tkA N p a i)) ?_ ?_
        · by_cases e : nT N i = p
          · rw [if_pos (by rw [e]), ln1239 hl, chk_nI (by omega) (by omega), nI_clamp (by omega), a1, e4, ln1216 hl, chk_nI (by omega) (by omega), nI_clamp (by omega), hq.2, tkA, if_pos e]
            exact ok_some rfl
          · rw [if_neg (fun q => e ((nI_eq (by omega) (by omega)).mp q)), tkA, if_neg e]
            exact ok_some rfl
        · rintro _ rfl
          rw [bnd_eq, bnd_eq, nI_1]
          refine kk _ ?_
          rw [h, i_sub2, nI_add, nI_add]; rfl
  obtain ⟨w, e, rfl⟩ := key
  rw [fX11_growth, e, Option.bind_some]
def rnk (N : NG) (y : Int32) (c la : Nat → Nat) (p : Nat) : Int32 := if y = 1 then grw N c p else if y = 2 then nI (la p) else 0
theorem c_chosen {M : tM} {N : NG} {R fs c st la : Nat → Nat} {k : Nat} {y : Int32} (hN : NOK N) (hl : Len M) (hC : Cg M M N) (hM : MC M N R fs c) (hS : SC M N st k la) (hB : RB N R fs) (hK : cOK N R fs c) (hla : ∀ p, p < nP N → la p ≤ 1000000) : fX5_chosenBy y M = some (bst (en N R fs c) (lsR N y c la) (nP N)) := by
  have hb := hN.1
  have key : Ok (fX5_chosenBy_l7 y M FU none 0 0) (fun w => w = bst (en N R fs c) (lsR N y c la) (nP N)) := by
    refine loop0 (fun n i (s : Option Nat × Int32) => fX5_chosenBy_l7 y M n s.1 s.2 i) (nP N) (fun i s => s.1 = bst (en N R fs c) (lsR N y c la) i ∧ ∀ b, s.1 = some b → s.2 = rnk N y c la b) _ (by omega) ?_ ?_ (none, 0) ⟨rfl, fun b h => by cases h⟩
    · rintro n ⟨r, v⟩ ⟨h1, h2⟩
      show Ok (fX5_chosenBy_l7 y M (n + 1) r v (nI (nP N))) _
      rw [fX5_chosenBy_l7, hC.1.1, if_pos (nI_le (Nat.le_refl _) (by omega))]
      exact ok_some h1
    · rintro n i ⟨r, v⟩ hi ⟨h1, h2⟩ kk
      have h1 : r = bst (en N R fs c) (lsR N y c la) i := h1
      have h2 : ∀ b, r = some b → v = rnk N y c la b := h2
      have cp := (hC.2.1 i hi).1
      show Ok (fX5_chosenBy_l7 y M (n + 1) r v (nI i)) _
      rw [fX5_chosenBy_l7, hC.1.1, if_neg (nI_ge hi (by omega)), ln200 hl, chk_nI (by omega) (by omega), bnd_eq, nI_clamp (by omega), cp.1]
      have go : ∀ r' v', r' = bst (en N R fs c) (lsR N y c la) (i + 1) → (∀ b, r' = some b → v' = rnk N y c la b) → Ok ((fun x => match x with | (r7, x8) => bnd (nI i + 1) fun x11 => fX5_chosenBy_l7 y M n r7 x8 x11) (r', v')) (fun w => w = bst (en N R fs c) (lsR N y c la) (nP N)) := fun r' v' q1 q2 => by
        show Ok (bnd (nI i + 1) fun x11 => fX5_chosenBy_l7 y M n r' v' x11) _
        rw [bnd_eq, nI_1]
        exact kk (r', v') ⟨q1, q2⟩
      rcases c_can hN hl hC hM hB hK hi with ⟨e, ee⟩ | ⟨e, ee⟩
      · have er : fX5_rankBy y (some i) M = some (rnk N y c la i) := by
          rw [fX5_rankBy, rnk]
          by_cases y1 : y = 1
          · rw [if_pos y1, if_pos y1, c_growth hN hl hC hM hi]; rfl
          · rw [if_neg y1, if_neg y1]
            by_cases y2 : y = 2
            · rw [if_pos y2, if_pos y2, Option.bind_some, cp.2.1, ln605 hl, chk_nI (by omega) (by omega), nI_clamp (by omega), hS.2.2.2 i hi]
            · rw [if_neg y2, if_neg y2]
        rw [e, Option.bind_some, if_neg (by decide), er, Option.bind_some]
        cases hr : bst (en N R fs c) (lsR N y c la) i with
        | none =>
          rw [h1, hr, if_pos rfl, Option.bind_some]
          exact go _ _ (bst_n hr ee).symm (fun b q => by cases q; rfl)
        | some b =>
          have hv := h2 b (by rw [h1, hr])
          have hbi := (bst_some hr).1
          rw [h1, hr, if_neg (by simp), hv]
          have iff1 : rnk N y c la b ≤ rnk N y c la i ↔ ¬ lsR N y c la i b := by
            unfold rnk lsR
            by_cases y1 : y = 1
            · rw [if_pos y1, if_pos y1, Int32.le_iff_toInt_le, Int32.lt_iff_toInt_lt]
              constructor
              · rintro h (⟨-, z⟩ | ⟨z, -⟩)
                · omega
                · rw [y1] at z; exact absurd z (by decide)
              · intro h
                by_cases z : (grw N c i).toInt < (grw N c b).toInt
                · exact absurd (Or.inl ⟨y1, z⟩) h
                · omega
            · rw [if_neg y1, if_neg y1]
              by_cases y2 : y = 2
              · rw [if_pos y2, if_pos y2]
                have l1 := hla b (by omega)
                have l2 := hla i hi
                rw [nI_leI (by omega) (by omega)]
                constructor
                · rintro h (⟨z, -⟩ | ⟨-, z⟩)
                  · exact y1 z
                  · omega
                · intro h
                  by_cases z : la i < la b
                  · exact absurd (Or.inr ⟨y2, z⟩) h
                  · omega
              · rw [if_neg y2, if_neg y2]
                exact ⟨fun _ z => z.elim (fun q => y1 q.1) (fun q => y2 q.1), fun _ => by decide⟩
          by_cases ls : lsR N y c la i b
          · rw [if_neg (fun q => iff1.mp q ls), Option.bind_some]
            exact go _ _ (bst_s hr ⟨ee, ls⟩).symm (fun b' q => by cases q; rfl)
          · rw [if_pos (iff1.mpr ls), Option.bind_some]
            exact go _ _ (bst_ss hr (fun z => ls z.2)).symm (fun b' q => by cases q; rfl)
      · rw [e, Option.bind_some, if_pos rfl, Option.bind_some]
        refine go _ _ ?_ h2
        cases hr : bst (en N R fs c) (lsR N y c la) i with
        | none => rw [h1, hr, bst_nn hr ee]
        | some b => rw [h1, hr, bst_ss hr (fun z => ee z.1)]
  obtain ⟨w, e, rfl⟩ := key
  rw [fX5_chosenBy, e, Option.bind_some]
def oI (r : Option Nat) : Int32 := match r with
  | none => -9
  | some p => nI p
theorem m_chosen {X : tM} {N : NG} {R fs c la : Nat → Nat} {y : Int32} (hN : NOK N) (hl : Len X) (hG : Gr X N) (hM : MX X N R fs c) (hL : ∀ p, p < nP N → mI X 1247 0 p = nI (la p) - 1) (hB : RB N R fs) (hK : cOK N R fs c) (hla : ∀ p, p < nP N → la p ≤ 1000000) : fX11_chosen y X = some (oI (bst (en N R fs c) (lsR N y c la) (nP N))) := by
  have hb := hN.1
  have key : Ok (fX11_chosen_l5 y X FU (-9) 0) (fun w => w = oI (bst (en N R fs c) (lsR N y c la) (nP N))) := by
    refine loop0 (fun n i s => fX11_chosen_l5 y X n s i) (nP N) (fun i s => s = oI (bst (en N R fs c) (lsR N y c la) i)) _ (by omega) ?_ ?_ (-9) rfl
    · intro n s h
      rw [fX11_chosen_l5, hG.1.1, if_pos (nI_le (Nat.le_refl _) (by omega))]
      exact ok_some h
    · rintro n i s hi rfl kk
      have hR := hB.1 i hi
      rw [fX11_chosen_l5, hG.1.1, if_neg (nI_ge hi (by omega)), ln1240 hl, chk_nI (by omega) (by omega), nI_clamp (by omega), (hM.2 i hi).2]
      have go : ∀ x, x = oI (bst (en N R fs c) (lsR N y c la) (i + 1)) → Ok (bnd (nI i + 1) fun x26 => fX11_chosen_l5 y X n x x26) (fun w => w = oI (bst (en N R fs c) (lsR N y c la) (nP N))) := fun x q => by
        rw [bnd_eq, nI_1]
        exact kk x q
      have no : ¬ en N R fs c i → oI (bst (en N R fs c) (lsR N y c la) i) = oI (bst (en N R fs c) (lsR N y c la) (i + 1)) := fun ne => by
        cases hr : bst (en N R fs c) (lsR N y c la) i with
        | none => rw [bst_nn hr ne]
        | some b => rw [bst_ss hr (fun z => ne z.1)]
      by_cases r : c i < R i
      rotate_left
      · rw [if_pos (show nI (R i - c i) ≤ 0 by rw [show R i - c i = 0 by omega]; decide), Option.bind_some]
        exact go _ (no (fun ne => r ne.1))
      rw [if_neg (nI_nle (by omega) (by omega))]
      rcases m_may hN hl hG hM hB hK hi with ⟨ev, t⟩ | ⟨ev, t⟩
      rotate_left
      · rw [ev, Option.bind_some, if_pos rfl, Option.bind_some]
        exact go _ (no (fun ne => t ((en_iff hK).mp ne).2))
      have ee := (en_iff hK).mpr ⟨r, t⟩
      rw [ev, Option.bind_some, if_neg (by decide)]
      cases hr : bst (en N R fs c) (lsR N y c la) i with
      | none =>
        rw [show oI none = (-9) from rfl, if_pos (by decide), Option.bind_some, if_neg (by decide), Option.bind_some, Option.bind_some]
        exact go _ (by rw [bst_n hr ee]; rfl)
      | some b =>
        have hbi := (bst_some hr).1
        rw [show oI (some b) = nI b from rfl, if_neg (nI_pos (by omega))]
        refine ok_call (P := fun x => x = oI (bst (en N R fs c) (lsR N y c la) (i + 1))) ?_ (fun x q => go x q)
        refine ok_call (P := fun x8 => (x8 = 1 ∧ lsR N y c la i b) ∨ (x8 = 0 ∧ ¬ lsR N y c la i b)) ?_ ?_
        · by_cases y1 : y = 1
          · subst y1
            rw [if_pos rfl, m_growth hN hl hG hM hi, Option.bind_some, m_growth hN hl hG hM (by omega), Option.bind_some]
            by_cases g : grw N c i < grw N c b
            · rw [if_pos g]
              exact ok_some (Or.inl ⟨rfl, Or.inl ⟨rfl, g⟩⟩)
            · rw [if_neg g, if_neg (by decide)]
              exact ok_some (Or.inr ⟨rfl, fun z => z.elim (fun q => g q.2) (fun q => absurd q.1 (by decide))⟩)
          · rw [if_neg y1]
            by_cases y2 : y = 2
            · have l1 := hla b (by omega)
              have l2 := hla i hi
              rw [if_pos y2, ln1247 hl, chk_nI (by omega) (by omega), chk_nI (by omega) (by omega), nI_clamp (by omega), hL b (by omega), hL i hi]
              have iff1 : nI (la b) - 1 ≤ nI (la i) - 1 ↔ la b ≤ la i := by
                rw [Int32.le_iff_toInt_le, sub1_toInt (by omega), sub1_toInt (by omega)]; omega
              by_cases z : la b ≤ la i
              · rw [if_pos (iff1.mpr z)]
                exact ok_some (Or.inr ⟨rfl, fun q => q.elim (fun q => y1 q.1) (fun q => by have := q.2; omega)⟩)
              · rw [if_neg (fun q => z (iff1.mp q))]
                exact ok_some (Or.inl ⟨rfl, Or.inr ⟨y2, by omega⟩⟩)
            · rw [if_neg y2]
              exact ok_some (Or.inr ⟨rfl, fun q => q.elim (fun q => y1 q.1) (fun q => y2 q.1)⟩)
        · rintro x8 (⟨rfl, ls⟩ | ⟨rfl, ls⟩)
          · rw [if_neg (by decide), Option.bind_some]
            exact ok_some (by rw [bst_s hr ⟨ee, ls⟩]; rfl)
          · rw [if_pos rfl, Option.bind_some]
            exact ok_some (by rw [bst_ss hr (fun z => ls z.2)]; rfl)
  obtain ⟨w, e, rfl⟩ := key
  rw [fX11_chosen, e, Option.bind_some]
/-! schedule -/
noncomputable def sS (N : NG) (R : Nat → Nat) (y : Int32) : Nat → (Nat → Nat) × (Nat → Nat)
  | 0 => (fun _ => 0, fun _ => 0)
  | k + 1 => (fi (sS N R y k).1 ((bst (en N R (nS N) (sS N R y k).1) (lsR N y (sS N R y k).1 (sS N R y k).2) (nP N)).getD 0), fun q => if q = (bst (en N R (nS N) (sS N R y k).1) (lsR N y (sS N R y k).1 (sS N R y k).2) (nP N)).getD 0 then k + 1 else (sS N R y k).2 q)
noncomputable def odS (N : NG) (R : Nat → Nat) (y : Int32) (k : Nat) : Nat := (bst (en N R (nS N) (sS N R y k).1) (lsR N y (sS N R y k).1 (sS N R y k).2) (nP N)).getD 0
theorem sS_eq (N : NG) (R : Nat → Nat) (y : Int32) : ∀ k, sS N R y k = (cO (odS N R y) k, laO (odS N R y) k) := by
  intro k
  induction k with
  | zero => rfl
  | succ k ih =>
    have e1 : (sS N R y (k + 1)).1 = fi (sS N R y k).1 (odS N R y k) := rfl
    have e2 : (sS N R y (k + 1)).2 = fun q => if q = odS N R y k then k + 1 else (sS N R y k).2 q := rfl
    refine Prod.ext ?_ ?_
    · rw [e1, ih]; rfl
    · rw [e2, ih]; rfl
theorem laO_le {od : Nat → Nat} : ∀ {k p : Nat}, laO od k p ≤ k := by
  intro k
  induction k with
  | zero => intro p; exact Nat.le_refl _
  | succ k ih =>
    intro p
    show (if p = od k then k + 1 else laO od k p) ≤ k + 1
    have := ih (p := p)
    split <;> omega
theorem od_best {N : NG} {R : Nat → Nat} {y : Int32} (hN : NOK N) (hs : ¬ stk N R (nS N)) : ∀ k, k ≤ sumTo R (nP N) → vr N R (odS N R y) k ∧ (k < sumTo R (nP N) → bst (en N R (nS N) (cO (odS N R y) k)) (lsR N y (cO (odS N R y) k) (laO (odS N R y) k)) (nP N) = some (odS N R y k)) := by
  intro k
  induction k with
  | zero => 
    intro _
    refine ⟨fun i hi => by omega, fun h => ?_⟩
    have hv : vr N R (odS N R y) 0 := fun i hi => by omega
    have hr := vr_rch hv
    have e : odS N R y 0 = (bst (en N R (nS N) (cO (odS N R y) 0)) (lsR N y (cO (odS N R y) 0) (laO (odS N R y) 0)) (nP N)).getD 0 := by rw [odS, sS_eq]
    cases hb : bst (en N R (nS N) (cO (odS N R y) 0)) (lsR N y (cO (odS N R y) 0) (laO (odS N R y) 0)) (nP N) with
    | some p => rw [hb] at e; rw [e]; rfl
    | none =>
      exfalso
      have dd : dead N R (nS N) (cO (odS N R y) 0) := bst_none hb
      refine hs ((stk_rch hN hr dd).mpr (Classical.byContradiction (fun z => ?_)))
      have : sumTo R (nP N) = 0 := sumTo_zero.mpr (fun p hp => by
        have : ¬ cO (odS N R y) 0 p < R p := fun q => z ⟨p, hp, q⟩
        have e0 : cO (odS N R y) 0 p = 0 := rfl
        omega)
      omega
  | succ k ih =>
    intro hk
    obtain ⟨hv0, hb0⟩ := ih (by omega)
    have hb1 := bst_some (hb0 (by omega))
    have hv : vr N R (odS N R y) (k + 1) := fun i hi => by
      by_cases q : i = k
      · rw [q]; exact hb1
      · exact hv0 i (by omega)
    refine ⟨hv, fun h => ?_⟩
    have hr := vr_rch hv
    have e : odS N R y (k + 1) = (bst (en N R (nS N) (cO (odS N R y) (k + 1))) (lsR N y (cO (odS N R y) (k + 1)) (laO (odS N R y) (k + 1))) (nP N)).getD 0 := by rw [odS, sS_eq]
    cases hb : bst (en N R (nS N) (cO (odS N R y) (k + 1))) (lsR N y (cO (odS N R y) (k + 1)) (laO (odS N R y) (k + 1))) (nP N) with
    | some p => rw [hb] at e; rw [e]; rfl
    | none =>
      exfalso
      have dd : dead N R (nS N) (cO (odS N R y) (k + 1)) := bst_none hb
      refine hs ((stk_rch hN hr dd).mpr (Classical.byContradiction (fun z => ?_)))
      have hK := vr_ok hv
      have : sumTo (cO (odS N R y) (k + 1)) (nP N) = sumTo R (nP N) := sumTo_congr (fun p hp => by
        have h1 : ¬ cO (odS N R y) (k + 1) p < R p := fun q => z ⟨p, hp, q⟩
        have h2 := hK.1 p hp
        omega)
      rw [vr_sum hv] at this
      omega
theorem c_rule {M : tM} {N : NG} {R : Nat → Nat} {y : Int32} (hN : NOK N) (hl : Len M) (hC : Cg M M N) (hr : rndOf N = .inl R) (hs : ¬ stk N R (nS N)) (hR : ∀ p, p < nP N → mI M 7 p 6 = nI (R p)) (h4 : mI M 1 0 4 = nI (sumTo R (nP N))) :
    Ok (fX8_goByRule y M) (fun w => Fr kAd M w.2 ∧ w.1 = nI (sumTo (sO N (odS N R y) (sumTo R (nP N))) (nL N)) ∧ mI w.2 8 0 3 = nI (sumTo R (nP N)) ∧ (∀ i, i < sumTo R (nP N) → mI w.2 902 0 i = nI (odS N R y i)) ∧ (∀ l, l < nL N → mI w.2 904 0 l = nI (sO N (odS N R y) (sumTo R (nP N)) l)) ∧ ∀ t, t < 4 → mI w.2 905 0 t = 0) := by
  have hb := hN.1
  have hB := RB_0 hN hr
  have hS2 := hB.2.2
  have ob := od_best (y := y) hN hs
  rw [fX8_goByRule]
  refine ok_call (c_begin hN hl hC hR h4) ?_
  rintro M1 ⟨F1, k1, k2⟩
  generalize hz : sumTo R (nP N) = z at *
  generalize hod : odS N R y = od at *
  have key : Ok (fX8_goByRule_l9 y FU 0 M1) (fun m => Fr kAd M m ∧ SC m N (sO N od z) z (laO od z) ∧ ∀ j, j < z → mI m 902 0 j = nI (od j)) := by
    refine loop0 (fun n i m => fX8_goByRule_l9 y n i m) z (fun i m => Fr kAd M m ∧ MC m N R (nS N) (cO od i) ∧ SC m N (sO N od i) i (laO od i) ∧ ∀ j, j < i → mI m 902 0 j = nI (od j)) _ (by omega) ?_ ?_ M1 ⟨F1.mono (by decide), k1, k2, fun j hj => by omega⟩
    · rintro n m ⟨F, h2, h3, h5⟩
      rw [fX8_goByRule_l9, F.oI (by decide), h4, if_pos (nI_le (Nat.le_refl _) (by omega))]
      exact ok_some ⟨F, h3, h5⟩
    · rintro n i m hi ⟨F, h2, h3, h5⟩ kk
      obtain ⟨hv, hbb⟩ := ob i (by omega)
      have hbb := hbb hi
      have hv1 : vr N R od (i + 1) := (ob (i + 1) (by omega)).1
      have o1 := (hv1 i (by omega)).1
      have hCm := hC.fr F (by decide)
      rw [fX8_goByRule_l9, F.oI (by decide), h4, if_neg (nI_ge hi (by omega)), F.n, ln902 hl, if_neg (nI_ge (show i < 2000 by omega) (by omega)), c_chosen hN (hl.fr F) hCm h2 h3 hB (vr_ok hv) (fun p _ => by have := laO_le (od := od) (k := i) (p := p); omega), hbb, Option.bind_some, if_neg (by simp), Option.bind_some, chk_nI (by omega) (by omega), bnd_eq, nI_clamp (by omega), (hCm.2.1 _ o1).1.2.1]
      have F2 : Fr [902] m (sI m 902 0 i (nI (od i))) := Fr.refl.wI (by decide)
      have v5 : ∀ j, j < i + 1 → mI (sI m 902 0 i (nI (od i))) 902 0 j = nI (od j) := fun j hj => by
        rw [mI_sI]
        by_cases e : j = i
        · rw [if_pos ⟨rfl, rfl, e⟩, e]
        · rw [if_neg (fun z => e z.2.2)]; exact h5 j (by omega)
      generalize sI m 902 0 i (nI (od i)) = m1 at *
      have G : Fr kAd M m1 := F.step F2 (by decide)
      have hC1 := hC.fr G (by decide)
      refine ok_call (P := fun m2 => Fr kAd M m2 ∧ MC m2 N R (nS N) (cO od (i + 1)) ∧ SC m2 N (sO N od (i + 1)) (i + 1) (laO od (i + 1)) ∧ ∀ j, j < i + 1 → mI m2 902 0 j = nI (od j)) ?_ ?_
      · refine ok_call (c_stepO (k := i) hN (hl.fr G) hC1 ⟨fun l hl' => (F2.aI (by decide)).trans (h2.1 l hl'), fun p hp => by rw [F2.aI (by decide), F2.aI (by decide)]; exact h2.2.1 p hp, (F2.oI (by decide)).trans h2.2.2⟩ ⟨fun l hl' => by rw [F2.aI (by decide)]; exact h3.1 l hl', (F2.oI (by decide)).trans h3.2.1, (F2.oI (by decide)).trans h3.2.2.1, fun p hp => (F2.aI (by decide)).trans (h3.2.2.2 p hp)⟩ hB hv1) ?_
        rintro m2 ⟨F3, g1, g2⟩
        exact ok_some ⟨G.step F3 (by decide), g1, g2, fun j hj => (F3.aI (by decide)).trans (v5 j hj)⟩
      · rintro m2 h
        rw [bnd_eq, nI_1]
        exact kk m2 h
  refine ok_call key ?_
  rintro M2 ⟨F2, h3, h5⟩
  rw [F2.oI (by decide), h4]
  refine ok_call (c_settle hN (hl.fr F2) h3 (by omega)) ?_
  rintro ⟨x, M3⟩ ⟨F3, g1, g2, g3, g4⟩
  exact ok_some ⟨F2.step F3 (by decide), g1, g2, fun i hi => (F3.aI (by decide)).trans (h5 i hi), g3, g4⟩
def kRu : List Nat := [1230, 1238, 1239, 1240, 1242, 1244, 1245, 1246, 1247, 120043]
theorem m_rule {X : tM} {N : NG} {R : Nat → Nat} {y : Int32} (hN : NOK N) (hl : Len X) (hG : Gr X N) (hr : rndOf N = .inl R) (hs : ¬ stk N R (nS N)) (hR : ∀ p, p < nP N → mI X 1235 0 p = nI (R p)) (h36 : mI X 11 0 36 = nI (sumTo R (nP N))) :
    Ok ((fX11_markFirst 0 X).bind fun M9 => (fX11_storeFirst M9).bind fun M11 => Option.bind (fX11_schedule_l34 y FU 0 M11) fun M18 => Option.bind (fX11_schedule_l57 y FU 0 M18) fun M33 => (fX11_settle (mI M33 11 0 36) M33).bind fun (x34, M36) => some ((x34, M36)))
      (fun w => Fr kRu X w.2 ∧ w.1 = nI (sumTo (sO N (odS N R y) (sumTo R (nP N))) (nL N)) ∧ mI w.2 11 0 43 = nI (sumTo R (nP N)) ∧ (∀ i, i < sumTo R (nP N) → mI w.2 1242 0 i = nI (odS N R y i)) ∧ (∀ l, l < nL N → mI w.2 1244 0 l = nI (sO N (odS N R y) (sumTo R (nP N)) l)) ∧ ∀ t, t < 4 → mI w.2 1230 0 t = 0) := by
  have hb := hN.1
  have hB := RB_0 hN hr
  have hS2 := hB.2.2
  have ob := od_best (y := y) hN hs
  generalize hz : sumTo R (nP N) = z at *
  generalize hod : odS N R y = od at *
  refine ok_call (m_first (fs := nS N) (y := 0) hN hl hG hR (fun l _ => Or.inl ⟨rfl, rfl⟩)) ?_
  rintro X1 ⟨F1, k1⟩
  refine ok_call (m_storeF (m := nS N) hN (hl.fr F1) (hG.fr F1 (by decide)) (fun l hl' => by rw [k1.1 l hl', mk_0])) ?_
  rintro X2 ⟨F2, k2⟩
  have G2 : Fr kRu X X2 := (F1.mono (by decide)).step F2 (by decide)
  have key1 : Ok (fX11_schedule_l34 y FU 0 X2) (fun m => Fr [1247] X2 m ∧ ∀ p, p < nP N → mI m 1247 0 p = (-1)) := by
    refine loop0 (fun n i m => fX11_schedule_l34 y n i m) (nP N) (fun i m => Fr [1247] X2 m ∧ ∀ p, p < i → mI m 1247 0 p = (-1)) _ (by omega) ?_ ?_ X2 ⟨Fr.refl, fun p hp => by omega⟩
    · rintro n m ⟨F, h⟩
      rw [fX11_schedule_l34, F.oI (by decide), G2.oI (by decide), hG.1.1, if_pos (nI_le (Nat.le_refl _) (by omega))]
      exact ok_some ⟨F, h⟩
    · rintro n i m hi ⟨F, h⟩ kk
      rw [fX11_schedule_l34, F.oI (by decide), G2.oI (by decide), hG.1.1, if_neg (nI_ge hi (by omega)), F.n, G2.n, ln1247 hl, chk_nI (by omega) (by omega), bnd_eq, bnd_eq, nI_1, nI_clamp (by omega)]
      refine kk _ ⟨F.wI (by decide), fun p hp => ?_⟩
      rw [mI_sI]
      by_cases e : p = i
      · rw [if_pos ⟨rfl, rfl, e⟩]
      · rw [if_neg (fun q => e q.2.2)]; exact h p (by omega)
  refine ok_call key1 ?_
  rintro X3 ⟨F3, k3⟩
  have G3 : Fr kRu X X3 := G2.step F3 (by decide)
  have key : Ok (fX11_schedule_l57 y FU 0 X3) (fun m => Fr kRu X m ∧ S46 m N (sO N od z) ∧ ∀ j, j < z → mI m 1245 0 j = nI (od j)) := by
    refine loop0 (fun n i m => fX11_schedule_l57 y n i m) z (fun i m => Fr kRu X m ∧ MX m N R (nS N) (cO od i) ∧ S46 m N (sO N od i) ∧ (∀ p, p < nP N → mI m 1247 0 p = nI (laO od i p) - 1) ∧ ∀ j, j < i → mI m 1245 0 j = nI (od j)) _ (by omega) ?_ ?_ X3 ⟨G3, (k1.fr F2 (by decide)).fr F3 (by decide), fun l hl' => (F3.aI (by decide)).trans (k2 l hl'), fun p hp => by rw [k3 p hp]; show (-1 : Int32) = nI 0 - 1; decide, fun j hj => by omega⟩
    · rintro n m ⟨F, h2, h3, h4, h5⟩
      rw [fX11_schedule_l57, F.oI (by decide), h36, if_pos (nI_le (Nat.le_refl _) (by omega))]
      exact ok_some ⟨F, h3, h5⟩
    · rintro n i m hi ⟨F, h2, h3, h4, h5⟩ kk
      obtain ⟨hv, hbb⟩ := ob i (by omega)
      have hbb := hbb hi
      have hv1 : vr N R od (i + 1) := (ob (i + 1) (by omega)).1
      obtain ⟨o1, ee⟩ := hv1 i (by omega)
      have hK := vr_ok hv
      rw [fX11_schedule_l57, F.oI (by decide), h36, if_neg (nI_ge hi (by omega)), m_chosen hN (hl.fr F) (hG.fr F (by decide)) h2 h4 hB hK (fun p _ => by have := laO_le (od := od) (k := i) (p := p); omega), hbb, Option.bind_some]
      show Ok ((fX11_fireMark (nI (od i)) m).bind _) _
      refine ok_call (m_fire hN (hl.fr F) (hG.fr F (by decide)) h2 hB hK o1 ee) ?_
      rintro m2 ⟨F4, g1⟩
      have G4 : Fr kRu X m2 := F.step F4 (by decide)
      show Ok (chk (inb (nI (od i)) (mN m2 1247 0)) <| bnd (sI m2 1247 0 (nI (od i)).toNatClampNeg (nI i)) fun M25 => chk (inb (nI i) (mN M25 1245 0)) <| bnd (sI M25 1245 0 (nI i).toNatClampNeg (nI (od i))) fun M27 => _) _
      rw [G4.n, ln1247 hl, chk_nI (by omega) (by omega), bnd_eq, nI_clamp (by omega), mN_sI, G4.n, ln1245 hl, chk_nI (by omega) (by omega), bnd_eq, nI_clamp (by omega)]
      have F5 : Fr [1245, 1247] m2 (sI (sI m2 1247 0 (od i) (nI i)) 1245 0 i (nI (od i))) := (Fr.refl.wI (by decide)).wI (by decide)
      have v7 : ∀ p, p < nP N → mI (sI (sI m2 1247 0 (od i) (nI i)) 1245 0 i (nI (od i))) 1247 0 p = nI (laO od (i + 1) p) - 1 := fun p hp => by
        show _ = nI (if p = od i then i + 1 else laO od i p) - 1
        rw [mI_sI, if_neg (by simp), mI_sI]
        by_cases e : p = od i
        · rw [if_pos ⟨rfl, rfl, e⟩, if_pos e, L32 1, pk_sub (by omega)]; rfl
        · rw [if_neg (fun q => e q.2.2), if_neg e, F4.aI (by decide)]; exact h4 p hp
      have v5 : ∀ j, j < i + 1 → mI (sI (sI m2 1247 0 (od i) (nI i)) 1245 0 i (nI (od i))) 1245 0 j = nI (od j) := fun j hj => by
        rw [mI_sI]
        by_cases e : j = i
        · rw [if_pos ⟨rfl, rfl, e⟩, e]
        · rw [if_neg (fun q => e q.2.2), mI_sI, if_neg (by simp), F4.aI (by decide)]; exact h5 j (by omega)
      generalize sI (sI m2 1247 0 (od i) (nI i)) 1245 0 i (nI (od i)) = m3 at *
      have G5 : Fr kRu X m3 := G4.step F5 (by decide)
      have g2 := g1.fr F5 (by decide)
      refine ok_call (m_storeM (m := fun l => mk N (nS N) (cO od (i + 1)) l) (st := sO N od i) hN (hl.fr G5) (hG.fr G5 (by decide)) g2.1 (fun l hl' => (F5.aI (by decide)).trans ((F4.aI (by decide)).trans (h3 l hl'))) (fun l hl' => ⟨mk_le hN hB (vr_ok hv1) hl', sO_le hN hB hv l hl'⟩)) ?_
      rintro m4 ⟨F6, g3⟩
      rw [bnd_eq, nI_1]
      exact kk m4 ⟨G5.step F6 (by decide), g2.fr F6 (by decide), g3, fun p hp => (F6.aI (by decide)).trans (v7 p hp), fun j hj => (F6.aI (by decide)).trans (v5 j hj)⟩
  refine ok_call key ?_
  rintro X4 ⟨G4, h3, h5⟩
  rw [G4.oI (by decide), h36]
  refine ok_call (m_settle hN (hl.fr G4) (hG.fr G4 (by decide)) h3 (by omega) h5) ?_
  rintro ⟨x, X5⟩ ⟨F5, g1, g2, g3, g4, g5⟩
  exact ok_some ⟨G4.step F5 (by decide), g1, g2, g3, g4, g5⟩
