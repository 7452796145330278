/-! lacks: what both sides look for -/
theorem okRun_mono {N : NG} {R fs fs2 : Nat → Nat} (hf : ∀ l, l < nL N → fs l ≤ fs2 l) : ∀ {ps : List Nat} {c : Nat → Nat}, okRun N R fs c ps → okRun N R fs2 c ps
  | [], _, _ => trivial
  | _ :: _, _, h => ⟨⟨h.1.1, h.1.2.1, fun l hl ht => Nat.le_trans (h.1.2.2 l hl ht) (by have := hf l hl; omega)⟩, okRun_mono hf h.2⟩
theorem ex_dead {N : NG} {R fs : Nat → Nat} : ∀ d c, sumTo (fun q => R q - c q) (nP N) = d → ∃ ps, okRun N R fs c ps ∧ dead N R fs (toRun c ps) := by
  intro d
  induction d with
  | zero =>
    intro c h
    refine ⟨[], trivial, fun p hp he => ?_⟩
    have he : en N R fs c p := he
    have := sum_fi hp he.1
    have h2 : sumTo (fun q => R q - c q) (nP N) = 0 := h
    omega
  | succ d ih =>
    intro c h
    by_cases q : dead N R fs c
    · exact ⟨[], trivial, q⟩
    · have : ∃ p, p < nP N ∧ en N R fs c p := Classical.byContradiction (fun z => q (fun p hp he => z ⟨p, hp, he⟩))
      obtain ⟨p, hp, he⟩ := this
      have hs := sum_fi hp he.1
      obtain ⟨ps, h1, h2⟩ := ih (fi c p) (by omega)
      exact ⟨p :: ps, ⟨⟨hp, he⟩, h1⟩, h2⟩
theorem stk_mono {N : NG} {R fs fs2 : Nat → Nat} (hN : NOK N) (hf : ∀ l, l < nL N → fs l ≤ fs2 l) (h : stk N R fs2) : stk N R fs := by
  obtain ⟨ps, h1, h2, p, hp, h3⟩ := h
  obtain ⟨qs, g1, g2⟩ := ex_dead (N := N) (R := R) (fs := fs) _ (fun _ => 0) rfl
  have := run_below hN hf h2 qs (fun _ => 0) g1 (fun p _ => Nat.zero_le _) p hp
  exact ⟨qs, g1, g2, p, hp, by omega⟩
theorem toRun_out {N : NG} {R fs : Nat → Nat} : ∀ {ps : List Nat} {c : Nat → Nat}, okRun N R fs c ps → ∀ p, nP N ≤ p → toRun c ps p = c p
  | [], _, _, _, _ => rfl
  | q :: ps, c, h, p, hp => by
    have hq := h.1.1
    rw [toRun, toRun_out h.2 p hp, fi_ne (by omega)]
def rch (N : NG) (R fs c : Nat → Nat) : Prop := ∃ ps, okRun N R fs (fun _ => 0) ps ∧ c = toRun (fun _ => 0) ps
theorem rch_0 (N : NG) (R fs : Nat → Nat) : rch N R fs (fun _ => 0) := ⟨[], trivial, rfl⟩
theorem rch_run {N : NG} {R fs c : Nat → Nat} {ps : List Nat} (h : rch N R fs c) (h2 : okRun N R fs c ps) : rch N R fs (toRun c ps) := by
  obtain ⟨qs, h1, rfl⟩ := h
  exact ⟨qs ++ ps, okRun_app.mpr ⟨h1, h2⟩, toRun_app.symm⟩
theorem rch_ok {N : NG} {R fs c : Nat → Nat} (h : rch N R fs c) : cOK N R fs c := by
  obtain ⟨qs, h1, rfl⟩ := h
  exact cOK_run (cOK_0 N R fs) h1
theorem rch_mono {N : NG} {R fs fs2 c : Nat → Nat} (hf : ∀ l, l < nL N → fs l ≤ fs2 l) (h : rch N R fs c) : rch N R fs2 c := by
  obtain ⟨qs, h1, rfl⟩ := h
  exact ⟨qs, okRun_mono hf h1, rfl⟩
theorem dead_uniq {N : NG} {R fs c c' : Nat → Nat} (hN : NOK N) (h1 : rch N R fs c) (h2 : dead N R fs c) (h3 : rch N R fs c') (h4 : dead N R fs c') : c = c' := by
  obtain ⟨a, a1, rfl⟩ := h1
  obtain ⟨b, b1, rfl⟩ := h3
  funext p
  by_cases hp : p < nP N
  · exact run_end hN a1 b1 h2 h4 toRun_ge p hp
  · rw [toRun_out a1 p (by omega), toRun_out b1 p (by omega)]
theorem stk_rch {N : NG} {R fs c : Nat → Nat} (hN : NOK N) (h1 : rch N R fs c) (h2 : dead N R fs c) : stk N R fs ↔ ∃ p, p < nP N ∧ c p < R p := by
  obtain ⟨a, a1, rfl⟩ := h1
  exact stk_of hN a1 h2
/-- as many things more as a PART needs -/
def sup (N : NG) (fs c : Nat → Nat) (p l : Nat) : Nat := fs l + (tkA N p (c p % nH N p) l - mk N fs c l)
theorem sup_ge {N : NG} {fs c : Nat → Nat} {p l : Nat} : fs l ≤ sup N fs c p l := Nat.le_add_right _ _
theorem sup_le {N : NG} {fs c : Nat → Nat} {p l : Nat} (hN : NOK N) (hp : p < nP N) (hl : l < nL N) : sup N fs c p l ≤ fs l + 50 := by
  have h1 := (hN.2.2.2 l _ hl (ph_lt hN hp (c p)).2).2.1
  have h2 : tkA N p (c p % nH N p) l ≤ 50 := by rw [tkA]; split <;> omega
  rw [sup]; omega
theorem mk_sup {N : NG} {R fs c : Nat → Nat} {p l : Nat} (h : cOK N R fs c) (hl : l < nL N) : mk N (sup N fs c p) c l = mk N fs c l + (tkA N p (c p % nH N p) l - mk N fs c l) := by
  have := h.2 l hl
  have e : sup N fs c p l = fs l + (tkA N p (c p % nH N p) l - mk N fs c l) := rfl
  generalize tkA N p (c p % nH N p) l - mk N fs c l = d at *
  unfold mk
  rw [e]; omega
theorem en_sup {N : NG} {R fs c : Nat → Nat} {p : Nat} (h : cOK N R fs c) (hp : c p < R p) : en N R (sup N fs c p) c p := by
  have hK : cOK N R (sup N fs c p) c := ⟨h.1, fun l hl => by have := h.2 l hl; have := sup_ge (N := N) (fs := fs) (c := c) (p := p) (l := l); omega⟩
  refine (en_iff hK).mpr ⟨hp, fun l hl ht => ?_⟩
  rw [mk_sup h hl]
  have : tkA N p (c p % nH N p) l = nK N l (c p % nH N p) := if_pos ht
  omega
def FLn (N : NG) (R : Nat → Nat) : Nat → (Nat → Nat) → (Nat → Nat) → Prop
  | 0, fs, e => e = fs ∧ ∃ c, rch N R fs c ∧ dead N R fs c ∧ ∀ p, p < nP N → ¬ c p < R p
  | n + 1, fs, e => ∃ c p, rch N R fs c ∧ dead N R fs c ∧ p < nP N ∧ c p < R p ∧ (∀ q, q < p → ¬ c q < R q) ∧ FLn N R n (sup N fs c p) e
theorem FLn_uniq {N : NG} {R : Nat → Nat} (hN : NOK N) : ∀ n m fs e e', FLn N R n fs e → FLn N R m fs e' → e = e' := by
  intro n
  induction n with
  | zero =>
    rintro m fs e e' ⟨rfl, c, h1, h2, h3⟩ h
    cases m with
    | zero => obtain ⟨rfl, -⟩ := h; rfl
    | succ m =>
      obtain ⟨c', p, g1, g2, g3, g4, -⟩ := h
      rw [dead_uniq hN h1 h2 g1 g2] at h3
      exact absurd g4 (h3 p g3)
  | succ n ih =>
    rintro m fs e e' ⟨c, p, h1, h2, h3, h4, h5, h6⟩ h
    cases m with
    | zero =>
      obtain ⟨rfl, c', g1, g2, g3⟩ := h
      rw [dead_uniq hN h1 h2 g1 g2] at h4
      exact absurd h4 (g3 p h3)
    | succ m =>
      obtain ⟨c', p', g1, g2, g3, g4, g5, g6⟩ := h
      have ec := dead_uniq hN h1 h2 g1 g2
      subst ec
      have ep : p = p' := by
        rcases Nat.lt_trichotomy p p' with z | z | z
        · exact absurd h4 (g5 p z)
        · exact z
        · exact absurd g4 (h5 p' z)
      subst ep
      exact ih m _ e e' h6 g6
def plusS (N : NG) (lk : Nat → Nat) : Nat → Nat := fun l => nS N l + lk l
def upk (lk : Nat → Nat) (l m : Nat) : Nat → Nat := fun q => if q = l then m else lk q
theorem upk_same {lk : Nat → Nat} {l m : Nat} : upk lk l m l = m := if_pos rfl
theorem upk_ne {lk : Nat → Nat} {l m q : Nat} (h : ¬ q = l) : upk lk l m q = lk q := if_neg h
/-- the fewest on one LINE -/
def isM (N : NG) (R lk : Nat → Nat) (l m : Nat) : Prop := ¬ stk N R (plusS N (upk lk l m)) ∧ (m = 0 ∨ stk N R (plusS N (upk lk l (m - 1))))
theorem isM_uniq {N : NG} {R lk : Nat → Nat} {l m m' : Nat} (hN : NOK N) (h : isM N R lk l m) (h' : isM N R lk l m') : m = m' := by
  have key : ∀ a b, isM N R lk l a → isM N R lk l b → a < b → False := fun a b ha hb hab => by
    rcases hb.2 with z | z
    · omega
    · refine ha.1 (stk_mono hN (fun q _ => ?_) z)
      show nS N q + upk lk l a q ≤ nS N q + upk lk l (b - 1) q
      by_cases e : q = l
      · subst e; rw [upk_same, upk_same]; omega
      · rw [upk_ne e, upk_ne e]; omega
  rcases Nat.lt_trichotomy m m' with z | z | z
  · exact (key m m' h h' z).elim
  · exact z
  · exact (key m' m h' h z).elim
def LSn (N : NG) (R : Nat → Nat) : Nat → (Nat → Nat) → (Nat → Nat) → Prop
  | 0, lk, e => e = lk
  | n + 1, lk, e => ∃ k1, LSn N R n lk k1 ∧ ∃ m, isM N R k1 n m ∧ e = upk k1 n m
theorem LSn_uniq {N : NG} {R : Nat → Nat} (hN : NOK N) : ∀ n lk e e', LSn N R n lk e → LSn N R n lk e' → e = e' := by
  intro n
  induction n with
  | zero => rintro lk e e' rfl rfl; rfl
  | succ n ih =>
    rintro lk e e' ⟨k, h1, m, h2, rfl⟩ ⟨k', g1, m', g2, rfl⟩
    have := ih lk k k' h1 g1
    subst this
    rw [isM_uniq hN h2 g2]
def LK (N : NG) (R lk : Nat → Nat) : Prop := ∃ n lk0, FLn N R n (plusS N (fun _ => 0)) (plusS N lk0) ∧ LSn N R (nL N) lk0 lk
theorem LK_uniq {N : NG} {R lk lk' : Nat → Nat} (hN : NOK N) (h : LK N R lk) (h' : LK N R lk') : lk = lk' := by
  obtain ⟨n, k, h1, h2⟩ := h
  obtain ⟨n', k', g1, g2⟩ := h'
  have e := FLn_uniq hN _ _ _ _ _ h1 g1
  have ek : k = k' := funext fun l => by
    have : nS N l + k l = nS N l + k' l := congrFun e l
    omega
  subst ek
  exact LSn_uniq hN _ _ _ _ h2 g2
theorem LK_0 {N : NG} {R lk : Nat → Nat} (hN : NOK N) (hs : ¬ stk N R (nS N)) (h : LK N R lk) : ∀ l, lk l = 0 := by
  obtain ⟨n, k, h1, h2⟩ := h
  obtain ⟨ps, a1, a2⟩ := ex_dead (N := N) (R := R) (fs := plusS N (fun _ => 0)) _ (fun _ => 0) rfl
  have hr : rch N R (plusS N (fun _ => 0)) (toRun (fun _ => 0) ps) := ⟨ps, a1, rfl⟩
  have hk : FLn N R 0 (plusS N (fun _ => 0)) (plusS N (fun _ => 0)) := ⟨rfl, _, hr, a2, fun p hp z => hs ((stk_rch hN hr a2).mpr ⟨p, hp, z⟩)⟩
  have e := FLn_uniq hN _ _ _ _ _ h1 hk
  have ek : k = fun _ => 0 := funext fun l => by
    have : nS N l + k l = nS N l + 0 := congrFun e l
    show k l = 0
    omega
  subst ek
  have key : ∀ n e, LSn N R n (fun _ => 0) e → ∀ l, e l = 0 := by
    intro n
    induction n with
    | zero => rintro e rfl l; rfl
    | succ n ih =>
      rintro e ⟨k1, g1, m, g2, rfl⟩ l
      have z := ih k1 g1
      have zm : m = 0 := by
        rcases g2.2 with q | q
        · exact q
        · exact absurd (stk_mono hN (fun q _ => Nat.le_add_right _ _) q) hs
      by_cases e : l = n
      · rw [e, upk_same]; exact zm
      · rw [upk_ne e]; exact z l
  exact key _ _ h2
/-! lacks, the model's -/
def L41 (X : tM) (N : NG) (lk : Nat → Nat) : Prop := ∀ l, l < nL N → mI X 1241 0 l = nI (lk l)
theorem m_supply {X : tM} {N : NG} {R lk c : Nat → Nat} {p : Nat} (hN : NOK N) (hl : Len X) (hG : Gr X N) (hM : MX X N R (plusS N lk) c) (hB : RB N R (plusS N lk)) (hK : cOK N R (plusS N lk) c) (h4 : L41 X N lk) (hp : p < nP N) :
    Ok (fX11_supply (nI p) X) (fun m => Fr [1238, 1241] X m ∧ MX m N R (sup N (plusS N lk) c p) c ∧ L41 m N (fun l => lk l + (tkA N p (c p % nH N p) l - mk N (plusS N lk) c l))) := by
  have hb := hN.1
  obtain ⟨ha, ha4⟩ := ph_lt hN hp (c p)
  have a1 := (hM.2 p hp).1
  have hms := fun l (hl : l < nL N) => mk_sup (p := p) hK hl
  generalize hfs : plusS N lk = fs at *
  generalize hae : c p % nH N p = a at *
  rw [fX11_supply]
  have key : Ok (fX11_supply_l2 (nI p) FU 0 X) (fun m => Fr [1238, 1241] X m ∧ (∀ l, l < nL N → mI m 1238 0 l = nI (mk N fs c l + (tkA N p a l - mk N fs c l))) ∧ ∀ l, l < nL N → mI m 1241 0 l = nI (lk l + (tkA N p a l - mk N fs c l))) := by
    refine loop0 (fun n i m => fX11_supply_l2 (nI p) n i m) (nL N) (fun i m => Fr [1238, 1241] X m ∧ (∀ l, l < nL N → mI m 1238 0 l = nI (if l < i then mk N fs c l + (tkA N p a l - mk N fs c l) else mk N fs c l)) ∧ ∀ l, l < nL N → mI m 1241 0 l = nI (if l < i then lk l + (tkA N p a l - mk N fs c l) else lk l)) _ (by omega) ?_ ?_ X ⟨Fr.refl, fun l hl => by rw [if_neg (by omega)]; exact hM.1 l hl, fun l hl => by rw [if_neg (by omega)]; exact h4 l hl⟩
    · rintro n m ⟨F, h1, h2⟩
      rw [fX11_supply_l2, F.oI (by decide), hG.1.2, if_pos (nI_le (Nat.le_refl _) (by omega))]
      exact ok_some ⟨F, fun l hl => by rw [h1 l hl, if_pos hl], fun l hl => by rw [h2 l hl, if_pos hl]⟩
    · rintro n i m hi ⟨F, h1, h2⟩ kk
      have hg := hG.2.2.1 i hi
      have hq := hG.2.2.2 i a hi ha4
      have hti := (hN.2.2.1 i hi).2.1
      have ob := mk_le hN hB hK hi
      have hk50 := (hN.2.2.2 i a hi ha4).2.1
      have i1 := h1 i hi
      have i2 := h2 i hi
      rw [if_neg (Nat.lt_irrefl _)] at i1 i2
      have e4 : 4 * nI i + nI a = nI (4 * i + a) := by rw [L32 4, pk_mul, nI_add]
      have same : tkA N p a i ≤ mk N fs c i → Ok (bnd (nI i + 1) fun x14 => fX11_supply_l2 (nI p) n x14 m) (fun m => Fr [1238, 1241] X m ∧ (∀ l, l < nL N → mI m 1238 0 l = nI (mk N fs c l + (tkA N p a l - mk N fs c l))) ∧ ∀ l, l < nL N → mI m 1241 0 l = nI (lk l + (tkA N p a l - mk N fs c l))) := fun z => by
        rw [bnd_eq, nI_1]
        refine kk m ⟨F, fun l hl => ?_, fun l hl => ?_⟩
        · rw [h1 l hl]
          by_cases e : l = i
          · subst e; rw [if_neg (by omega), if_pos (by omega)]; congr 1; omega
          · by_cases q : l < i
            · rw [if_pos q, if_pos (by omega)]
            · rw [if_neg q, if_neg (by omega)]
        · rw [h2 l hl]
          by_cases e : l = i
          · subst e; rw [if_neg (by omega), if_pos (by omega)]; congr 1; omega
          · by_cases q : l < i
            · rw [if_pos q, if_pos (by omega)]
            · rw [if_neg q, if_neg (by omega)]
      rw [fX11_supply_l2, F.oI (by decide), hG.1.2, if_neg (nI_ge hi (by omega)), F.n, ln1214 hl, chk_nI (by omega) (by omega), nI_clamp (by omega), F.aI (k := 1214) (by decide), hg.2.1]
      by_cases e : nT N i = p
      · have et : tkA N p a i = nK N i a := if_pos e
        rw [if_pos (by rw [e]), F.n, ln1239 hl, chk_nI (by omega) (by omega), nI_clamp (by omega), F.aI (k := 1239) (by decide), a1, e4, F.n, ln1216 hl, chk_nI (by omega) (by omega), nI_clamp (by omega), F.aI (k := 1216) (by decide), hq.2, F.n, ln1238 hl, chk_nI (by omega) (by omega), i1, Option.bind_some]
        have hsub : (nI (nK N i a) - nI (mk N fs c i)).toInt = (nK N i a : Int) - mk N fs c i := pk_sub_toInt (by omega) (by omega)
        by_cases q : nK N i a ≤ mk N fs c i
        · have hle : nI (nK N i a) - nI (mk N fs c i) ≤ 0 := by
            rw [Int32.le_iff_toInt_le, hsub]
            have : (0 : Int32).toInt = 0 := by decide
            omega
          rw [if_pos hle, Option.bind_some]
          exact same (by omega)
        · have hnle : ¬ nI (nK N i a) - nI (mk N fs c i) ≤ 0 := by
            rw [Int32.le_iff_toInt_le, hsub]
            have : (0 : Int32).toInt = 0 := by decide
            omega
          rw [if_neg hnle, chk_nI (by omega) (by omega), chk_nI (by omega) (by omega), bnd_eq, pk_sub (by omega), nI_add, mN_sI, F.n, ln1241 hl, chk_nI (by omega) (by omega), chk_nI (by omega) (by omega), bnd_eq, mI_sI, if_neg (by simp), i2, nI_add, Option.bind_some, bnd_eq, nI_1]
          refine kk _ ⟨(F.wI (by decide)).wI (by decide), fun l hl' => ?_, fun l hl' => ?_⟩
          · rw [mI_sI, if_neg (by simp), mI_sI]
            by_cases z : l = i
            · rw [if_pos ⟨rfl, rfl, z⟩, if_pos (by omega), z, et]
            · rw [if_neg (fun y => z y.2.2), h1 l hl']
              by_cases q : l < i
              · rw [if_pos q, if_pos (by omega)]
              · rw [if_neg q, if_neg (by omega)]
          · rw [mI_sI]
            by_cases z : l = i
            · rw [if_pos ⟨rfl, rfl, z⟩, if_pos (by omega), z, et]
            · rw [if_neg (fun y => z y.2.2), mI_sI, if_neg (by simp), h2 l hl']
              by_cases q : l < i
              · rw [if_pos q, if_pos (by omega)]
              · rw [if_neg q, if_neg (by omega)]
      · rw [if_neg (fun q => e ((nI_eq (by omega) (by omega)).mp q)), Option.bind_some, if_pos (by decide), Option.bind_some]
        exact same (by rw [tkA, if_neg e]; exact Nat.zero_le _)
  refine ok_call key ?_
  rintro m ⟨F, k1, k2⟩
  refine ok_some ⟨F, ⟨fun l hl' => ?_, fun q hq => ?_⟩, k2⟩
  · rw [k1 l hl', hms l hl']
  · rw [F.aI (by decide), F.aI (by decide)]; exact hM.2 q hq
def kLk : List Nat := [1238, 1239, 1240, 1241]
theorem m_l50 {N : NG} {R : Nat → Nat} (hN : NOK N) (hR : (∀ p, p < nP N → R p ≤ 1000) ∧ sumTo R (nP N) ≤ 2000) (z1 : Int32) : ∀ d n c lk X b, 2 * sumTo (fun q => R q - c q) (nP N) + b ≤ d → d < n → (b = 1 ∨ (b = 0 ∧ ∃ p, p < nP N ∧ en N R (plusS N lk) c p)) → (∀ l, l < nL N → lk l + 50 * b ≤ 50 * (sumTo c (nP N) + 1)) → Len X → Gr X N → MX X N R (plusS N lk) c → L41 X N lk → rch N R (plusS N lk) c →
    Ok (fX11_lacks_l50 z1 n X) (fun m => Fr kLk X m ∧ ∃ k lk', FLn N R k (plusS N lk) (plusS N lk') ∧ L41 m N lk' ∧ ∀ l, l < nL N → lk' l ≤ 200000) := by
  have hb := hN.1
  intro d
  induction d with
  | zero =>
    intro n c lk X b hd hn hbb hlk hl hG hM h4 hr
    rcases hbb with rfl | ⟨rfl, p, hp, he⟩
    · omega
    · have := sum_fi hp he.1
      omega
  | succ d ih =>
    intro n c lk X b hd hn hbb hlk hl hG hM h4 hr
    obtain ⟨n, rfl⟩ : ∃ m, n = m + 1 := ⟨n - 1, by omega⟩
    have hK := rch_ok hr
    have hsc : sumTo c (nP N) ≤ 2000 := Nat.le_trans (sumTo_le (fun p hp => hK.1 p hp)) hR.2
    have hB : RB N R (plusS N lk) := ⟨hR.1, fun l hl' => by have := hlk l hl'; have := (hN.2.2.1 l hl').2.2; show nS N l + lk l ≤ 1000000; omega, hR.2⟩
    rw [fX11_lacks_l50]
    rcases m_left hN hl hG hM hB with ⟨p, hp, c1, c2, e⟩ | ⟨c1, e⟩
    · rw [e, Option.bind_some, if_neg (nI_pos (by omega))]
      rcases m_least hN hl hG hM hB hK with ⟨q, hq, h1, -, e2⟩ | ⟨h1, e2⟩
      · rw [e2, Option.bind_some, if_neg (nI_pos (by omega))]
        refine ok_call (ok_call (m_fire hN hl hG hM hB hK hq h1) (fun m h => ok_some h)) ?_
        rintro m ⟨F, hM2⟩
        have hs := sum_fi hq h1.1
        have hu := sum_up (c := c) hq
        refine (ih n (fi c q) lk m 1 (by omega) (by omega) (Or.inl rfl) (fun l hl' => by have := hlk l hl'; rw [hu]; omega) (hl.fr F) (hG.fr F (by decide)) hM2 (fun l hl' => (F.aI (by decide)).trans (h4 l hl')) (rch_run (ps := [q]) hr ⟨⟨hq, h1⟩, trivial⟩)).mono ?_
        rintro m2 ⟨F2, r⟩
        exact ⟨(F.mono (by decide)).step F2 (by decide), r⟩
      · rw [e2, Option.bind_some, if_pos (by decide), Option.bind_some]
        refine ok_call (ok_call (m_supply hN hl hG hM hB hK h4 hp) (fun m h => ok_some h)) ?_
        rintro m ⟨F, hM2, h42⟩
        have b1 : b = 1 := by
          rcases hbb with q | ⟨-, q, hq, hq2⟩
          · exact q
          · exact absurd hq2 (h1 q hq)
        subst b1
        have es : sup N (plusS N lk) c p = plusS N (fun l => lk l + (tkA N p (c p % nH N p) l - mk N (plusS N lk) c l)) := funext fun l => by
          show nS N l + lk l + _ = nS N l + (lk l + _)
          omega
        have hsl := fun l hl' => sup_le (fs := plusS N lk) (c := c) (l := l) hN hp hl'
        have hen := en_sup hK c1
        have hr2 := rch_mono (fun l _ => sup_ge (N := N) (fs := plusS N lk) (c := c) (p := p) (l := l)) hr
        rw [es] at hM2 hen hr2 hsl
        refine (ih n c _ m 0 (by omega) (by omega) (Or.inr ⟨rfl, p, hp, hen⟩) (fun l hl' => ?_) (hl.fr F) (hG.fr F (by decide)) hM2 h42 hr2).mono ?_
        · have h1 := hlk l hl'
          have h2 := hsl l hl'
          have h2 : nS N l + (lk l + (tkA N p (c p % nH N p) l - mk N (plusS N lk) c l)) ≤ nS N l + lk l + 50 := h2
          show lk l + (tkA N p (c p % nH N p) l - mk N (plusS N lk) c l) + 50 * 0 ≤ _
          omega
        · rintro m2 ⟨F2, k, lk', r1, r2⟩
          refine ⟨(F.mono (by decide)).step F2 (by decide), k + 1, lk', ⟨c, p, hr, h1, hp, c1, c2, ?_⟩, r2⟩
          rw [es]; exact r1
    · rw [e, Option.bind_some, if_pos (by decide)]
      exact ok_some ⟨Fr.refl, 0, lk, ⟨rfl, c, hr, fun p hp he => c1 p hp he.1, c1⟩, h4, fun l hl' => by have := hlk l hl'; omega⟩
theorem L41_up {X m : tM} {N : NG} {lk : Nat → Nat} {l v : Nat} (h : ∀ q, q < nL N → mI m 1241 0 q = if q = l then nI v else nI (lk q)) : L41 m N (upk lk l v) := fun q hq => by
  rw [h q hq, upk]; split <;> rfl
theorem m_l98 {N : NG} {R : Nat → Nat} {l : Nat} (hN : NOK N) (hr : rndOf N = .inl R) (hl' : l < nL N) (z1 : Int32) : ∀ d n lk X, lk l = d → d + 1 < n → (∀ q, q < nL N → lk q ≤ 200000) → Len X → Gr X N → (∀ p, p < nP N → mI X 1235 0 p = nI (R p)) → L41 X N lk → ¬ stk N R (plusS N lk) →
    Ok (fX11_lacks_l98 z1 (nI l) n 1 X) (fun m => Fr kLk X m ∧ ∃ v, v ≤ lk l ∧ isM N R lk l v ∧ L41 m N (upk lk l v)) := by
  have hb := hN.1
  have hR := rnd_le hr
  have upself : ∀ lk : Nat → Nat, upk lk l (lk l) = lk := fun lk => funext fun q => by
    by_cases e : q = l
    · rw [e, upk_same]
    · rw [upk_ne e]
  intro d
  induction d with
  | zero =>
    intro n lk X hd hn hbd hl hG hR5 h4 hs
    obtain ⟨n, rfl⟩ : ∃ m, n = m + 1 := ⟨n - 1, by omega⟩
    rw [fX11_lacks_l98, if_neg (by decide), ln1241 hl, chk_nI (by omega) (by omega), nI_clamp (by omega), h4 l hl', hd, if_pos (by decide)]
    refine ok_some ⟨Fr.refl, 0, Nat.zero_le _, ⟨?_, Or.inl rfl⟩, ?_⟩
    · rw [← hd, upself]; exact hs
    · rw [← hd, upself]; exact h4
  | succ d ih =>
    intro n lk X hd hn hbd hl hG hR5 h4 hs
    obtain ⟨n, rfl⟩ : ∃ m, n = m + 1 := ⟨n - 1, by omega⟩
    have hbl := hbd l hl'
    have e1 : nI (lk l) - 1 = nI d := by rw [hd, L32 1, pk_sub (by omega)]; rfl
    rw [fX11_lacks_l98, if_neg (by decide), ln1241 hl, chk_nI (by omega) (by omega), nI_clamp (by omega), h4 l hl', if_neg (nI_nle (by omega) (by omega)), chk_nI (by omega) (by omega), chk_nI (by omega) (by omega), bnd_eq, e1]
    have F1 : Fr [1241] X (sI X 1241 0 l (nI d)) := Fr.refl.wI (by decide)
    have h41 : L41 (sI X 1241 0 l (nI d)) N (upk lk l d) := L41_up (X := X) (fun q hq => by
      rw [mI_sI]
      by_cases e : q = l
      · rw [if_pos ⟨rfl, rfl, e⟩, if_pos e]
      · rw [if_neg (fun z => e z.2.2), if_neg e]; exact h4 q hq)
    generalize sI X 1241 0 l (nI d) = X1 at *
    have hbu : ∀ q, q < nL N → upk lk l d q ≤ 200000 := fun q hq => by
      by_cases e : q = l
      · rw [e, upk_same]; omega
      · rw [upk_ne e]; exact hbd q hq
    have hB : RB N R (plusS N (upk lk l d)) := ⟨hR.1, fun q hq => by have := hbu q hq; have := (hN.2.2.1 q hq).2.2; show nS N q + upk lk l d q ≤ 1000000; omega, hR.2⟩
    have hR51 : ∀ p, p < nP N → mI X1 1235 0 p = nI (R p) := fun p hp => (F1.aI (by decide)).trans (hR5 p hp)
    refine ok_call (m_stuck (fs := plusS N (upk lk l d)) (y := 1) hN (hl.fr F1) (hG.fr F1 (by decide)) hB hR51 (fun q hq => Or.inr ⟨rfl, _, h41 q hq, rfl⟩)) ?_
    rintro ⟨x, X2⟩ ⟨F2, hx⟩
    have F2 : Fr kM X1 X2 := F2
    have F3 : Fr kLk X X2 := (F1.mono (by decide)).step F2 (by decide)
    have h42 : L41 X2 N (upk lk l d) := fun q hq => (F2.aI (by decide)).trans (h41 q hq)
    show Ok (if x = 0 then _ else _) _
    rcases hx with ⟨x1, st⟩ | ⟨x0, st⟩
    · have x1 : x = 1 := x1
      have v1 : mI X2 1241 0 l = nI d := by rw [h42 l hl', upk_same]
      rw [x1, if_neg (by decide), F3.n, ln1241 hl, chk_nI (by omega) (by omega), chk_nI (by omega) (by omega), bnd_eq, v1, nI_1]
      obtain ⟨n, rfl⟩ : ∃ m, n = m + 1 := ⟨n - 1, by omega⟩
      rw [fX11_lacks_l98, if_pos rfl]
      refine ok_some ⟨F3.wI (by decide), lk l, Nat.le_refl _, ⟨by rw [upself]; exact hs, Or.inr ?_⟩, ?_⟩
      · rw [show lk l - 1 = d by omega]; exact st
      · rw [upself]
        intro q hq
        rw [mI_sI]
        by_cases e : q = l
        · rw [if_pos ⟨rfl, rfl, e⟩, e, hd]
        · rw [if_neg (fun z => e z.2.2), h42 q hq, upk_ne e]
    · have x0 : x = 0 := x0
      rw [x0, if_pos rfl]
      have uu : ∀ v, upk (upk lk l d) l v = upk lk l v := fun v => funext fun q => by
        by_cases e : q = l
        · rw [e, upk_same, upk_same]
        · rw [upk_ne e, upk_ne e, upk_ne e]
      refine (ih n (upk lk l d) X2 upk_same (by omega) hbu (hl.fr F3) (hG.fr F3 (by decide)) (fun p hp => (F2.aI (by decide)).trans (hR51 p hp)) h42 st).mono ?_
      rintro m ⟨F4, v, hv, hm, h43⟩
      rw [upk_same] at hv
      refine ⟨F3.step F4 (by decide), v, by omega, ?_, ?_⟩
      · unfold isM at hm ⊢
        rw [uu, uu] at hm; exact hm
      · rw [uu] at h43; exact h43
theorem m_lacks {X : tM} {N : NG} {R : Nat → Nat} {l : Nat} (hN : NOK N) (hl : Len X) (hG : Gr X N) (hr : rndOf N = .inl R) (p0 : 0 < nP N) (hl' : l < nL N) : ∃ lk X', LK N R lk ∧ fX11_lacks (nI l) X = some (nI (lk l), X') ∧ Fr (1241 :: kBM) X X' := by
  have hb := hN.1
  have hR := rnd_le hr
  have key : Ok (fX11_lacks (nI l) X) (fun w => ∃ lk, LK N R lk ∧ w.1 = nI (lk l) ∧ Fr (1241 :: kBM) X w.2) := by
    rw [fX11_lacks, mLine_in hN hG hl', Option.bind_some, if_neg (by decide)]
    refine ok_call (m_barred (y := 0) hN hl hG (Or.inl rfl)) ?_
    rintro ⟨y, X1⟩ ⟨F1, hw⟩
    have F1 : Fr kBM X X1 := F1
    show Ok (if 0 ≤ y then _ else _) _
    rcases hw with ⟨h, -⟩ | ⟨-, ⟨R', r2, w2, w3, w1⟩ | ⟨l', r2, -⟩ | ⟨r2, -⟩⟩
    · omega
    · rw [hr] at r2
      cases r2
      have w3 : ∀ p, p < nP N → mI X1 1235 0 p = nI (R p) := w3
      have y0 : y = 0 := by
        rcases w1 with ⟨w, -⟩ | ⟨-, w, -⟩
        · exact w
        · exact absurd w (by decide)
      rw [y0, if_pos (by decide)]
      have key1 : Ok (fX11_lacks_l24 (nI l) FU 0 X1) (fun m => Fr [1241] X1 m ∧ L41 m N (fun _ => 0)) := by
        refine loop0 (fun n i m => fX11_lacks_l24 (nI l) n i m) (nL N) (fun i m => Fr [1241] X1 m ∧ ∀ q, q < i → mI m 1241 0 q = 0) _ (by omega) ?_ ?_ X1 ⟨Fr.refl, fun q hq => by omega⟩
        · rintro n m ⟨F, h⟩
          rw [fX11_lacks_l24, F.oI (by decide), F1.oI (by decide), hG.1.2, if_pos (nI_le (Nat.le_refl _) (by omega))]
          exact ok_some ⟨F, fun q hq => h q hq⟩
        · rintro n i m hi ⟨F, h⟩ kk
          rw [fX11_lacks_l24, F.oI (by decide), F1.oI (by decide), hG.1.2, if_neg (nI_ge hi (by omega)), F.n, F1.n, ln1241 hl, chk_nI (by omega) (by omega), bnd_eq, bnd_eq, nI_1, nI_clamp (by omega)]
          refine kk _ ⟨F.wI (by decide), fun q hq => ?_⟩
          rw [mI_sI]
          by_cases e : q = i
          · rw [if_pos ⟨rfl, rfl, e⟩]
          · rw [if_neg (fun z => e z.2.2)]; exact h q (by omega)
      refine ok_call key1 ?_
      rintro X2 ⟨F2, h42⟩
      have G2 : Fr (1241 :: kBM) X X2 := (F1.mono (by decide)).step F2 (by decide)
      refine ok_call (m_first (fs := plusS N (fun _ => 0)) (y := 0) hN (hl.fr G2) (hG.fr G2 (by decide)) (fun p hp => (F2.aI (by decide)).trans (w3 p hp)) (fun q _ => Or.inl ⟨rfl, rfl⟩)) ?_
      rintro X3 ⟨F3, hM⟩
      have G3 : Fr (1241 :: kBM) X X3 := G2.step F3 (by decide)
      have hs0 : sumTo (fun q => R q - 0) (nP N) ≤ 2000 := Nat.le_trans (sumTo_le (fun q _ => by show R q - 0 ≤ R q; omega)) hR.2
      refine ok_call (m_l50 hN hR (nI l) 4001 FU (fun _ => 0) (fun _ => 0) X3 1 (by show 2 * sumTo (fun q => R q - 0) (nP N) + 1 ≤ 4001; omega) (FU_lt (by omega)) (Or.inl rfl) (fun q _ => by show 0 + 50 * 1 ≤ _; omega) (hl.fr G3) (hG.fr G3 (by decide)) hM (fun q hq => (F3.aI (by decide)).trans (h42 q hq)) (rch_0 _ _ _)) ?_
      rintro X4 ⟨F4, k, lk0, hF, h44, hbd⟩
      have G4 : Fr (1241 :: kBM) X X4 := G3.step F4 (by decide)
      have w34 : ∀ p, p < nP N → mI X4 1235 0 p = nI (R p) := fun p hp => (F4.aI (by decide)).trans ((F3.aI (by decide)).trans ((F2.aI (by decide)).trans (w3 p hp)))
      have ns : ¬ stk N R (plusS N lk0) := by
        have : ∀ k fs e, FLn N R k fs e → ¬ stk N R e := by
          intro k
          induction k with
          | zero =>
            rintro fs e ⟨rfl, c, h1, h2, h3⟩ hs
            obtain ⟨p, hp, h⟩ := (stk_rch hN h1 h2).mp hs
            exact h3 p hp h
          | succ k ih => rintro fs e ⟨c, p, -, -, -, -, -, h⟩; exact ih _ _ h
        exact this _ _ _ hF
      have key2 : Ok (fX11_lacks_l87 (nI l) FU 0 X4) (fun m => Fr kLk X4 m ∧ ∃ lk, LSn N R (nL N) lk0 lk ∧ L41 m N lk) := by
        refine (loop0 (fun n i m => fX11_lacks_l87 (nI l) n i m) (nL N) (fun i m => Fr kLk X4 m ∧ ∃ lk, LSn N R i lk0 lk ∧ L41 m N lk ∧ (∀ q, q < nL N → lk q ≤ 200000) ∧ ¬ stk N R (plusS N lk)) (fun m => Fr kLk X4 m ∧ ∃ lk, LSn N R (nL N) lk0 lk ∧ L41 m N lk) (by omega) ?_ ?_ X4 ⟨Fr.refl, lk0, rfl, h44, hbd, ns⟩)
        · rintro n m ⟨F, lk, h1, h2, -⟩
          have G : Fr (1241 :: kBM) X m := G4.step F (by decide)
          rw [fX11_lacks_l87, G.oI (by decide), hG.1.2, if_pos (nI_le (Nat.le_refl _) (by omega))]
          exact ok_some ⟨F, lk, h1, h2⟩
        · rintro n i m hi ⟨F, lk, h1, h2, h3, h4⟩ kk
          have G : Fr (1241 :: kBM) X m := G4.step F (by decide)
          rw [fX11_lacks_l87, G.oI (by decide), hG.1.2, if_neg (nI_ge hi (by omega))]
          have hbi := h3 i hi
          refine ok_call (m_l98 hN hr hi (nI l) _ FU lk m rfl (FU_lt (by omega)) h3 (hl.fr G) (hG.fr G (by decide)) (fun p hp => (F.aI (by decide)).trans (w34 p hp)) h2 h4) ?_
          rintro m2 ⟨F5, v, hv, hm, h5⟩
          rw [bnd_eq, nI_1]
          refine kk m2 ⟨F.step F5 (by decide), upk lk i v, ⟨lk, h1, v, hm, rfl⟩, h5, fun q hq => ?_, hm.1⟩
          by_cases e : q = i
          · rw [e, upk_same]; omega
          · rw [upk_ne e]; exact h3 q hq
      refine ok_call key2 ?_
      rintro X5 ⟨F5, lk, hls, h45⟩
      have G5 : Fr (1241 :: kBM) X X5 := G4.step F5 (by decide)
      rw [G5.n, ln1241 hl, chk_nI (by omega) (by omega), nI_clamp (by omega)]
      exact ok_some ⟨lk, ⟨k, lk0, hF, hls⟩, h45 l hl', G5⟩
    · rw [hr] at r2; cases r2
    · rw [hr] at r2; cases r2
  obtain ⟨⟨v, X'⟩, e, lk, h1, h2, h3⟩ := key
  have h2 : v = nI (lk l) := h2
  exact ⟨lk, X', h1, by rw [e, h2], h3⟩
