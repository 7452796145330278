/-! MARKINGS as counts of FIRINGS: c p = how often the PART p has fired -/
def gsum (f : Nat → Nat) (h : Nat) : Nat → Nat
  | 0 => 0
  | n + 1 => gsum f h n + f (n % h)
theorem gsum_mono (f : Nat → Nat) (h : Nat) {a b : Nat} (hab : a ≤ b) : gsum f h a ≤ gsum f h b := by
  induction b with
  | zero => rw [Nat.le_zero.mp hab]; exact Nat.le_refl _
  | succ b ih =>
    by_cases e : a = b + 1
    · rw [e]; exact Nat.le_refl _
    · exact Nat.le_trans (ih (by omega)) (Nat.le_add_right _ _)
theorem gsum_le (f : Nat → Nat) (h m : Nat) (hf : ∀ i, i < h → f i ≤ m) (h0 : 0 < h) (n : Nat) : gsum f h n ≤ m * n := by
  induction n with
  | zero => exact Nat.le_refl _
  | succ n ih =>
    have := hf (n % h) (Nat.mod_lt _ h0)
    rw [gsum, Nat.mul_succ]
    omega
def sumTo (f : Nat → Nat) : Nat → Nat
  | 0 => 0
  | n + 1 => sumTo f n + f n
theorem sumTo_congr {f g : Nat → Nat} {n : Nat} (h : ∀ i, i < n → f i = g i) : sumTo f n = sumTo g n := by
  induction n with
  | zero => rfl
  | succ n ih => rw [sumTo, sumTo, ih (fun i hi => h i (by omega)), h n (by omega)]
theorem sumTo_le {f g : Nat → Nat} {n : Nat} (h : ∀ i, i < n → f i ≤ g i) : sumTo f n ≤ sumTo g n := by
  induction n with
  | zero => exact Nat.le_refl _
  | succ n ih =>
    have h1 := ih (fun i hi => h i (by omega))
    have h2 := h n (by omega)
    rw [sumTo, sumTo]; omega
theorem sumTo_ge {f : Nat → Nat} {n i : Nat} (h : i < n) : f i ≤ sumTo f n := by
  induction n with
  | zero => omega
  | succ n ih =>
    rw [sumTo]
    by_cases e : i = n
    · subst e; omega
    · have := ih (by omega); omega
theorem sumTo_upd {f g : Nat → Nat} {n i d : Nat} (h : i < n) (hi : f i = g i + d) (ho : ∀ j, j < n → ¬ j = i → f j = g j) : sumTo f n = sumTo g n + d := by
  induction n with
  | zero => omega
  | succ n ih =>
    rw [sumTo, sumTo]
    by_cases e : i = n
    · subst e
      rw [sumTo_congr (fun j hj => ho j (by omega) (by omega)), hi]; omega
    · rw [ih (by omega) (fun j hj hne => ho j (by omega) hne), ho n (by omega) (by omega)]; omega
theorem sumTo_zero {f : Nat → Nat} {n : Nat} : sumTo f n = 0 ↔ ∀ i, i < n → f i = 0 := by
  induction n with
  | zero => exact ⟨fun _ i hi => by omega, fun _ => rfl⟩
  | succ n ih =>
    rw [sumTo]
    constructor
    · intro h i hi
      by_cases e : i = n
      · subst e; omega
      · exact ih.mp (by omega) i (by omega)
    · intro h
      rw [ih.mpr (fun i hi => h i (by omega)), h n (by omega)]
/-- given to a LINE, taken from it, with so many FIRINGS -/
def gN (N : NG) (l n : Nat) : Nat := gsum (nG N l) (nH N (nF N l)) n
def tN (N : NG) (l n : Nat) : Nat := gsum (nK N l) (nH N (nT N l)) n
/-- a PART may fire: R FIRINGS in a ROUND, fs things at first -/
def en (N : NG) (R fs c : Nat → Nat) (p : Nat) : Prop := c p < R p ∧ ∀ l, l < nL N → nT N l = p → tN N l (c p + 1) ≤ fs l + gN N l (c (nF N l))
def fi (c : Nat → Nat) (p : Nat) : Nat → Nat := fun q => if q = p then c q + 1 else c q
theorem fi_same (c : Nat → Nat) (p : Nat) : fi c p p = c p + 1 := if_pos rfl
theorem fi_ne {c : Nat → Nat} {p q : Nat} (h : ¬ q = p) : fi c p q = c q := if_neg h
theorem fi_ge (c : Nat → Nat) (p q : Nat) : c q ≤ fi c p q := by
  unfold fi
  split <;> omega
/-- FIRINGS, each of a PART that may fire -/
def okRun (N : NG) (R fs : Nat → Nat) : (Nat → Nat) → List Nat → Prop
  | _, [] => True
  | c, p :: ps => (p < nP N ∧ en N R fs c p) ∧ okRun N R fs (fi c p) ps
def toRun : (Nat → Nat) → List Nat → (Nat → Nat)
  | c, [] => c
  | c, p :: ps => toRun (fi c p) ps
theorem okRun_app {N : NG} {R fs : Nat → Nat} : ∀ {c : Nat → Nat} {a b : List Nat}, okRun N R fs c (a ++ b) ↔ okRun N R fs c a ∧ okRun N R fs (toRun c a) b
  | c, [], b => by simp [okRun, toRun]
  | c, p :: ps, b => by
    rw [List.cons_append, okRun, okRun, toRun, okRun_app]
    exact and_assoc.symm
theorem toRun_app : ∀ {c : Nat → Nat} {a b : List Nat}, toRun c (a ++ b) = toRun (toRun c a) b
  | _, [], _ => rfl
  | c, p :: ps, b => by rw [List.cons_append, toRun, toRun, toRun_app]
/-- none may any more -/
def dead (N : NG) (R fs c : Nat → Nat) : Prop := ∀ p, p < nP N → ¬ en N R fs c p
/-- with more things no run ends sooner -/
theorem run_below {N : NG} (hN : NOK N) {R fs fs2 d : Nat → Nat} (hf : ∀ l, l < nL N → fs l ≤ fs2 l) (hd : dead N R fs2 d) :
    ∀ (ps : List Nat) (c : Nat → Nat), okRun N R fs c ps → (∀ p, p < nP N → c p ≤ d p) → ∀ p, p < nP N → toRun c ps p ≤ d p
  | [], c, _, h => h
  | q :: ps, c, h, hc => by
    obtain ⟨⟨hq, he⟩, hr⟩ := h
    refine run_below hN hf hd ps (fi c q) hr ?_
    intro p hp
    by_cases e : p = q
    · subst e
      rw [fi_same]
      refine Nat.lt_of_le_of_ne (hc p hp) fun e => hd p hp ⟨?_, fun l hl ht => ?_⟩
      · rw [← e]; exact he.1
      · rw [← e]
        refine Nat.le_trans (he.2 l hl ht) ?_
        have h1 := gsum_mono (nG N l) (nH N (nF N l)) (hc (nF N l) (hN.2.2.1 l hl).1)
        have h2 := hf l hl
        unfold gN
        omega
    · rw [fi_ne e]; exact hc p hp
/-- all runs that end, end alike -/
theorem run_end {N : NG} (hN : NOK N) {R fs c : Nat → Nat} {a b : List Nat} (ha : okRun N R fs c a) (hb : okRun N R fs c b) (da : dead N R fs (toRun c a)) (db : dead N R fs (toRun c b))
    (ga : ∀ (ps : List Nat) (c : Nat → Nat) (p : Nat), c p ≤ toRun c ps p) : ∀ p, p < nP N → toRun c a p = toRun c b p := by
  intro p hp
  have h1 := run_below hN (fun _ _ => Nat.le_refl _) db a c ha (fun p _ => ga b c p) p hp
  have h2 := run_below hN (fun _ _ => Nat.le_refl _) da b c hb (fun p _ => ga a c p) p hp
  omega
theorem toRun_ge : ∀ (ps : List Nat) (c : Nat → Nat) (p : Nat), c p ≤ toRun c ps p
  | [], _, _ => Nat.le_refl _
  | q :: ps, c, p => Nat.le_trans (fi_ge c q p) (toRun_ge ps (fi c q) p)
/-- what is on a LINE -/
def mk (N : NG) (fs c : Nat → Nat) (l : Nat) : Nat := fs l + gN N l (c (nF N l)) - tN N l (c (nT N l))
/-- no LINE has less than nothing, no PART more FIRINGS than the ROUND has -/
def cOK (N : NG) (R fs c : Nat → Nat) : Prop := (∀ p, p < nP N → c p ≤ R p) ∧ ∀ l, l < nL N → tN N l (c (nT N l)) ≤ fs l + gN N l (c (nF N l))
theorem cOK_fi {N : NG} {R fs c : Nat → Nat} {p : Nat} (h : cOK N R fs c) (he : en N R fs c p) : cOK N R fs (fi c p) := by
  refine ⟨fun q hq => ?_, fun l hl => ?_⟩
  · by_cases e : q = p
    · subst e; rw [fi_same]; exact he.1
    · rw [fi_ne e]; exact h.1 q hq
  · have hg := gsum_mono (nG N l) (nH N (nF N l)) (fi_ge c p (nF N l))
    by_cases e : nT N l = p
    · have h1 := he.2 l hl e
      rw [e, fi_same]
      unfold gN at h1 ⊢
      omega
    · rw [fi_ne e]
      have h1 := h.2 l hl
      unfold gN at h1 ⊢
      omega
theorem cOK_run {N : NG} {R fs : Nat → Nat} : ∀ {c : Nat → Nat} {ps : List Nat}, cOK N R fs c → okRun N R fs c ps → cOK N R fs (toRun c ps)
  | _, [], h, _ => h
  | c, p :: ps, h, hr => cOK_run (c := fi c p) (ps := ps) (cOK_fi h hr.1.2) hr.2
theorem gN_le {N : NG} (hN : NOK N) {l n : Nat} (hl : l < nL N) : gN N l n ≤ 50 * n := by
  have h1 := hN.2.2.1 l hl
  have h2 := hN.2.1 (nF N l) h1.1
  exact gsum_le _ _ 50 (fun i hi => (hN.2.2.2 l i hl (by omega)).1) (by omega) n
theorem tN_le {N : NG} (hN : NOK N) {l n : Nat} (hl : l < nL N) : tN N l n ≤ 50 * n := by
  have h1 := hN.2.2.1 l hl
  have h2 := hN.2.1 (nT N l) h1.2.1
  exact gsum_le _ _ 50 (fun i hi => (hN.2.2.2 l i hl (by omega)).2.1) (by omega) n
