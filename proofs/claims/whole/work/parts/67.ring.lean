/-! RINGS of waits: the edge e goes from wf e (who waits) to wa e (for whom); w e its weight -/
theorem pigeon : ∀ (n : Nat) (f : Nat → Nat), (∀ i, i ≤ n → f i < n) → ∃ i j, i < j ∧ j ≤ n ∧ f i = f j
  | 0, f, h => absurd (h 0 (Nat.le_refl 0)) (Nat.not_lt_zero _)
  | n + 1, f, h => by
    by_cases hx : ∃ i, i ≤ n ∧ f i = f (n + 1)
    · obtain ⟨i, hi, e⟩ := hx
      exact ⟨i, n + 1, by omega, Nat.le_refl _, e⟩
    · have hx' : ∀ i, i ≤ n → ¬ f i = f (n + 1) := fun i hi e => hx ⟨i, hi, e⟩
      obtain ⟨i, j, hij, hj, e⟩ := pigeon n (fun i => if f i = n then f (n + 1) else f i) (by
        intro i hi
        have h1 := h i (by omega)
        have h2 := h (n + 1) (Nat.le_refl _)
        have h3 := hx' i hi
        show (if f i = n then f (n + 1) else f i) < n
        split <;> omega)
      refine ⟨i, j, hij, by omega, ?_⟩
      have h3 := hx' i (by omega)
      have h4 := hx' j hj
      have e' : (if f i = n then f (n + 1) else f i) = (if f j = n then f (n + 1) else f j) := e
      split at e' <;> split at e' <;> omega
def it (f : Nat → Nat) : Nat → Nat → Nat
  | 0, v => v
  | k + 1, v => it f k (f v)
theorem it_add (f : Nat → Nat) : ∀ (a b v : Nat), it f (a + b) v = it f b (it f a v)
  | 0, b, v => by rw [Nat.zero_add]; rfl
  | a + 1, b, v => by rw [show a + 1 + b = (a + b) + 1 by omega, it, it, it_add f a b]
theorem it_succ (f : Nat → Nat) (k v : Nat) : it f (k + 1) v = f (it f k v) := by
  rw [it_add f k 1]; rfl
/-- where so many steps lead there is a ring -/
theorem it_ring {f : Nat → Nat} {n v : Nat} (h : ∀ i, i ≤ n → it f i v < n) : ∃ k, 0 < k ∧ k ≤ n ∧ it f k (it f n v) = it f n v := by
  obtain ⟨i, j, hij, hj, e⟩ := pigeon n (fun i => it f i v) h
  refine ⟨j - i, by omega, by omega, ?_⟩
  have e : it f i v = it f j v := e
  rw [← it_add, show n + (j - i) = j + (n - i) by omega, it_add, ← e, ← it_add, show i + (n - i) = n by omega]
def isum (f : Nat → Int) (g : Nat → Nat) : Nat → Nat → Int
  | 0, _ => 0
  | k + 1, v => f v + isum f g k (g v)
def up {α : Type} (f : Nat → α) (v : Nat) (x : α) : Nat → α := fun u => if u = v then x else f u
theorem up_same {α : Type} (f : Nat → α) (v : Nat) (x : α) : up f v x v = x := if_pos rfl
theorem up_ne {α : Type} {f : Nat → α} {v u : Nat} {x : α} (h : ¬ u = v) : up f v x u = f u := if_neg h
/-- the walk over all edges again and again: d how far, b by which edge, t in which pass last, z when last -/
def BF (n m : Nat) (wf wa : Nat → Nat) (w : Nat → Int) (s j c : Nat) (d : Nat → Int) (b : Nat → Option Nat) (t z : Nat → Nat) : Prop :=
  (∀ v, v < n → 0 ≤ d v ∧ t v ≤ s + 1 ∧ z v ≤ c) ∧
  (∀ v, v < n → (b v = none ∧ t v = 0) ∨ ∃ e, b v = some e ∧ e < m ∧ wf e = v ∧ 1 ≤ t v ∧ t v ≤ t (wa e) + 1 ∧ ((z (wa e) < z v ∧ d v ≤ d (wa e) + w e) ∨ d v ≤ d (wa e) + w e - 1)) ∧
  (∀ e, e < m → t (wa e) < s → d (wa e) + w e ≤ d (wf e)) ∧
  (∀ e, e < j → e < m → t (wa e) < s + 1 → d (wa e) + w e ≤ d (wf e))
theorem bf_start {n m : Nat} {wf wa : Nat → Nat} {w : Nat → Int} : BF n m wf wa w 0 0 0 (fun _ => 0) (fun _ => none) (fun _ => 0) (fun _ => 0) :=
  ⟨fun _ _ => ⟨Int.le_refl _, Nat.zero_le _, Nat.le_refl _⟩, fun _ _ => Or.inl ⟨rfl, rfl⟩, fun _ _ h => by omega, fun _ h => by omega⟩
theorem bf_no {n m : Nat} {wf wa : Nat → Nat} {w : Nat → Int} {s j c : Nat} {d : Nat → Int} {b : Nat → Option Nat} {t z : Nat → Nat} (h : BF n m wf wa w s j c d b t z) (hn : d (wa j) + w j ≤ d (wf j)) : BF n m wf wa w s (j + 1) c d b t z :=
  ⟨h.1, h.2.1, h.2.2.1, fun e he hm ht => by
    by_cases q : e = j
    · subst q; exact hn
    · exact h.2.2.2 e (by omega) hm ht⟩
theorem bf_yes {n m : Nat} {wf wa : Nat → Nat} {w : Nat → Int} {s j c : Nat} {d : Nat → Int} {b : Nat → Option Nat} {t z : Nat → Nat} (hE : ∀ e, e < m → wf e < n ∧ wa e < n) (hj : j < m) (h : BF n m wf wa w s j c d b t z) (hy : d (wf j) < d (wa j) + w j) :
    BF n m wf wa w s (j + 1) (c + 1) (up d (wf j) (d (wa j) + w j)) (up b (wf j) (some j)) (up t (wf j) (s + 1)) (up z (wf j) (c + 1)) := by
  obtain ⟨h1, h2, h3, h4⟩ := h
  have hej := hE j hj
  have hts : s ≤ t (wa j) := by
    refine Nat.le_of_not_lt fun q => ?_
    have := h3 j hj q
    omega
  have hz : ∀ v, v < n → ¬ v = wf j → up z (wf j) (c + 1) v = z v := fun v _ q => up_ne q
  have hdge : ∀ v, d v ≤ up d (wf j) (d (wa j) + w j) v := fun v => by
    by_cases q : v = wf j
    · rw [q, up_same]; omega
    · rw [up_ne q]; exact Int.le_refl _
  refine ⟨fun v hv => ?_, fun v hv => ?_, fun e he ht => ?_, fun e he hm ht => ?_⟩
  · have k := h1 v hv
    have k2 := h1 (wf j) hej.1
    by_cases q : v = wf j
    · rw [q, up_same, up_same, up_same]
      exact ⟨by omega, by omega, by omega⟩
    · rw [up_ne q, up_ne q, up_ne q]
      exact ⟨k.1, k.2.1, by omega⟩
  · by_cases q : v = wf j
    · refine Or.inr ⟨j, by rw [q, up_same], hj, q.symm, ?_⟩
      rw [q, up_same, up_same, up_same]
      by_cases q2 : wa j = wf j
      · rw [q2, up_same, up_same, up_same]
        rw [q2] at hy
        exact ⟨by omega, by omega, Or.inr (by omega)⟩
      · rw [up_ne q2, up_ne q2, up_ne q2]
        have k := h1 (wa j) hej.2
        exact ⟨by omega, by omega, Or.inl ⟨by omega, by omega⟩⟩
    · rw [up_ne q, up_ne q, up_ne q]
      rcases h2 v hv with k | ⟨e, k1, k2, k3, k4, k5, k6⟩
      · exact Or.inl k
      · refine Or.inr ⟨e, k1, k2, k3, k4, ?_⟩
        by_cases q2 : wa e = wf j
        · rw [q2, up_same, up_same, up_same]
          rw [q2] at k5 k6
          have k := h1 v hv
          have k0 := h1 (wf j) hej.1
          rw [up_ne q]
          refine ⟨by omega, Or.inr ?_⟩
          rcases k6 with k6 | k6 <;> omega
        · rw [up_ne q2, up_ne q2, up_ne q2, up_ne q]
          exact ⟨k5, k6⟩
  · by_cases q : wa e = wf j
    · rw [q, up_same] at ht; omega
    · rw [up_ne q] at ht
      rw [up_ne q]
      exact Int.le_trans (h3 e he ht) (hdge _)
  · by_cases q : wa e = wf j
    · rw [q, up_same] at ht; omega
    · rw [up_ne q] at ht
      rw [up_ne q]
      by_cases q2 : e = j
      · subst q2
        rw [up_same]; exact Int.le_refl _
      · exact Int.le_trans (h4 e (by omega) hm ht) (hdge _)
theorem bf_next {n m : Nat} {wf wa : Nat → Nat} {w : Nat → Int} {s c : Nat} {d : Nat → Int} {b : Nat → Option Nat} {t z : Nat → Nat} (h : BF n m wf wa w s m c d b t z) : BF n m wf wa w (s + 1) 0 c d b t z :=
  ⟨fun v hv => ⟨(h.1 v hv).1, by have := (h.1 v hv).2.1; omega, (h.1 v hv).2.2⟩, h.2.1, fun e he ht => h.2.2.2 e he he ht, fun e he => by omega⟩
/-- whom a node waits for -/
def pr (wa : Nat → Nat) (b : Nat → Option Nat) (v : Nat) : Nat := wa ((b v).getD 0)
def pe (b : Nat → Option Nat) (v : Nat) : Nat := (b v).getD 0
/-- so many steps back are known -/
theorem bf_chain {n m : Nat} {wf wa : Nat → Nat} {w : Nat → Int} {s j c : Nat} {d : Nat → Int} {b : Nat → Option Nat} {t z : Nat → Nat} (hE : ∀ e, e < m → wf e < n ∧ wa e < n) (h : BF n m wf wa w s j c d b t z) {v : Nat} (hv : v < n) :
    ∀ i, i < t v → it (pr wa b) i v < n ∧ t v ≤ t (it (pr wa b) i v) + i ∧ ∃ e, b (it (pr wa b) i v) = some e := by
  intro i
  induction i with
  | zero =>
    intro hi
    refine ⟨hv, by rw [it]; omega, ?_⟩
    rcases h.2.1 v hv with k | ⟨e, k, _⟩
    · omega
    · exact ⟨e, k⟩
  | succ i ih =>
    intro hi
    obtain ⟨a1, a2, e, a3⟩ := ih (by omega)
    rcases h.2.1 _ a1 with k | ⟨e', k1, k2, k3, k4, k5, k6⟩
    · omega
    · have hp : it (pr wa b) (i + 1) v = wa e' := by
        rw [it_succ]
        show wa ((b _).getD 0) = wa e'
        rw [k1]; rfl
      rw [hp]
      have hw := (hE e' k2).2
      refine ⟨hw, by omega, ?_⟩
      rcases h.2.1 _ hw with q | ⟨e2, q, _⟩
      · omega
      · exact ⟨e2, q⟩
/-- a ring of such steps has a weight above 0 -/
theorem bf_ring {n m : Nat} {wf wa : Nat → Nat} {w : Nat → Int} {s j c : Nat} {d : Nat → Int} {b : Nat → Option Nat} {t z : Nat → Nat} (hE : ∀ e, e < m → wf e < n ∧ wa e < n) (h : BF n m wf wa w s j c d b t z) {v k : Nat} (hv : v < n) (hk : 0 < k) (hr : it (pr wa b) k v = v)
    (hd : ∀ i, i < k → ∃ e, b (it (pr wa b) i v) = some e) : 0 < isum (fun u => w (pe b u)) (pr wa b) k v := by
  have key : ∀ k v, v < n → (∀ i, i < k → ∃ e, b (it (pr wa b) i v) = some e) → it (pr wa b) k v < n ∧ ((z (it (pr wa b) k v) + k ≤ z v ∧ d v ≤ d (it (pr wa b) k v) + isum (fun u => w (pe b u)) (pr wa b) k v) ∨ d v ≤ d (it (pr wa b) k v) + isum (fun u => w (pe b u)) (pr wa b) k v - 1) := by
    intro k
    induction k with
    | zero => intro v hv _; exact ⟨hv, Or.inl ⟨by rw [it]; omega, by rw [it, isum]; omega⟩⟩
    | succ k ih =>
      intro v hv hd
      obtain ⟨e, he⟩ := hd 0 (by omega)
      have he : b v = some e := he
      rcases h.2.1 v hv with q | ⟨e', k1, k2, k3, k4, k5, k6⟩
      · rw [q.1] at he; cases he
      · have hp : pr wa b v = wa e' := by show wa ((b v).getD 0) = wa e'; rw [k1]; rfl
        have hpe : pe b v = e' := by show (b v).getD 0 = e'; rw [k1]; rfl
        have hw := (hE e' k2).2
        obtain ⟨g1, g2⟩ := ih (wa e') hw (fun i hi => by
          have := hd (i + 1) (by omega)
          rw [it, hp] at this
          exact this)
        rw [it, isum, hp, hpe]
        refine ⟨g1, ?_⟩
        rcases k6 with k6 | k6 <;> rcases g2 with g2 | g2
        · exact Or.inl ⟨by omega, by omega⟩
        · exact Or.inr (by omega)
        · exact Or.inr (by omega)
        · exact Or.inr (by omega)
  obtain ⟨-, g⟩ := key k v hv hd
  rw [hr] at g
  rcases g with g | g <;> omega
