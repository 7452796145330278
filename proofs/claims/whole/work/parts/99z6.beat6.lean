/-! beat: RINGS, their sums, and the one greatest -/
def eF (E : List ED) (e : Nat) : Nat := (E.getD e (0, 0, 0)).1
def eA (E : List ED) (e : Nat) : Nat := (E.getD e (0, 0, 0)).2.1
def eR (E : List ED) (e : Nat) : Nat := (E.getD e (0, 0, 0)).2.2
def GE (n : Nat) (ps : Nat → Nat) (E : List ED) : Prop := ∀ e, e < E.length → eF E e < n ∧ eA E e < n ∧ eR E e ≤ 60 ∧ (eR E e = 0 → ps (eA E e) < ps (eF E e))
theorem gdE_mem {l : List ED} {t : Nat} (h : t < l.length) : l.getD t (0, 0, 0) ∈ l := by
  simp [List.getD, List.getElem?_eq_getElem h]
theorem GE_of {n : Nat} {ps : Nat → Nat} {E : List ED} (h : ∀ e, e ∈ E → edOK n ps e) : GE n ps E := fun _ he => h _ (gdE_mem he)
def sm (g f : Nat → Nat) : Nat → Nat → Nat
  | 0, _ => 0
  | k + 1, v => g v + sm g f k (f v)
theorem sm_le {g f : Nat → Nat} {c : Nat} : ∀ {k v : Nat}, (∀ i, i < k → g (it f i v) ≤ c) → sm g f k v ≤ c * k := by
  intro k
  induction k with
  | zero => intro v _; exact Nat.le_refl _
  | succ k ih =>
    intro v h
    have h0 : g v ≤ c := h 0 (by omega)
    have h1 := ih (v := f v) (fun i hi => h (i + 1) (by omega))
    rw [sm, Nat.mul_succ]; omega
theorem sm_sum {g f : Nat → Nat} : ∀ {k v : Nat}, sm g f k v = sumTo (fun i => g (it f i v)) k := by
  have hs : ∀ (h : Nat → Nat) k, sumTo h (k + 1) = h 0 + sumTo (fun i => h (i + 1)) k := by
    intro h k
    induction k with
    | zero => show 0 + h 0 = h 0 + 0; omega
    | succ k ih =>
      rw [sumTo, ih]
      show h 0 + _ + h (k + 1) = h 0 + (_ + h (k + 1))
      omega
  intro k
  induction k with
  | zero => intro v; rfl
  | succ k ih =>
    intro v
    rw [sm, hs, ih]; rfl
theorem sm_shift {g f : Nat → Nat} : ∀ {k v : Nat}, sm (fun u => g (f u)) f k v + g v = sm g f k v + g (it f k v) := by
  intro k
  induction k with
  | zero => intro v; rfl
  | succ k ih =>
    intro v
    have h := ih (v := f v)
    rw [sm, sm, it]; omega
theorem sum_inj {n : Nat} : ∀ {k : Nat} {f g : Nat → Nat}, (∀ i, i < k → g i < n) → (∀ i j, i < j → j < k → ¬ g i = g j) → sumTo (fun i => f (g i)) k ≤ sumTo f n := by
  intro k
  induction k with
  | zero => intro f g _ _; exact Nat.zero_le _
  | succ k ih =>
    intro f g h1 h2
    have hk := h1 k (by omega)
    have e1 : sumTo f n = sumTo (fun v => if v = g k then 0 else f v) n + f (g k) := sumTo_upd hk (by show f (g k) = (if g k = g k then 0 else f (g k)) + f (g k); rw [if_pos rfl]; omega) (fun j _ hne => by show f j = if j = g k then 0 else f j; rw [if_neg hne])
    have e2 := ih (f := fun v => if v = g k then 0 else f v) (g := g) (fun i hi => h1 i (by omega)) (fun i j hij hj => h2 i j hij (by omega))
    have e3 : sumTo (fun i => (fun v => if v = g k then 0 else f v) (g i)) k = sumTo (fun i => f (g i)) k := sumTo_congr (fun i hi => if_neg (h2 i k hi (by omega)))
    have e4 := Nat.le_trans (Nat.le_of_eq e3.symm) e2
    rw [sumTo, e1]
    exact Nat.add_le_add_right e4 _
/-- a RING of waits: b tells by which edge; T its sum of TIMES, r the ROUNDS it goes back -/
def rngE (E : List ED) (t : Nat → Nat) (b : Nat → Nat) (v k T r : Nat) : Prop := 0 < k ∧ it (fun u => eA E (b u)) k v = v ∧ (∀ i, i < k → b (it (fun u => eA E (b u)) i v) < E.length ∧ eF E (b (it (fun u => eA E (b u)) i v)) = it (fun u => eA E (b u)) i v) ∧ T = sm t (fun u => eA E (b u)) k v ∧ r = sm (fun u => eR E (b u)) (fun u => eA E (b u)) k v
def rng (E : List ED) (t : Nat → Nat) (T r : Nat) : Prop := ∃ b v k, rngE E t b v k T r
def pot (E : List ED) (t : Nat → Nat) (p q : Nat) : Prop := ∃ D : Nat → Int, ∀ e, e < E.length → D (eA E e) + (q : Int) * (t (eF E e) : Int) - (p : Int) * (eR E e : Int) ≤ D (eF E e)
theorem pot_ring {E : List ED} {t : Nat → Nat} {p q T r : Nat} (h : pot E t p q) (hr : rng E t T r) : q * T ≤ p * r := by
  obtain ⟨D, hD⟩ := h
  obtain ⟨b, v, k, hk, hc, he, rfl, rfl⟩ := hr
  have key : ∀ k v, (∀ i, i < k → b (it (fun u => eA E (b u)) i v) < E.length ∧ eF E (b (it (fun u => eA E (b u)) i v)) = it (fun u => eA E (b u)) i v) → D (it (fun u => eA E (b u)) k v) + (q : Int) * (sm t (fun u => eA E (b u)) k v : Int) - (p : Int) * (sm (fun u => eR E (b u)) (fun u => eA E (b u)) k v : Int) ≤ D v := by
    intro k
    induction k with
    | zero => intro v _; simp [it, sm]
    | succ k ih =>
      intro v h
      have h0 := h 0 (by omega)
      have h0a : b v < E.length := h0.1
      have h0b : eF E (b v) = v := h0.2
      have h1 := ih (eA E (b v)) (fun i hi => h (i + 1) (by omega))
      have h2 := hD (b v) h0a
      rw [h0b] at h2
      rw [it, sm, sm]
      show D (it (fun u => eA E (b u)) k (eA E (b v))) + (q : Int) * ((t v + sm t (fun u => eA E (b u)) k (eA E (b v)) : Nat) : Int) - (p : Int) * ((eR E (b v) + sm (fun u => eR E (b u)) (fun u => eA E (b u)) k (eA E (b v)) : Nat) : Int) ≤ D v
      generalize sm t (fun u => eA E (b u)) k (eA E (b v)) = A at *
      generalize sm (fun u => eR E (b u)) (fun u => eA E (b u)) k (eA E (b v)) = B at *
      rw [Int.natCast_add, Int.natCast_add, Int.mul_add, Int.mul_add]
      omega
  have := key k v he
  rw [hc] at this
  have e : (q : Int) * (sm t (fun u => eA E (b u)) k v : Int) ≤ (p : Int) * (sm (fun u => eR E (b u)) (fun u => eA E (b u)) k v : Int) := by omega
  exact_mod_cast e
theorem rng_pos {n : Nat} {ps : Nat → Nat} {E : List ED} {t : Nat → Nat} {T r : Nat} (hE : GE n ps E) (h : rng E t T r) : 1 ≤ r := by
  obtain ⟨b, v, k, hk, hc, he, -, rfl⟩ := h
  refine Nat.pos_of_ne_zero fun z => ?_
  have key : ∀ k v, (∀ i, i < k → b (it (fun u => eA E (b u)) i v) < E.length ∧ eF E (b (it (fun u => eA E (b u)) i v)) = it (fun u => eA E (b u)) i v) → sm (fun u => eR E (b u)) (fun u => eA E (b u)) k v = 0 → ps (it (fun u => eA E (b u)) k v) + k ≤ ps v := by
    intro k
    induction k with
    | zero => intro v _ _; exact Nat.le_refl _
    | succ k ih =>
      intro v h z
      have h0 := h 0 (by omega)
      have h0a : b v < E.length := h0.1
      have h0b : eF E (b v) = v := h0.2
      rw [sm] at z
      have z1 : eR E (b v) = 0 := by omega
      have z2 : sm (fun u => eR E (b u)) (fun u => eA E (b u)) k (eA E (b v)) = 0 := by omega
      have h1 := ih (eA E (b v)) (fun i hi => h (i + 1) (by omega)) z2
      have h2 := (hE (b v) h0a).2.2.2 z1
      rw [h0b] at h2
      rw [it]
      show ps (it (fun u => eA E (b u)) k (eA E (b v))) + (k + 1) ≤ ps v
      omega
  have := key k v he z
  rw [hc] at this
  omega
/-- THE BEAT as p by q -/
def BT (E : List ED) (t : Nat → Nat) (p q : Nat) : Prop := 0 < q ∧ Nat.Coprime p q ∧ pot E t p q ∧ ((p = 0 ∧ q = 1) ∨ ∃ T r, rng E t T r ∧ p * r = q * T)
theorem BT_le {n : Nat} {ps : Nat → Nat} {E : List ED} {t : Nat → Nat} {p q p' q' : Nat} (hE : GE n ps E) (h : BT E t p q) (h' : BT E t p' q') : p' * q ≤ p * q' := by
  rcases h'.2.2.2 with ⟨z, -⟩ | ⟨T, r, hr, e⟩
  · rw [z, Nat.zero_mul]; exact Nat.zero_le _
  · have h1 := pot_ring h.2.2.1 hr
    have h2 := rng_pos hE hr
    refine Nat.le_of_mul_le_mul_right (c := r) ?_ h2
    calc p' * q * r = (p' * r) * q := by ac_rfl
      _ = q' * T * q := by rw [e]
      _ = q' * (q * T) := by ac_rfl
      _ ≤ q' * (p * r) := Nat.mul_le_mul_left _ h1
      _ = p * q' * r := by ac_rfl
theorem BT_uniq {n : Nat} {ps : Nat → Nat} {E : List ED} {t : Nat → Nat} {p q p' q' : Nat} (hE : GE n ps E) (h : BT E t p q) (h' : BT E t p' q') : p = p' ∧ q = q' := by
  have h1 := BT_le hE h h'
  have h2 := BT_le hE h' h
  have e : q' * p = q * p' := by rw [Nat.mul_comm q', Nat.mul_comm q]; omega
  have a := red_uniq (x := q) (y := p) (a := q') (b := p') h.1 h'.2.1.symm e
  have b := red_one h.1 h.2.1.symm
  exact ⟨by rw [a.2, b.2], by rw [a.1, b.1]⟩
/-- how far the turns have come -/
def phi (c p q : Nat) : Nat := sumTo (fun r => min ((r + 1) * p / q) 60000) c
theorem sumTo_lt {f g : Nat → Nat} {n i : Nat} (h : ∀ j, j < n → f j ≤ g j) (hi : i < n) (hs : f i < g i) : sumTo f n < sumTo g n := by
  induction n with
  | zero => omega
  | succ n ih =>
    rw [sumTo, sumTo]
    have h1 := h n (by omega)
    by_cases e : i = n
    · subst e
      have := sumTo_le (f := f) (g := g) (n := i) (fun j hj => h j (by omega))
      omega
    · have := ih (fun j hj => h j (by omega)) (by omega)
      omega
theorem phi_le {c p q : Nat} : phi c p q ≤ 60000 * c := by
  unfold phi
  induction c with
  | zero => exact Nat.le_refl _
  | succ c ih =>
    rw [sumTo, Nat.mul_succ]
    show _ + min ((c + 1) * p / q) 60000 ≤ _
    omega
theorem phi_lt {c p q p' q' T r : Nat} (hq : 0 < q) (hq' : 0 < q') (h : p * q' < p' * q) (h1 : 1 ≤ r) (h2 : r ≤ c) (hT : T ≤ 60000) (e : p' * r = q' * T) : phi c p q < phi c p' q' := by
  refine sumTo_lt (i := r - 1) (fun j hj => ?_) (by omega) ?_
  · show min ((j + 1) * p / q) 60000 ≤ min ((j + 1) * p' / q') 60000
    have : (j + 1) * p / q ≤ (j + 1) * p' / q' := by
      rw [Nat.le_div_iff_mul_le hq']
      refine Nat.le_of_mul_le_mul_right (c := q) ?_ hq
      have a := Nat.div_mul_le_self ((j + 1) * p) q
      calc (j + 1) * p / q * q' * q = ((j + 1) * p / q * q) * q' := by ac_rfl
        _ ≤ (j + 1) * p * q' := Nat.mul_le_mul_right _ a
        _ = (j + 1) * (p * q') := by ac_rfl
        _ ≤ (j + 1) * (p' * q) := Nat.mul_le_mul_left _ (by omega)
        _ = (j + 1) * p' * q := by ac_rfl
    omega
  · show min ((r - 1 + 1) * p / q) 60000 < min ((r - 1 + 1) * p' / q') 60000
    rw [Nat.sub_add_cancel h1]
    have e1 : r * p' / q' = T := by rw [Nat.mul_comm, e, Nat.mul_comm, Nat.mul_div_cancel _ hq']
    have e2 : r * p / q < T := by
      rw [Nat.div_lt_iff_lt_mul hq]
      refine Nat.lt_of_mul_lt_mul_right (a := q') ?_
      calc r * p * q' = r * (p * q') := by ac_rfl
        _ < r * (p' * q) := Nat.mul_lt_mul_of_pos_left h h1
        _ = (p' * r) * q := by ac_rfl
        _ = q' * T * q := by rw [e]
        _ = T * q * q' := by ac_rfl
    rw [e1]; omega
/-- behind more passes than there are nodes the way back leads into a ring -/
theorem bf_found {n m : Nat} {wf wa : Nat → Nat} {w : Nat → Int} {s j c : Nat} {d : Nat → Int} {b : Nat → Option Nat} {t z : Nat → Nat} (hE : ∀ e, e < m → wf e < n ∧ wa e < n) (h : BF n m wf wa w s j c d b t z) {v : Nat} (hv : v < n) (ht : n < t v) :
    (∀ x, it (pr wa b) x v < n ∧ ∃ e, b (it (pr wa b) x v) = some e) ∧ ∃ k, 0 < k ∧ k ≤ n ∧ it (pr wa b) k (it (pr wa b) n v) = it (pr wa b) n v ∧ ∀ i, 0 < i → i < k → ¬ it (pr wa b) i (it (pr wa b) n v) = it (pr wa b) n v := by
  have hch := bf_chain hE h hv
  have hlt : ∀ i, i ≤ n → it (pr wa b) i v < n := fun i hi => (hch i (by omega)).1
  obtain ⟨i, j', hij, hj, e⟩ := pigeon n (fun i => it (pr wa b) i v) hlt
  have e : it (pr wa b) i v = it (pr wa b) j' v := e
  have hall : ∀ x, ∃ y, y ≤ n ∧ it (pr wa b) x v = it (pr wa b) y v := by
    intro x
    induction x with
    | zero => exact ⟨0, by omega, rfl⟩
    | succ x ih =>
      obtain ⟨y, hy, ey⟩ := ih
      by_cases q : y = n
      · refine ⟨i + (n - j') + 1, by omega, ?_⟩
        rw [it_succ, ey, q, it_succ]
        congr 1
        rw [it_add, e, ← it_add, show j' + (n - j') = n by omega]
      · exact ⟨y + 1, by omega, by rw [it_succ, it_succ, ey]⟩
  refine ⟨fun x => ?_, ?_⟩
  · obtain ⟨y, hy, ey⟩ := hall x
    rw [ey]
    have := hch y (by omega)
    exact ⟨this.1, this.2.2⟩
  · obtain ⟨k, k1, k2, k3⟩ := it_ring hlt
    obtain ⟨k', ⟨a1, a2⟩, a3⟩ := pk_least (fun k => 0 < k ∧ it (pr wa b) k (it (pr wa b) n v) = it (pr wa b) n v) ⟨k, k1, k3⟩
    refine ⟨k', a1, ?_, a2, fun i h1 h2 h3 => a3 i h2 ⟨h1, h3⟩⟩
    exact Nat.le_of_not_lt fun q => a3 k (by omega) ⟨k1, k3⟩
/-- the nodes of such a ring differ -/
theorem ring_inj {f : Nat → Nat} {v k : Nat} (hc : it f k v = v) (hm : ∀ i, 0 < i → i < k → ¬ it f i v = v) : ∀ i j, i < j → j < k → ¬ it f i v = it f j v := by
  intro i j hij hj e
  refine hm (i + (k - j)) (by omega) (by omega) ?_
  rw [it_add, e, ← it_add, show j + (k - j) = k by omega, hc]
