/-! ends of pure functions: Ok o Q = o is some a with Q a -/
def Ok {α : Type} (o : Option α) (Q : α → Prop) : Prop := ∃ a, o = some a ∧ Q a
theorem ok_some {α : Type} {a : α} {Q : α → Prop} (h : Q a) : Ok (some a) Q := ⟨a, rfl, h⟩
theorem ok_someI {α : Type} {a : α} {Q : α → Prop} : Ok (some a) Q ↔ Q a := ⟨fun ⟨_, h, q⟩ => (by cases h; exact q), ok_some⟩
theorem ok_none {α : Type} {Q : α → Prop} : Ok none Q ↔ False := ⟨fun ⟨_, h, _⟩ => (by cases h), False.elim⟩
theorem Ok.mono {α : Type} {o : Option α} {Q P : α → Prop} (h : Ok o Q) (hm : ∀ a, Q a → P a) : Ok o P := by
  obtain ⟨a, e, q⟩ := h
  exact ⟨a, e, hm a q⟩
theorem Ok.and {α : Type} {o : Option α} {Q P : α → Prop} (h : Ok o Q) (hm : ∀ a, o = some a → P a) : Ok o (fun a => Q a ∧ P a) := by
  obtain ⟨a, e, q⟩ := h
  exact ⟨a, e, q, hm a e⟩
theorem ok_bind {α β : Type} {o : Option α} {f : α → Option β} {Q : β → Prop} (h : Ok o (fun a => Ok (f a) Q)) : Ok (o.bind f) Q := by
  obtain ⟨a, e, q⟩ := h
  rw [e]
  exact q
/-- a call whose end is known -/
theorem ok_call {α β : Type} {o : Option α} {f : α → Option β} {P : α → Prop} {Q : β → Prop} (h : Ok o P) (k : ∀ a, P a → Ok (f a) Q) : Ok (o.bind f) Q := ok_bind (h.mono k)
theorem ok_eq {α β : Type} {o : Option α} {a : α} {f : α → Option β} {Q : β → Prop} (h : o = some a) (k : Ok (f a) Q) : Ok (o.bind f) Q := by rw [h]; exact k
theorem ok_chk {α : Type} {b : Bool} {k : Option α} {Q : α → Prop} (h : b = true) (hk : Ok k Q) : Ok (chk b k) Q := by rw [h]; exact hk
theorem ok_bnd {α β : Type} {a : α} {f : α → Option β} {Q : β → Prop} (h : Ok (f a) Q) : Ok (bnd a f) Q := h
theorem ok_ite {α : Type} {c : Prop} [Decidable c] {a b : Option α} {Q : α → Prop} (h1 : c → Ok a Q) (h2 : ¬ c → Ok b Q) : Ok (if c then a else b) Q := by
  by_cases h : c
  · rw [if_pos h]; exact h1 h
  · rw [if_neg h]; exact h2 h
theorem chk_tr {α : Type} {b : Bool} {k : Option α} (h : b = true) : chk b k = k := by rw [h]; rfl
theorem bnd_eq {α β : Type} (a : α) (f : α → Option β) : bnd a f = f a := rfl
theorem inb_nI {n N : Nat} (h : n < N) (hn : n < 2 ^ 31) : inb (nI n) N = true := by
  have := nI_clamp hn
  simp only [inb, Bool.not_eq_true', Bool.or_eq_false_iff, decide_eq_false_iff_not]
  exact ⟨nI_pos hn, by omega⟩
theorem chk_nI {α : Type} {n N : Nat} {k : Option α} (h : n < N) (hn : n < 2 ^ 31) : chk (inb (nI n) N) k = k := chk_tr (inb_nI h hn)
theorem inb_of {x : Int32} {N : Nat} (h : 0 ≤ x.toInt ∧ x.toInt < N) : inb x N = true := by
  have hc : x.toNatClampNeg = x.toInt.toNat := rfl
  simp only [inb, Bool.not_eq_true', Bool.or_eq_false_iff, decide_eq_false_iff_not, Int32.lt_iff_toInt_lt]
  have h0 : (0 : Int32).toInt = 0 := by decide
  omega
theorem FU_lt {n : Nat} (h : n < 1000000000) : n < FU := h
/-- counting loops: at i the state s has P i s -/
theorem loopG {β σ : Type} (f : Nat → Int32 → σ → Option β) (cnt : Nat) (P : Nat → σ → Prop) (Q : β → Prop)
    (hend : ∀ n s, P cnt s → Ok (f (n + 1) (nI cnt) s) Q)
    (hstep : ∀ n i s, i < cnt → P i s → (∀ s', P (i + 1) s' → Ok (f n (nI (i + 1)) s') Q) → Ok (f (n + 1) (nI i) s) Q) :
    ∀ n i s, i ≤ cnt → cnt - i < n → P i s → Ok (f n (nI i) s) Q := by
  intro n
  induction n with
  | zero => intro i s _ h; omega
  | succ n ih =>
    intro i s hi hn hp
    by_cases e : i = cnt
    · subst e
      exact hend n s hp
    · exact hstep n i s (by omega) hp (fun s' hs' => ih (i + 1) s' (by omega) (by omega) hs')
/-- the same from 0 on, with the fuel that the functions have -/
theorem loop0 {β σ : Type} (f : Nat → Int32 → σ → Option β) (cnt : Nat) (P : Nat → σ → Prop) (Q : β → Prop) (hc : cnt < 1000000000)
    (hend : ∀ n s, P cnt s → Ok (f (n + 1) (nI cnt) s) Q)
    (hstep : ∀ n i s, i < cnt → P i s → (∀ s', P (i + 1) s' → Ok (f n (nI (i + 1)) s') Q) → Ok (f (n + 1) (nI i) s) Q)
    (s : σ) (h : P 0 s) : Ok (f FU 0 s) Q := by
  have := loopG f cnt P Q hend hstep FU 0 s (Nat.zero_le _) (FU_lt (by omega)) h
  rwa [nI_0] at this
/-- any loop: a measure that falls -/
theorem loopW {β σ : Type} (f : Nat → σ → Option β) (P : σ → Prop) (m : σ → Nat) (Q : β → Prop)
    (hstep : ∀ n s, P s → (∀ s', P s' → m s' < m s → Ok (f n s') Q) → Ok (f (n + 1) s) Q) :
    ∀ n s, m s < n → P s → Ok (f n s) Q := by
  intro n
  induction n with
  | zero => intro s h; omega
  | succ n ih =>
    intro s hn hp
    exact hstep n s hp (fun s' hs' hm => ih s' (by omega) hs')
theorem tM_ext {a b : tM} (h1 : ∀ k i j, mI a k i j = mI b k i j) (h2 : ∀ k i j, mL a k i j = mL b k i j) (h3 : ∀ k i j, mR a k i j = mR b k i j) (h4 : ∀ k i, mN a k i = mN b k i) (h5 : ∀ k i, mE a k i = mE b k i) : a = b := by
  obtain ⟨a1, a2, a3, a4, a5⟩ := a
  obtain ⟨b1, b2, b3, b4, b5⟩ := b
  have e1 : a1 = b1 := by funext k i j; exact h1 k i j
  have e2 : a2 = b2 := by funext k i j; exact h2 k i j
  have e3 : a3 = b3 := by funext k i j; exact h3 k i j
  have e4 : a4 = b4 := by funext k i; exact h4 k i
  have e5 : a5 = b5 := by funext k i; exact h5 k i
  rw [e1, e2, e3, e4, e5]
