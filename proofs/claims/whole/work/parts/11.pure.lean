/-! what the pure functions are made of -/
def chk {α : Type} (b : Bool) (k : Option α) : Option α := if b = true then k else none
def bnd {α β : Type} (a : α) (f : α → Option β) : Option β := f a
theorem chk_some {α : Type} {b : Bool} {k : Option α} {v : α} (h : chk b k = some v) : b = true ∧ k = some v := by
  unfold chk at h
  split at h
  · exact ⟨by assumption, h⟩
  · cases h
theorem bnd_some {α β : Type} {a : α} {f : α → Option β} {v : β} (h : bnd a f = some v) : ∃ x, x = a ∧ f x = some v := ⟨a, rfl, h⟩
theorem obind_some {α β : Type} {o : Option α} {f : α → Option β} {v : β} (h : o.bind f = some v) : ∃ x, o = some x ∧ f x = some v := by
  cases o with
  | none => cases h
  | some x => exact ⟨x, rfl, h⟩
/-- an index within -/
def inb (x : Int32) (n : Nat) : Bool := !(decide (x < 0) || decide (n ≤ x.toNatClampNeg))
theorem inb_vp {x : Int32} {n : Nat} (h : inb x n = true) : vp_in x n := by
  simp only [inb, Bool.not_eq_true', Bool.or_eq_false_iff, decide_eq_false_iff_not] at h
  exact fun q => q.elim h.1 h.2
def nz4 (x : Int32) : Bool := decide (¬ x = 0)
def nz8 (x : Int64) : Bool := decide (¬ x = 0)
theorem nz4_ne {x : Int32} (h : nz4 x = true) : ¬ x = 0 := of_decide_eq_true h
theorem nz8_ne {x : Int64} (h : nz8 x = true) : ¬ x = 0 := of_decide_eq_true h
/-- a truth value -/
def tb (x : Int32) : Bool := decide (x = 0 ∨ x = 1)
theorem tb_n {x : Int32} (h : tb x = true) : narrow .boolean (.int x) = .int x := by
  rcases of_decide_eq_true h with rfl | rfl <;> decide
theorem tb_f {x : Int32} (h : tb x = true) : ∀ ad : Nat → Nat → Nat, narrow .boolean (tC ad (ti x)) = tC ad (ti x) ∧ fits .boolean (tC ad (ti x)) = true := by
  intro ad
  rcases of_decide_eq_true h with rfl | rfl
  · show narrow .boolean (.int 0) = .int 0 ∧ fits .boolean (.int 0) = true
    exact ⟨by decide, by decide⟩
  · show narrow .boolean (.int 1) = .int 1 ∧ fits .boolean (.int 1) = true
    exact ⟨by decide, by decide⟩
/-- a place that is not negative, a stretch that fits -/
def cpok (sp dp n : Int32) (a b : Nat) : Bool := !decide (sp < 0) && !decide (dp < 0) && !decide (n < 0) && decide (sp.toNatClampNeg + n.toNatClampNeg ≤ a) && decide (dp.toNatClampNeg + n.toNatClampNeg ≤ b)
theorem cpok_of {sp dp n : Int32} {a b : Nat} (h : cpok sp dp n a b = true) : ¬ sp < 0 ∧ ¬ dp < 0 ∧ ¬ n < 0 ∧ sp.toNatClampNeg + n.toNatClampNeg ≤ a ∧ dp.toNatClampNeg + n.toNatClampNeg ≤ b := by
  simp only [cpok, Bool.and_eq_true, Bool.not_eq_true', decide_eq_false_iff_not, decide_eq_true_eq] at h
  exact ⟨h.1.1.1.1, h.1.1.1.2, h.1.1.2, h.1.2, h.2⟩
/-- fuel -/
def FU : Nat := 1000000000
section TP
variable {g : tG} {y : tY} {R : Room} {mc ms : Nat} {r : Option tV} {M' : tM} {cells slots pc : Nat} {lc : List (Nat × tV)} {st : List tV} {M : tM}
theorem tm_nmI {x x' : Int32} (h : x' = x) (k : TW g y R mc ms r M' cells slots pc lc (ti x' :: st) M) : TW g y R mc ms r M' cells slots pc lc (ti x :: st) M := h ▸ k
theorem tm_nmL {x x' : Int64} (h : x' = x) (k : TW g y R mc ms r M' cells slots pc lc (tl x' :: st) M) : TW g y R mc ms r M' cells slots pc lc (tl x :: st) M := h ▸ k
theorem tm_nmQ {q : Nat} {x x' : Option Nat} (h : x' = x) (k : TW g y R mc ms r M' cells slots pc lc (tq q x' :: st) M) : TW g y R mc ms r M' cells slots pc lc (tq q x :: st) M := h ▸ k
theorem tm_nm2 {x x' : Int32} {w : tV} (h : x' = x) (k : TW g y R mc ms r M' cells slots pc lc (w :: ti x' :: st) M) : TW g y R mc ms r M' cells slots pc lc (w :: ti x :: st) M := h ▸ k
theorem tm_nmM {M1 : tM} (h : M1 = M) (k : TW g y R mc ms r M' cells slots pc lc st M1) : TW g y R mc ms r M' cells slots pc lc st M := h ▸ k
theorem tm_lcs {lc' : List (Nat × tV)} (h : ∀ q ∈ lc', q ∈ lc) (k : TW g y R mc ms r M' cells slots pc lc' st M) : TW g y R mc ms r M' cells slots pc lc st M := by
  intro p e s m args below meth c X ad H locs ls hW hO hlo hL hs hl
  refine k p e s m args below meth c X ad H locs ls hW hO hlo (tLc_of (fun q hq => tLc_mem hL (h q hq))) hs ⟨hl.1, hl.2.1, fun q hq => ?_⟩
  obtain ⟨q', h1, h2⟩ := List.mem_map.mp hq
  exact hl.2.2 q (List.mem_map.mpr ⟨q', h q' h1, h2⟩)
/-- fewer locals, by their numbers -/
def tpick (lc : List (Nat × tV)) (is : List Nat) : List (Nat × tV) := is.filterMap (fun i => (tget lc i).map (fun v => (i, v)))
theorem tm_lcp {lc' : List (Nat × tV)} (is : List Nat) (h : tpick lc is = lc') (k : TW g y R mc ms r M' cells slots pc lc' st M) : TW g y R mc ms r M' cells slots pc lc st M := by
  refine tm_lcs (fun q hq => ?_) k
  rw [← h] at hq
  obtain ⟨i, -, hi⟩ := List.mem_filterMap.mp hq
  cases hv : tget lc i with
  | none => rw [hv] at hi; cases hi
  | some v =>
    rw [hv] at hi
    cases hi
    exact tget_mem hv
end TP
