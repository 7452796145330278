/-! THE LITTLE MACHINE: values, typed memory (by kind, number, place), what a heap must hold to be such a memory -/
abbrev tV : Type := Int32 ⊕ (Int64 ⊕ Option (Nat × Nat))
abbrev ti (x : Int32) : tV := Sum.inl x
abbrev tl (x : Int64) : tV := Sum.inr (Sum.inl x)
abbrev tr (k i : Nat) : tV := Sum.inr (Sum.inr (some (k, i)))
abbrev tn : tV := Sum.inr (Sum.inr none)
/-- a reference of kind k, or null -/
abbrev tq (k : Nat) (r : Option Nat) : tV := Sum.inr (Sum.inr (r.map (Prod.mk k)))
/-- ints, longs, references, lengths, which cells there are -/
abbrev tM : Type := (Nat → Nat → Nat → Int32) × (Nat → Nat → Nat → Int64) × (Nat → Nat → Nat → Option Nat) × (Nat → Nat → Nat) × (Nat → Nat → Bool)
def mI (M : tM) (k i j : Nat) : Int32 := M.1 k i j
def mL (M : tM) (k i j : Nat) : Int64 := M.2.1 k i j
def mR (M : tM) (k i j : Nat) : Option Nat := M.2.2.1 k i j
def mN (M : tM) (k i : Nat) : Nat := M.2.2.2.1 k i
def mE (M : tM) (k i : Nat) : Bool := M.2.2.2.2 k i
def sI (M : tM) (k i j : Nat) (v : Int32) : tM := (fun a b c => if a = k ∧ b = i ∧ c = j then v else M.1 a b c, M.2)
def sL (M : tM) (k i j : Nat) (v : Int64) : tM := (M.1, fun a b c => if a = k ∧ b = i ∧ c = j then v else M.2.1 a b c, M.2.2)
def sR (M : tM) (k i j : Nat) (v : Option Nat) : tM := (M.1, M.2.1, fun a b c => if a = k ∧ b = i ∧ c = j then v else M.2.2.1 a b c, M.2.2.2)
/-- a new cell: all nought, n places -/
def mA (M : tM) (k i n : Nat) : tM := (fun a b c => if a = k ∧ b = i then 0 else M.1 a b c, fun a b c => if a = k ∧ b = i then 0 else M.2.1 a b c, fun a b c => if a = k ∧ b = i then none else M.2.2.1 a b c, fun a b => if a = k ∧ b = i then n else M.2.2.2.1 a b, fun a b => if a = k ∧ b = i then true else M.2.2.2.2 a b)
theorem mI_sI (M : tM) (k i j a b c : Nat) (v : Int32) : mI (sI M k i j v) a b c = if a = k ∧ b = i ∧ c = j then v else mI M a b c := rfl
theorem mL_sI (M : tM) (k i j a b c : Nat) (v : Int32) : mL (sI M k i j v) a b c = mL M a b c := rfl
theorem mR_sI (M : tM) (k i j a b c : Nat) (v : Int32) : mR (sI M k i j v) a b c = mR M a b c := rfl
theorem mN_sI (M : tM) (k i j a b : Nat) (v : Int32) : mN (sI M k i j v) a b = mN M a b := rfl
theorem mE_sI (M : tM) (k i j a b : Nat) (v : Int32) : mE (sI M k i j v) a b = mE M a b := rfl
theorem mL_sL (M : tM) (k i j a b c : Nat) (v : Int64) : mL (sL M k i j v) a b c = if a = k ∧ b = i ∧ c = j then v else mL M a b c := rfl
theorem mI_sL (M : tM) (k i j a b c : Nat) (v : Int64) : mI (sL M k i j v) a b c = mI M a b c := rfl
theorem mR_sL (M : tM) (k i j a b c : Nat) (v : Int64) : mR (sL M k i j v) a b c = mR M a b c := rfl
theorem mN_sL (M : tM) (k i j a b : Nat) (v : Int64) : mN (sL M k i j v) a b = mN M a b := rfl
theorem mE_sL (M : tM) (k i j a b : Nat) (v : Int64) : mE (sL M k i j v) a b = mE M a b := rfl
theorem mR_sR (M : tM) (k i j a b c : Nat) (v : Option Nat) : mR (sR M k i j v) a b c = if a = k ∧ b = i ∧ c = j then v else mR M a b c := rfl
theorem mI_sR (M : tM) (k i j a b c : Nat) (v : Option Nat) : mI (sR M k i j v) a b c = mI M a b c := rfl
theorem mL_sR (M : tM) (k i j a b c : Nat) (v : Option Nat) : mL (sR M k i j v) a b c = mL M a b c := rfl
theorem mN_sR (M : tM) (k i j a b : Nat) (v : Option Nat) : mN (sR M k i j v) a b = mN M a b := rfl
theorem mE_sR (M : tM) (k i j a b : Nat) (v : Option Nat) : mE (sR M k i j v) a b = mE M a b := rfl
theorem mI_mA (M : tM) (k i n a b c : Nat) : mI (mA M k i n) a b c = if a = k ∧ b = i then 0 else mI M a b c := rfl
theorem mL_mA (M : tM) (k i n a b c : Nat) : mL (mA M k i n) a b c = if a = k ∧ b = i then 0 else mL M a b c := rfl
theorem mR_mA (M : tM) (k i n a b c : Nat) : mR (mA M k i n) a b c = if a = k ∧ b = i then none else mR M a b c := rfl
theorem mN_mA (M : tM) (k i n a b : Nat) : mN (mA M k i n) a b = if a = k ∧ b = i then n else mN M a b := rfl
theorem mE_mA (M : tM) (k i n a b : Nat) : mE (mA M k i n) a b = if a = k ∧ b = i then true else mE M a b := rfl
/-- the value at a place -/
def tv (M : tM) (k i j : Nat) : tV := match tT k j with
  | 0 => ti (mI M k i j)
  | 1 => tl (mL M k i j)
  | c + 2 => if c % 2 = 0 then tq (c / 2) (mR M k i j) else tr (c / 2) i
theorem tv_I {M : tM} {k i j : Nat} (h : tT k j = 0) : tv M k i j = ti (mI M k i j) := by unfold tv; rw [h]
theorem tv_L {M : tM} {k i j : Nat} (h : tT k j = 1) : tv M k i j = tl (mL M k i j) := by unfold tv; rw [h]
theorem tv_R {M : tM} {k i j k2 : Nat} (h : tT k j = 2 * k2 + 2) : tv M k i j = tq k2 (mR M k i j) := by
  unfold tv
  rw [h]
  show (if 2 * k2 % 2 = 0 then tq (2 * k2 / 2) (mR M k i j) else tr (2 * k2 / 2) i) = _
  rw [if_pos (by omega), show 2 * k2 / 2 = k2 by omega]
theorem tv_F {M : tM} {k i j k2 : Nat} (h : tT k j = 2 * k2 + 3) : tv M k i j = tr k2 i := by
  unfold tv
  rw [h]
  show (if (2 * k2 + 1) % 2 = 0 then tq ((2 * k2 + 1) / 2) (mR M k i j) else tr ((2 * k2 + 1) / 2) i) = _
  rw [if_neg (by omega), show (2 * k2 + 1) / 2 = k2 by omega]
/-- a value of the little machine as the machine's, by the addresses -/
def tC (ad : Nat → Nat → Nat) : tV → Value
  | .inl x => .int x
  | .inr (.inl x) => .long x
  | .inr (.inr none) => .null
  | .inr (.inr (some q)) => .ref (ad q.1 q.2)
def tcat : tV → Nat
  | .inr (.inl _) => 2
  | _ => 1
theorem tC_cat (ad : Nat → Nat → Nat) (v : tV) : (tC ad v).category = tcat v := by
  rcases v with x | x | _ | q <;> rfl
/-- which kinds are never written: the law's script, a static array -/
def tRO (k : Nat) : Bool := k == 90 || k == 91
/-- a reference is to a cell that is there -/
def tLv (M : tM) : tV → Prop
  | .inr (.inr (some q)) => tRO q.1 = true ∨ mE M q.1 q.2 = true
  | _ => True
def tLs (M : tM) : List tV → Prop
  | [] => True
  | v :: l => tLv M v ∧ tLs M l
def tLc (M : tM) : List (Nat × tV) → Prop
  | [] => True
  | q :: l => tLv M q.2 ∧ tLc M l
/-- launch, class numbers, slots, array classes, where the new cells begin, the old heap, the static array's and the script's addresses -/
abbrev tG : Type := Launch × (Nat → ClassId) × (Nat → Nat → Nat) × (Nat → ClassId) × Nat × Heap × Nat × Nat × Nat × (Nat → Int32)
def gl (g : tG) : Launch := g.1
def gC (g : tG) : Nat → ClassId := g.2.1
def gI (g : tG) : Nat → Nat → Nat := g.2.2.1
def gA (g : tG) : Nat → ClassId := g.2.2.2.1
def gS (g : tG) : Nat := g.2.2.2.2.1
def gH (g : tG) : Heap := g.2.2.2.2.2.1
def gk (g : tG) : Nat := g.2.2.2.2.2.2.1
def gb (g : tG) : Nat := g.2.2.2.2.2.2.2.1
/-- the script's length, its ints -/
def gL (g : tG) : Nat := g.2.2.2.2.2.2.2.2.1
def gx (g : tG) : Nat → Int32 := g.2.2.2.2.2.2.2.2.2
def tCell (g : tG) (ad : Nat → Nat → Nat) (M : tM) (k i : Nat) (H : Heap) : Prop := match tO k with
  | some ci => ∃ r : vw_C, vwCl[ci]? = some r ∧ t_OB (ad k i) (gC g ci) r.2.2 (gI g ci) H (fun j => tC ad (tv M k i j))
  | none => H[ad k i]? = some (arrV (gA g k) (mN M k i) (fun j => tC ad (tv M k i j)))
/-- an object that was being made and is made now: its old name says nothing any more -/
def tgh (M : tM) (k i : Nat) : Bool := decide (tNC ≤ k) && (decide (k < 2 * tNC) && mE M (k - tNC) i)
theorem tgh_arr {M : tM} {k i : Nat} (h : tO k = none) : tgh M k i = false := by
  have hk : ¬ k < 2 * tNC := by
    unfold tO at h
    unfold tNC
    split at h
    · cases h
    · split at h
      · cases h
      · omega
  unfold tgh
  rw [decide_eq_false hk, Bool.false_and, Bool.and_false]
theorem tgh_eq {M M1 : tM} (h : ∀ a b, mE M1 a b = mE M a b) (k i : Nat) : tgh M1 k i = tgh M k i := by
  unfold tgh
  rw [h]
/-- the heap holds the memory -/
def tW (g : tG) (ad : Nat → Nat → Nat) (M : tM) (H : Heap) : Prop :=
  (∀ k i, mE M k i = true → tgh M k i = false → tCell g ad M k i H) ∧ (∀ k i k' i', mE M k i = true → tgh M k i = false → mE M k' i' = true → tgh M k' i' = false → ad k i = ad k' i' → k = k' ∧ i = i') ∧
  (∀ k i, mE M k i = true → gS g ≤ ad k i) ∧ (∀ k i j, mE M k i = true → tgh M k i = false → tLv M (tv M k i j)) ∧ (∀ k i, tRO k = true → mE M k i = false) ∧ ad 90 0 = gk g ∧ ad 91 0 = gb g
/-- what was there before stays -/
def tOld (g : tG) (H : Heap) : Prop := gS g ≤ H.size ∧ ∀ q, q < gS g → H[q]? = (gH g)[q]?
/-- what a state must know of classes, arrays, nest mates, and of the two old arrays -/
def tK (g : tG) (U : State) : Prop := va_K (gC g, gI g) vwCl [] U ∧ (∀ k, ArrOfT U (gA g k) (tA k) ∧ va_RA U (gA g k) (tA k)) ∧ (∀ q ∈ tNest, va_Nw (.methodLinkNest q.1 q.2.1 q.2.2.1 q.2.2.2) U) ∧ (∀ C ∈ tOver, va_AO C U) ∧
  va_Z tZ.1 tZ.2.1 tZ.2.2 (.ref (gk g)) (fun q => gS g ≤ q) U (gH g) ∧ va_T .int (gk g) tZn (fun j => .int (tZf j)) (fun q => gS g ≤ q) U (gH g) ∧ va_X (gb g) (gL g) (gx g) U (gH g) ∧ gb g < gS g ∧ (gH g).size = gS g
/-- the words that any method may use -/
def tgd : List Cond := lw_tbl.filter goodWord
/-- a method: its class, code, number of locals, return type, name -/
abbrev tY : Type := String × ByteArray × Nat × Option FieldType × String
def tX (g : tG) (y : tY) (p : Program) (s : State) (m : MethodId) (args : Array Value) (meth : Method) (c : Code) : Prop :=
  p.tables.exec = Jvm.exec ∧ c.code = y.2.1 ∧ c.maxLocals = y.2.2.1 ∧ s.vm.findClass y.1 = some m.cls ∧ (∀ w ∈ tgd, w.before args s = true) ∧ meth.sig.returnType = y.2.2.2.1 ∧ meth.locks = false ∧ meth.name = y.2.2.2.2 ∧ tK g s
/-- how a method ends: its answer, the memory behind it; addresses of what was there stay -/
def tQ (g : tG) (ad : Nat → Nat → Nat) (M : tM) (r : Option tV) (M' : tM) : Array Value → State → Outcome → State → Prop := fun _ _ oc t =>
  ∃ ad' : Nat → Nat → Nat, (∀ k i, mE M k i = true ∨ tRO k = true → ad' k i = ad k i) ∧ (∀ k i, mE M k i = true → mE M' k i = true) ∧ oc = .returned (r.map (tC ad')) ∧ (∀ v, r = some v → tLv M' v) ∧ tW g ad' M' t.heap ∧ tOld g t.heap
def tlc (ad : Nat → Nat → Nat) (lc : List (Nat × tV)) : List (Nat × Value) := lc.map (fun q => (q.1, tC ad q.2))
/-- from here on the method comes to its end -/
def TW (g : tG) (y : tY) (R : Room) (mc ms : Nat) (r : Option tV) (M' : tM) (cells slots pc : Nat) (lc : List (Nat × tV)) (st : List tV) (M : tM) : Prop :=
  ∀ (p : Program) (e : Env) (s : State) (m : MethodId) (args : Array Value) (below : List Frame) (meth : Method) (c : Code), tX g y p s m args meth c →
  ∀ (ad : Nat → Nat → Nat) (H : Heap) (locs : List Loc) (ls : Array Slot), tW g ad M H → tOld g H → (∀ l ∈ locs, gS g ≤ l.base) → tLc M lc → tLs M st → lv_has ls y.2.2.1 (tlc ad lc) →
  W p (gl g) e R s m args below meth c H locs cells slots (MQ below (tQ g ad M r M') args s mc ms (fun q => gS g ≤ q)) (F0 m pc ls (st.map (tC ad)))
def tget : List (Nat × tV) → Nat → Option tV
  | [], _ => none
  | q :: l, i => if q.1 = i then some q.2 else tget l i
theorem tget_mem : ∀ {lc : List (Nat × tV)} {i : Nat} {v : tV}, tget lc i = some v → (i, v) ∈ lc
  | [], _, _, h => by cases h
  | q :: l, i, v, h => by
    unfold tget at h
    by_cases e : q.1 = i
    · rw [if_pos e] at h
      cases h
      exact List.mem_cons.mpr (Or.inl (by rw [← e]))
    · rw [if_neg e] at h
      exact List.mem_cons_of_mem _ (tget_mem h)
theorem tLc_mem {M : tM} : ∀ {lc : List (Nat × tV)} {q : Nat × tV}, tLc M lc → q ∈ lc → tLv M q.2
  | [], _, _, h => by cases h
  | a :: l, q, h, hq => by
    rcases List.mem_cons.mp hq with rfl | hq
    · exact h.1
    · exact tLc_mem h.2 hq
theorem tLc_of {M : tM} : ∀ {lc : List (Nat × tV)}, (∀ q ∈ lc, tLv M q.2) → tLc M lc
  | [], _ => trivial
  | a :: l, h => ⟨h a List.mem_cons_self, tLc_of (fun q hq => h q (List.mem_cons_of_mem _ hq))⟩
theorem tLs_of {M : tM} : ∀ {st : List tV}, (∀ v ∈ st, tLv M v) → tLs M st
  | [], _ => trivial
  | a :: l, h => ⟨h a List.mem_cons_self, tLs_of (fun q hq => h q (List.mem_cons_of_mem _ hq))⟩
theorem tLs_mem {M : tM} : ∀ {st : List tV} {v : tV}, tLs M st → v ∈ st → tLv M v
  | [], _, _, h => by cases h
  | a :: l, v, h, hq => by
    rcases List.mem_cons.mp hq with rfl | hq
    · exact h.1
    · exact tLs_mem h.2 hq
theorem tLv_mono {M M1 : tM} (h : ∀ k i, mE M k i = true → mE M1 k i = true) {v : tV} (hv : tLv M v) : tLv M1 v := by
  rcases v with x | x | _ | q
  · trivial
  · trivial
  · trivial
  · rcases hv with hv | hv
    · exact Or.inl hv
    · exact Or.inr (h _ _ hv)
theorem tC_same {M : tM} {ad ad' : Nat → Nat → Nat} (h : ∀ k i, mE M k i = true ∨ tRO k = true → ad' k i = ad k i) {v : tV} (hv : tLv M v) : tC ad' v = tC ad v := by
  rcases v with x | x | _ | q
  · rfl
  · rfl
  · rfl
  · show Value.ref _ = Value.ref _
    rw [h q.1 q.2 (hv.elim Or.inr Or.inl)]
theorem tlc_at {ad : Nat → Nat → Nat} {lc : List (Nat × tV)} {i : Nat} {v : tV} (h : tget lc i = some v) {ls : Array Slot} {nL : Nat} (hl : lv_has ls nL (tlc ad lc)) : ls[i]? = some (.val (tC ad v)) :=
  hl.2.2 (i, tC ad v) (List.mem_map.mpr ⟨(i, v), tget_mem h, rfl⟩)
/-- storing into a local: what of the others stays -/
def tst1 (lc : List (Nat × tV)) (i : Nat) (v : tV) : List (Nat × tV) := (i, v) :: lc.filter (fun q => !(q.1 == i) && !(q.1 + 1 == i && tcat q.2 == 2))
def tst2 (lc : List (Nat × tV)) (i : Nat) (v : tV) : List (Nat × tV) := (i, v) :: lc.filter (fun q => !(q.1 == i) && (!(q.1 == i + 1) && !(q.1 + 1 == i && tcat q.2 == 2)))
theorem tst1_c (ad : Nat → Nat → Nat) (lc : List (Nat × tV)) (i : Nat) (v : tV) : (i, tC ad v) :: (tlc ad lc).filter (fun q => !(q.1 == i) && !(q.1 + 1 == i && q.2.category == 2)) = tlc ad (tst1 lc i v) := by
  show _ = (i, tC ad v) :: _
  congr 1
  unfold tlc
  rw [List.filter_map]
  congr 1
  apply List.filter_congr
  intro q _
  simp [tC_cat]
theorem tst2_c (ad : Nat → Nat → Nat) (lc : List (Nat × tV)) (i : Nat) (v : tV) : (i, tC ad v) :: (tlc ad lc).filter (fun q => !(q.1 == i) && (!(q.1 == i + 1) && !(q.1 + 1 == i && q.2.category == 2))) = tlc ad (tst2 lc i v) := by
  show _ = (i, tC ad v) :: _
  congr 1
  unfold tlc
  rw [List.filter_map]
  congr 1
  apply List.filter_congr
  intro q _
  simp [tC_cat]
theorem tLc_st {M : tM} {lc : List (Nat × tV)} {i : Nat} {v : tV} {f : Nat × tV → Bool} (h : tLc M lc) (hv : tLv M v) : tLc M ((i, v) :: lc.filter f) :=
  ⟨hv, tLc_of (fun q hq => tLc_mem h (List.mem_filter.mp hq).1)⟩
theorem tW_mono {p : Program} {l : Launch} {e : Env} {R : Room} {s : State} {m : MethodId} {args : Array Value} {below : List Frame} {meth : Method} {c : Code} {H : Heap} {locs : List Loc} {cells slots : Nat} {Q1 Q : State → Prop} {f : JFrame} (h : W p l e R s m args below meth c H locs cells slots Q1 f) (hq : ∀ t, Q1 t → Q t) : W p l e R s m args below meth c H locs cells slots Q f := by
  intro T hT X
  obtain ⟨t, a, b⟩ := h T hT X
  exact ⟨t, a, hq t b⟩
theorem tMQ_mono {below : List Frame} {Q1 Q : Array Value → State → Outcome → State → Prop} {a : Array Value} {s : State} {mc ms : Nat} {free : Addr → Prop} (h : ∀ o t, Q1 a s o t → Q a s o t) : ∀ t, MQ below Q1 a s mc ms free t → MQ below Q a s mc ms free t := by
  rintro t ⟨o, h1, h2, h3, h4⟩
  exact ⟨o, h1, h2, h _ _ h3, h4⟩
theorem tQ_mono {g : tG} {ad ad1 : Nat → Nat → Nat} {M M1 M' : tM} {r : Option tV} (h1 : ∀ k i, mE M k i = true ∨ tRO k = true → ad1 k i = ad k i) (h2 : ∀ k i, mE M k i = true → mE M1 k i = true) {a : Array Value} {s : State} : ∀ o t, tQ g ad1 M1 r M' a s o t → tQ g ad M r M' a s o t := by
  rintro o t ⟨ad', e1, e2, e3, e4, e5, e6⟩
  refine ⟨ad', fun k i h => ?_, fun k i h => e2 k i (h2 k i h), e3, e4, e5, e6⟩
  rw [e1 k i (h.imp (h2 k i) id), h1 k i h]
