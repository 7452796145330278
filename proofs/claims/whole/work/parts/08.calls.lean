/-! contracts of methods over the typed memory, calls, new cells -/
def tPre (g : tG) (ad : Nat → Nat → Nat) (M : tM) (avs : List tV) (U : State) : Prop := tW g ad M U.heap ∧ tOld g U.heap ∧ tK g U ∧ tLs M avs
/-- the method x, called with avs in the memory M, answers r and leaves the memory M1 -/
def TMet (g : tG) (x : MethodName) (ws : List Cond) (rm : Room) (avs : List tV) (M : tM) (r : Option tV) (M1 : tM) (mc ms : Nat) : Prop :=
  ∀ ad : Nat → Nat → Nat, Met (gl g) x ws rm (va_Pc (avs.map (tC ad)) (tPre g ad M avs)) (tQ g ad M r M1) mc ms (fun q => gS g ≤ q)
theorem tK.moved {g : tG} {u U : State} (hW : u.WarmedH U.vm) (h : tK g u) : tK g U := by
  obtain ⟨h1, h2, h3, h4, h5, h6, h7, h8⟩ := h
  have ha := hW.alike
  exact ⟨va_K.moved ha h1, fun k => ⟨arrOfT_moved ha (h2 k).1, (h2 k).2.moved ha⟩, fun q hq => va_Nw.warmM hW (h3 q hq), fun C hC => va_AO.moved ha (h4 C hC), va_Z.moved ha h5, va_T.moved ha h6, va_X.moved ha h7, h8⟩
theorem tK.vm {g : tG} {u U : State} (hv : u.vm = U.vm) (h : tK g u) : tK g U := by
  obtain ⟨h1, h2, h3, h4, h5, h6, h7, h8⟩ := h
  have ha : u.vm.Alike U.vm := hv ▸ Vm.Alike.refl u.vm
  exact ⟨va_K.moved ha h1, fun k => ⟨arrOfT_moved ha (h2 k).1, (h2 k).2.moved ha⟩, fun q hq => va_Nw.same rfl hv (h3 q hq), fun C hC => va_AO.moved ha (h4 C hC), va_Z.moved ha h5, va_T.moved ha h6, va_X.moved ha h7, h8⟩
theorem tblind (g : tG) (ad : Nat → Nat → Nat) (M : tM) (av : List Value) (avs : List tV) : FrameBlind (va_Pc av (tPre g ad M avs)) := by
  rintro a U f mk ⟨q0, q1, q2, q3, q4⟩
  exact ⟨q0, q1, q2, tK.vm (u := U) (U := U.calling f mk a) rfl q3, q4⟩
/-- what the locals are at a method's entry -/
def tent : List tV → Nat → List (Nat × tV)
  | [], _ => []
  | v :: l, i => (i, v) :: tent l (i + tcat v)
def tsl (ad : Nat → Nat → Nat) (avs : List tV) : List (Nat × Value) := tlc ad (tent avs 0)
theorem tLc_ent {M : tM} : ∀ {l : List tV} {i : Nat}, tLs M l → tLc M (tent l i)
  | [], _, _ => trivial
  | _ :: _, _, h => ⟨h.1, tLc_ent h.2⟩
theorem tent_args (ad : Nat → Nat → Nat) : ∀ (l : List tV) (i : Nat), tlc ad (tent l i) = lv_args i (l.map (tC ad))
  | [], _ => rfl
  | v :: l, i => by
    have h := tent_args ad l (i + tcat v)
    simp only [tent, tlc, List.map_cons, lv_args, tC_cat] at h ⊢
    rw [show (if tcat v = 2 then i + 2 else i + 1) = i + tcat v by rcases v with x | x | x <;> rfl, ← h]
theorem tsl_len (ad : Nat → Nat → Nat) : ∀ (avs : List tV), (lg_sl (avs.map (tC ad))).length = (avs.map tcat).sum
  | [] => rfl
  | v :: l => by
    have h1 : lg_sl ((v :: l).map (tC ad)) = (if (tC ad v).category = 2 then [Slot.val (tC ad v), .second] else [.val (tC ad v)]) ++ lg_sl (l.map (tC ad)) := by
      simp [lg_sl]
    rw [h1, List.length_append, tsl_len ad l, tC_cat]
    rcases v with z | z | z <;> simp [tcat]
/-- a contract out of the walk of the body -/
theorem TMet.of {g : tG} {x : MethodName} {cc : ByteArray} {maxL : Nat} {ret : Option FieldType} {rm : Room} {avs : List tV} {M : tM} {r : Option tV} {M1 : tM} {mc ms : Nat} (hy : plainName x.cls = true) (hn : (avs.map tcat).sum ≤ maxL)
    (h : TW g (x.cls, cc, maxL, ret, x.name) rm mc ms r M1 0 0 0 (tent avs 0) [] M) : TMet g x (Cond.code x cc maxL ret :: tgd) rm avs M r M1 mc ms := by
  intro ad
  refine Met.ofW (cc := cc) (maxL := maxL) (ret := ret) hy rfl ?_
  intro p e s m args below meth c s₁ B hml hv
  obtain ⟨rfl, hW, hO, hK, hL⟩ := hv
  have hts := atoms_spec (ws := Cond.code x cc maxL ret :: tgd) B.pre
  have hown : s.vm.findClass x.cls = some m.cls := findClass_of_methodNamed B.named
  have hlen : (lg_sl (avs.map (tC ad))).length ≤ maxL := by rw [tsl_len]; exact hn
  have hl := lv_entry (avs.map (tC ad)) (n := maxL) hlen
  rw [lg_entry_eq]
  rw [← tent_args ad avs 0] at hl
  exact h p e s m _ below meth c ⟨B.exec, B.bytes, hml, hown, fun w hw => hts w (List.mem_cons_of_mem _ hw), B.returns, B.notSynchronized, (name_of_methodNamed B.named B.method).1, hK⟩ ad s.heap [] _ hW hO (fun _ h => by cases h) (tLc_ent hL) trivial hl
/-- what a call of x at idx in the class own must find in the tables -/
def tCB (own : String) (idx : Nat) (x : MethodName) (cc : ByteArray) (maxL : Nat) (ret : Option FieldType) (n : Nat) : Prop :=
  Cond.code x cc maxL ret ∈ tgd ∧ Cond.initialized x.cls ∈ tgd ∧ (x.cls ≠ "java/lang/invoke/MethodHandle" ∧ x.cls ≠ "java/lang/invoke/VarHandle") ∧ (parseMethodDescriptor x.desc).map (fun d => d.parameters.length) = some n
theorem tgd_good {w : Cond} (h : w ∈ tgd) : (w.onTables && w.keeps) = true ∨ ∃ ty, w = .arrayClass ty := good_of_word (List.mem_filter.mp h).2
theorem tgd_in {x : MethodName} {cc : ByteArray} {maxL : Nat} {ret : Option FieldType} (h : Cond.code x cc maxL ret ∈ tgd) : GoodIn tgd (Cond.code x cc maxL ret :: tgd) := by
  intro w hw
  rcases List.mem_cons.mp hw with rfl | hw
  · exact ⟨h, tgd_good h⟩
  · exact ⟨hw, tgd_good hw⟩
/-- room for a callee -/
def tRm (rm R : Room) (maxL mc1 ms1 : Nat) : Prop := rm.cells = mc1 ∧ rm.slots = ms1 ∧ rm.frames + 1 ≤ R.frames ∧ 8 + (maxL + 11) + rm.locals ≤ R.locals
theorem tcat_sum (ad : Nat → Nat → Nat) (st : List tV) : ((st.map (tC ad)).map fun v => v.category).sum = (st.map tcat).sum := by
  rw [List.map_map]
  congr 1
  apply List.map_congr_left
  intro v _
  exact tC_cat ad v
section TC
variable {g : tG} {y : tY} {R : Room} {mc ms : Nat} {r : Option tV} {M' : tM} {cells slots pc : Nat} {lc : List (Nat × tV)} {st : List tV} {M : tM}
/-- behind a call -/
theorem tm_behind {p : Program} {e : Env} {s : State} {m : MethodId} {args : Array Value} {below : List Frame} {meth : Method} {c : Code} (X : tX g y p s m args meth c) {ad : Nat → Nat → Nat} {H : Heap} {locs : List Loc} {ls : Array Slot} (hlo : ∀ l ∈ locs, gS g ≤ l.base) (hL : tLc M lc) (hs : tLs M st) (hl : lv_has ls y.2.2.1 (tlc ad lc))
    {stk : List Value} {a : Array Value} {r1 : Option tV} {M1 : tM} {mc1 ms1 : Nat} (hrun : va_Run p (gl g) e R s m args below meth c H locs cells slots mc1 ms1 (F0 m pc ls stk) (st.map (tC ad)) (tQ g ad M r1 M1 a) (fun q => gS g ≤ q))
    (kk : TW g y R mc ms r M' (cells + mc1) (slots + ms1) (pc + 3) lc (r1.toList ++ st) M1) : W p (gl g) e R s m args below meth c H locs cells slots (MQ below (tQ g ad M r M') args s mc ms (fun q => gS g ≤ q)) (F0 m pc ls stk) := by
  intro T hT XS
  obtain ⟨v, st₀, t, T', L, h0, X', hL', e1, e2, ⟨ad', f1, f2, f3, f4, f5, f6⟩, go⟩ := hrun T hT XS
  cases f3
  have hst : st.map (tC ad') = st.map (tC ad) := List.map_congr_left (fun v hv => tC_same f1 (tLs_mem hs hv))
  have hlc : tlc ad' lc = tlc ad lc := List.map_congr_left (fun q hq => by rw [tC_same f1 (tLc_mem hL hq)])
  have hs1 : tLs M1 (r1.toList ++ st) := tLs_of (fun v hv => by
    rcases List.mem_append.mp hv with h | h
    · cases r1 with
      | none => cases h
      | some w => rw [List.mem_singleton.mp h]; exact f4 w rfl
    · exact tLv_mono f2 (tLs_mem hs h))
  obtain ⟨t2, a1, b1⟩ := kk p e s m args below meth c X ad' T'.heap (locs ++ L) ls (by rw [e1]; exact f5) (by rw [e1]; exact f6) (fun q hq => by
      rcases List.mem_append.mp hq with h | h
      · exact hlo q h
      · exact hL' q h) (tLc_of (fun q hq => tLv_mono f2 (tLc_mem hL hq))) hs1 (by rw [hlc]; exact hl) T' rfl X'
  refine ⟨t2, go t2 ?_, tMQ_mono (tQ_mono f1 f2) t2 b1⟩
  have hstk : (r1.toList ++ st).map (tC ad') = (r1.map (tC ad')).toList ++ st.map (tC ad) := by
    rw [List.map_append, hst]
    cases r1 <;> rfl
  rw [hstk] at a1
  exact a1
theorem tPre_at {ad : Nat → Nat → Nat} {H : Heap} {s U : State} {avs : List tV} (hW : tW g ad M H) (hO : tOld g H) (hK : tK g s) (hs : tLs M avs) (hU : U.heap = H) (hw : s.WarmedH U.vm) : tPre g ad M avs U := ⟨by rw [hU]; exact hW, by rw [hU]; exact hO, hK.moved hw, hs⟩
theorem tm_callV {k i ci idx : Nat} {C : String} {T : u_T} {N : Nat} {ty : Nat → FieldType} (K : tCl ci C T N ty) (hO : tO k = some ci) {x : MethodName} {cc : ByteArray} {maxL : Nat} {ret : Option FieldType} {rm : Room} {avs stk : List tV} {r1 : Option tV} {M1 : tM} {mc1 ms1 : Nat} (hM : TMet g x (Cond.code x cc maxL ret :: tgd) rm (tr k i :: avs) M r1 M1 mc1 ms1)
    (hcb : tCB y.1 idx x cc maxL ret avs.length) (hl1 : Cond.methodLink y.1 idx x ∈ tgd) (hl2 : Cond.instanceMethod x ∈ tgd) (hl3 : Cond.selects C x x ∈ tgd) (hrm : tRm rm R maxL mc1 ms1) (hstk : stk = avs.reverse ++ tr k i :: st) (hcat : (st.map tcat).sum ≤ 8) (hcs : cells + mc1 ≤ R.cells ∧ slots + ms1 ≤ R.slots) (hd : decode y.2.1 pc = .ok (.invokevirtual idx, 3))
    (kk : TW g y R mc ms r M' (cells + mc1) (slots + ms1) (pc + 3) lc (r1.toList ++ st) M1) (hgh : tgh M k i = false := by rfl) : TW g y R mc ms r M' cells slots pc lc stk M := by
  intro p e s m args below meth c X ad H locs ls hW hO' hlo hL hs hl
  subst hstk
  have hts := X.2.2.2.2.1
  have hsa : ∀ v ∈ avs, tLv M v := fun v hv => tLs_mem hs (List.mem_append_left _ (List.mem_reverse.mpr hv))
  have hsk : tLv M (tr k i) := tLs_mem hs (List.mem_append_right _ List.mem_cons_self)
  have hst : tLs M st := tLs_of (fun v hv => tLs_mem hs (List.mem_append_right _ (List.mem_cons_of_mem _ hv)))
  have hE := tE_of (tRO_obj hO) hsk
  have hcell := hW.1 k i hE hgh
  simp only [tCell, hO] at hcell
  obtain ⟨r', h1, cell, q1, q2, q3, q4⟩ := hcell
  have hr : r' = (C, T, N) := Option.some.inj (h1.symm.trans K.1)
  subst hr
  have hfc := (X.2.2.2.2.2.2.2.2.1.1 ci _ K.1).2.1
  have hse : (avs.reverse ++ tr k i :: st).map (tC ad) = (avs.map (tC ad)).reverse ++ Value.ref (ad k i) :: st.map (tC ad) := by
    rw [List.map_append, List.map_reverse]; rfl
  rw [hse]
  refine tm_behind X hlo hL hst hl (va_runV (As := avs.map (tC ad)) (rest := st.map (tC ad)) (b := ad k i) (C := C) ⟨X.1, X.2.1, X.2.2.1, X.2.2.2.1, hts⟩ (hM ad) ⟨callB_of avs.length hts (tgd_in hcb.1) rfl hrm.1 hrm.2.1 (hts _ hcb.2.1) (hts _ hl1) ⟨hcb.2.2.1.1, hcb.2.2.1.2, hcb.2.2.2⟩ hrm.2.2, hts _ hl2, hts _ hl3⟩ ⟨tblind g ad M _ _, ⟨cell, q1, by rw [q3]; rfl, by rw [q2]; exact hfc⟩, fun U hU hw => ⟨rfl, tPre_at hW hO' X.2.2.2.2.2.2.2.2 ⟨hsk, tLs_of hsa⟩ hU hw⟩⟩ rfl (by rw [List.length_map]) hl.1 rfl (lv_room (by rw [tcat_sum]; exact hcat)) hd hcs) kk
theorem tm_callS {idx : Nat} {x : MethodName} {cc : ByteArray} {maxL : Nat} {ret : Option FieldType} {rm : Room} {avs stk : List tV} {r1 : Option tV} {M1 : tM} {mc1 ms1 : Nat} (hM : TMet g x (Cond.code x cc maxL ret :: tgd) rm avs M r1 M1 mc1 ms1)
    (hcb : tCB y.1 idx x cc maxL ret avs.length) (hl1 : Cond.methodLink y.1 idx x ∈ tgd) (hl2 : Cond.static x ∈ tgd) (hrm : tRm rm R maxL mc1 ms1) (hstk : stk = avs.reverse ++ st) (hcat : (st.map tcat).sum ≤ 8) (hcs : cells + mc1 ≤ R.cells ∧ slots + ms1 ≤ R.slots) (hd : decode y.2.1 pc = .ok (.invokestatic idx, 3))
    (kk : TW g y R mc ms r M' (cells + mc1) (slots + ms1) (pc + 3) lc (r1.toList ++ st) M1) : TW g y R mc ms r M' cells slots pc lc stk M := by
  intro p e s m args below meth c X ad H locs ls hW hO' hlo hL hs hl
  subst hstk
  have hts := X.2.2.2.2.1
  have hsa : ∀ v ∈ avs, tLv M v := fun v hv => tLs_mem hs (List.mem_append_left _ (List.mem_reverse.mpr hv))
  have hst : tLs M st := tLs_of (fun v hv => tLs_mem hs (List.mem_append_right _ hv))
  have hse : (avs.reverse ++ st).map (tC ad) = (avs.map (tC ad)).reverse ++ st.map (tC ad) := by
    rw [List.map_append, List.map_reverse]
  rw [hse]
  refine tm_behind X hlo hL hst hl (va_runS (As := avs.map (tC ad)) (rest := st.map (tC ad)) ⟨X.1, X.2.1, X.2.2.1, X.2.2.2.1, hts⟩ (hM ad) ⟨callB_of avs.length hts (tgd_in hcb.1) rfl hrm.1 hrm.2.1 (hts _ hcb.2.1) (hts _ hl1) ⟨hcb.2.2.1.1, hcb.2.2.1.2, hcb.2.2.2⟩ hrm.2.2, hts _ hl2⟩ ⟨tblind g ad M _ _, fun U hU hw => ⟨rfl, tPre_at hW hO' X.2.2.2.2.2.2.2.2 (tLs_of hsa) hU hw⟩⟩ rfl (by rw [List.length_map]) hl.1 rfl (lv_room (by rw [tcat_sum]; exact hcat)) hd hcs) kk
theorem tm_callI {k i idx : Nat} {x : MethodName} {cc : ByteArray} {maxL : Nat} {rm : Room} {avs stk : List tV} {M1 : tM} {mc1 ms1 : Nat} (hM : TMet g x (Cond.code x cc maxL none :: tgd) rm (tr k i :: avs) M none M1 mc1 ms1)
    (hcb : tCB y.1 idx x cc maxL none avs.length) (hl1 : Cond.methodLink y.1 idx x ∈ tgd) (hl2 : Cond.instanceMethod x ∈ tgd) (hn : x.name = "<init>") (hrm : tRm rm R maxL mc1 ms1) (hstk : stk = avs.reverse ++ tr k i :: st) (hcat : (st.map tcat).sum ≤ 8) (hcs : cells + mc1 ≤ R.cells ∧ slots + ms1 ≤ R.slots) (hd : decode y.2.1 pc = .ok (.invokespecial idx, 3))
    (kk : TW g y R mc ms r M' (cells + mc1) (slots + ms1) (pc + 3) lc st M1) : TW g y R mc ms r M' cells slots pc lc stk M := by
  intro p e s m args below meth c X ad H locs ls hW hO' hlo hL hs hl
  subst hstk
  have hts := X.2.2.2.2.1
  have hsa : ∀ v ∈ avs, tLv M v := fun v hv => tLs_mem hs (List.mem_append_left _ (List.mem_reverse.mpr hv))
  have hsk : tLv M (tr k i) := tLs_mem hs (List.mem_append_right _ List.mem_cons_self)
  have hst : tLs M st := tLs_of (fun v hv => tLs_mem hs (List.mem_append_right _ (List.mem_cons_of_mem _ hv)))
  have hse : (avs.reverse ++ tr k i :: st).map (tC ad) = (avs.map (tC ad)).reverse ++ Value.ref (ad k i) :: st.map (tC ad) := by
    rw [List.map_append, List.map_reverse]; rfl
  rw [hse]
  refine tm_behind (r1 := none) X hlo hL hst hl (va_runI (As := avs.map (tC ad)) (rest := st.map (tC ad)) (b := ad k i) ⟨X.1, X.2.1, X.2.2.1, X.2.2.2.1, hts⟩ (hM ad) ⟨callB_of avs.length hts (tgd_in hcb.1) rfl hrm.1 hrm.2.1 (hts _ hcb.2.1) (hts _ hl1) ⟨hcb.2.2.1.1, hcb.2.2.1.2, hcb.2.2.2⟩ hrm.2.2, hn, hts _ hl2⟩ ⟨tblind g ad M _ _, fun U hU hw => ⟨rfl, tPre_at hW hO' X.2.2.2.2.2.2.2.2 ⟨hsk, tLs_of hsa⟩ hU hw⟩⟩ rfl (by rw [List.length_map]) hl.1 rfl (lv_room (by rw [tcat_sum]; exact hcat)) hd hcs) kk
theorem tm_callSN {idx : Nat} {host : String} {x : MethodName} {cc : ByteArray} {maxL : Nat} {ret : Option FieldType} {rm : Room} {avs stk : List tV} {r1 : Option tV} {M1 : tM} {mc1 ms1 : Nat} (hM : TMet g x (Cond.code x cc maxL ret :: tgd) rm avs M r1 M1 mc1 ms1)
    (hcb : tCB y.1 idx x cc maxL ret avs.length) (hl1 : (y.1, idx, x, host) ∈ tNest) (hl2 : Cond.static x ∈ tgd) (hrm : tRm rm R maxL mc1 ms1) (hstk : stk = avs.reverse ++ st) (hcat : (st.map tcat).sum ≤ 8) (hcs : cells + mc1 ≤ R.cells ∧ slots + ms1 ≤ R.slots) (hd : decode y.2.1 pc = .ok (.invokestatic idx, 3))
    (kk : TW g y R mc ms r M' (cells + mc1) (slots + ms1) (pc + 3) lc (r1.toList ++ st) M1) : TW g y R mc ms r M' cells slots pc lc stk M := by
  intro p e s m args below meth c X ad H locs ls hW hO' hlo hL hs hl
  subst hstk
  have hts := X.2.2.2.2.1
  have hsa : ∀ v ∈ avs, tLv M v := fun v hv => tLs_mem hs (List.mem_append_left _ (List.mem_reverse.mpr hv))
  have hst : tLs M st := tLs_of (fun v hv => tLs_mem hs (List.mem_append_right _ hv))
  have hse : (avs.reverse ++ st).map (tC ad) = (avs.map (tC ad)).reverse ++ st.map (tC ad) := by
    rw [List.map_append, List.map_reverse]
  rw [hse]
  refine tm_behind X hlo hL hst hl (va_runSN (As := avs.map (tC ad)) (rest := st.map (tC ad)) (host := host) ⟨X.1, X.2.1, X.2.2.1, X.2.2.2.1, hts⟩ (hM ad) ⟨va_cnB avs.length hts (tgd_in hcb.1) rfl hrm.1 hrm.2.1 (X.2.2.2.2.2.2.2.2.2.2.1 _ hl1) (hts _ hcb.2.1) ⟨hcb.2.2.1.1, hcb.2.2.1.2, hcb.2.2.2⟩ hrm.2.2, hts _ hl2, trivial⟩ ⟨tblind g ad M _ _, fun U hU hw => ⟨rfl, tPre_at hW hO' X.2.2.2.2.2.2.2.2 (tLs_of hsa) hU hw⟩⟩ rfl (by rw [List.length_map]) hl.1 rfl (lv_room (by rw [tcat_sum]; exact hcat)) hd hcs) kk
theorem tm_callIN {k i idx : Nat} {host : String} {x : MethodName} {cc : ByteArray} {maxL : Nat} {rm : Room} {avs stk : List tV} {M1 : tM} {mc1 ms1 : Nat} (hM : TMet g x (Cond.code x cc maxL none :: tgd) rm (tr k i :: avs) M none M1 mc1 ms1)
    (hcb : tCB y.1 idx x cc maxL none avs.length) (hl1 : (y.1, idx, x, host) ∈ tNest) (hl2 : Cond.instanceMethod x ∈ tgd) (hn : x.name = "<init>") (hrm : tRm rm R maxL mc1 ms1) (hstk : stk = avs.reverse ++ tr k i :: st) (hcat : (st.map tcat).sum ≤ 8) (hcs : cells + mc1 ≤ R.cells ∧ slots + ms1 ≤ R.slots) (hd : decode y.2.1 pc = .ok (.invokespecial idx, 3))
    (kk : TW g y R mc ms r M' (cells + mc1) (slots + ms1) (pc + 3) lc st M1) : TW g y R mc ms r M' cells slots pc lc stk M := by
  intro p e s m args below meth c X ad H locs ls hW hO' hlo hL hs hl
  subst hstk
  have hts := X.2.2.2.2.1
  have hsa : ∀ v ∈ avs, tLv M v := fun v hv => tLs_mem hs (List.mem_append_left _ (List.mem_reverse.mpr hv))
  have hsk : tLv M (tr k i) := tLs_mem hs (List.mem_append_right _ List.mem_cons_self)
  have hst : tLs M st := tLs_of (fun v hv => tLs_mem hs (List.mem_append_right _ (List.mem_cons_of_mem _ hv)))
  have hse : (avs.reverse ++ tr k i :: st).map (tC ad) = (avs.map (tC ad)).reverse ++ Value.ref (ad k i) :: st.map (tC ad) := by
    rw [List.map_append, List.map_reverse]; rfl
  rw [hse]
  refine tm_behind (r1 := none) X hlo hL hst hl (va_runIN (As := avs.map (tC ad)) (rest := st.map (tC ad)) (b := ad k i) (host := host) ⟨X.1, X.2.1, X.2.2.1, X.2.2.2.1, hts⟩ (hM ad) ⟨va_cnB avs.length hts (tgd_in hcb.1) rfl hrm.1 hrm.2.1 (X.2.2.2.2.2.2.2.2.2.2.1 _ hl1) (hts _ hcb.2.1) ⟨hcb.2.2.1.1, hcb.2.2.1.2, hcb.2.2.2⟩ hrm.2.2, hn, hts _ hl2⟩ ⟨tblind g ad M _ _, fun U hU hw => ⟨rfl, tPre_at hW hO' X.2.2.2.2.2.2.2.2 ⟨hsk, tLs_of hsa⟩ hU hw⟩⟩ rfl (by rw [List.length_map]) hl.1 rfl (lv_room (by rw [tcat_sum]; exact hcat)) hd hcs) kk
end TC
