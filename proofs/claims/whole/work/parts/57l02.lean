/-! THE CLAIM OUT OF ONE WALK OF THE LAW'S BODY. Your part is whole_start (and what it stands on); all else here is the same for every law, but numbers. -/
def R_law : String := "EvenFlowLaw"
def lw_P (b : Addr) (xs : List Int32) (args : Array Value) (s : State) : Prop := args = #[.ref b] ∧ s.IntsAt b xs ∧ xs.length ≤ 3072 ∧ (Jvm.Cond.and given_1 narrow_1).before args s = true
def lw_Q (_ : Array Value) (s : State) (o : Outcome) (t : State) : Prop := o = .returned (some (.int 1)) ∧ Framed s o t [] 600000 7302250
def lw_Z (below : List Frame) (a : Array Value) (s : State) : State → Prop := fun t => ∃ o, t.status = .running ∧ Ended t below o ∧ lw_Q a s o t
/-- the law's own end, with 1 on the stack, nothing written that was there before, its room as the claim has it -/
theorem lw_ret {p : Program} {l : Launch} {e : Env} {s : State} {m : MethodId} {below : List Frame} {meth : Method} {c : Code} {b : Nat} (hx : p.tables.exec = Jvm.exec) (hb : c.code = code) (hr : meth.sig.returnType = ret) (hlocks : meth.locks = false) {pc : Nat} {H : Heap} {ls : Array Slot} (hdg : decode code pc = .ok (.ireturn, 1)) : W p l e room_1 s m #[Value.ref b] below meth c H [] 600000 7302250 (lw_Z below #[Value.ref b] s) (F0 m pc ls [.int 1]) := by
  intro T hT X
  obtain ⟨fs, hret, hrun, hended, hW, hframe⟩ := X.leave (v := some (.int 1)) (hlocks := hlocks) (fun h => by rw [hr] at h; cases h)
  have hmeth' : T.vm.method? m = some meth := X.method'
  refine ⟨T.setFrames fs, ?_, .returned (some (.int 1)), hrun, hended, rfl, ⟨_, rfl⟩, hW, hframe⟩
  jvm_step X.here [X.here.top, hx, hb, hdg, hmeth', hr, ret, narrow_b1]
  (try refine ⟨rfl, ?_⟩); (try refine ⟨rfl, ?_⟩)
  first | (intro acts; rw [hret _ acts rfl rfl rfl]) | rw [hret _ _ rfl rfl rfl]
  exact Steps.refl _
/-- what holds at the law's entry: the machine, the code, the tables' words (any of lw_tbl by 'hts w (by decide +kernel)'), the script of L ints xs at the cell b, what the Statement gives of the start (any of its parts by flat_of_before) -/
def lw_At (p : Program) (s : State) (m : MethodId) (meth : Method) (c : Code) (b L : Nat) (xs : Nat → Int32) : Prop :=
  p.tables.exec = Jvm.exec ∧ c.code = code ∧ meth.sig.returnType = ret ∧ c.maxLocals = 4 ∧ s.vm.findClass R_law = some m.cls ∧ (∀ w ∈ lw_tbl, w.before #[Value.ref b] s = true) ∧ va_X b L xs s s.heap ∧ b < s.heap.size ∧ meth.locks = false ∧ (Jvm.Cond.and given_1 narrow_1).before #[Value.ref b] s = true
-- ===== YOUR PART BEGINS =====
/-- the memory at the law's start: nothing -/
def M00 : tM := (fun _ _ _ => 0, fun _ _ _ => 0, fun _ _ _ => none, fun _ _ => 0, fun _ _ => false)
/-- what is made at the law's start -/
def lawInit (Rl : tM → Prop) : Prop := ∃ Ma Mb, fX10_init (mA M00 22 0 12) = some Ma ∧ (!mE Ma 10 0) = true ∧ tfix Ma 22 10 0 = true ∧ mE (mF Ma 22 10 0) 23 0 = false ∧ fX11_init (mA (mF Ma 22 10 0) 23 0 77) = some Mb ∧ (!mE Mb 11 0) = true ∧ tfix Mb 23 11 0 = true ∧ Rl (mF Mb 23 11 0)
set_option maxHeartbeats 4000000 in
set_option maxRecDepth 100000 in
theorem law_begin {g : tG} {nm : String} {Rl : tM → Prop} (h0 : call0 Rl) (h1 : call1 Rl) (h2 : call2 Rl) (h3 : call3 Rl) (h4 : call4 Rl) (h5 : call5 Rl) (h6 : call6 Rl) (h7 : call7 Rl) (h8 : call8 Rl) (h9 : call9 Rl) (h10 : call10 Rl) (h11 : call11 Rl) (h12 : call12 Rl) (h13 : call13 Rl) (h14 : call14 Rl) (h15 : call15 Rl) (h16 : call16 Rl) (h17 : call17 Rl) (h18 : call18 Rl) (h19 : call19 Rl) (h20 : call20 Rl) (h21 : call21 Rl) (h22 : call22 Rl) (h23 : call23 Rl) (h24 : call24 Rl) (h25 : call25 Rl) (h26 : call26 Rl) (h27 : call27 Rl) (h28 : call28 Rl) (h29 : call29 Rl) (h30 : call30 Rl) (h31 : call31 Rl) (h32 : call32 Rl) (h33 : call33 Rl) (h34 : call34 Rl) (h35 : call35 Rl) (h36 : call36 Rl) (h37 : call37 Rl) (h38 : call38 Rl) (h39 : call39 Rl) (h40 : call40 Rl) (h41 : call41 Rl) (h42 : call42 Rl) (h : lawInit Rl) (hL : gL g ≤ 3072) : ∃ M', TW g (iL nm) rL 600000 7302250 (some (ti 1)) M' 0 0 0 [(0, tr 91 0)] [] M00 := by
  obtain ⟨Ma, Mb, e1, e2, e3, e4, e5, e6, e7, e8⟩ := h
  obtain ⟨M', kk⟩ := law_loop (g := g) (nm := nm) h0 h1 h2 h3 h4 h5 h6 h7 h8 h9 h10 h11 h12 h13 h14 h15 h16 h17 h18 h19 h20 h21 h22 h23 h24 h25 h26 h27 h28 h29 h30 h31 h32 h33 h34 h35 h36 h37 h38 h39 h40 h41 h42 hL (gL g + 1) 0 (mF Mb 23 11 0) (by omega) (by omega) e8
  refine ⟨M', ?_⟩
  refine tm_new kX10 (k := 22) (i := 0) rfl dfX10 wclL_7 wniX10_0.1 wniX10_0.2 rfl rwX10 (by decide) ⟨Nat.le_of_ble_eq_true rfl, Nat.le_of_ble_eq_true rfl⟩ dL_law_0 ?_
  refine tm_dup dL_law_3 rfl ?_
  refine tm_callI (avs := []) (st := [tr 22 0]) (okX10_init e1) wcL_9.1 wcL_9.2.1 wcL_9.2.2 rfl ⟨rfl, rfl, Nat.le_of_ble_eq_true rfl, Nat.le_of_ble_eq_true rfl⟩ rfl (Nat.le_of_ble_eq_true rfl) ⟨Nat.le_of_ble_eq_true rfl, Nat.le_of_ble_eq_true rfl⟩ dL_law_4 ?_
  refine tm_fin (kc := 22) (k := 10) rfl (by decide) rfl rfl finX10 e2 e3 ?_
  refine tm_astore_n (lc' := [(1, tr 10 0), (0, tr 91 0)]) dL_law_7 rfl (show 1 < 4 by decide) rfl ?_
  refine tm_new kX11 (k := 23) (i := 0) rfl dfX11 wclL_10 wniX11_0.1 wniX11_0.2 e4 rwX11 (by decide) ⟨Nat.le_of_ble_eq_true rfl, Nat.le_of_ble_eq_true rfl⟩ dL_law_8 ?_
  refine tm_dup dL_law_11 rfl ?_
  refine tm_callI (avs := []) (st := [tr 23 0]) (okX11_init e5) wcL_12.1 wcL_12.2.1 wcL_12.2.2 rfl ⟨rfl, rfl, Nat.le_of_ble_eq_true rfl, Nat.le_of_ble_eq_true rfl⟩ rfl (Nat.le_of_ble_eq_true rfl) ⟨Nat.le_of_ble_eq_true rfl, Nat.le_of_ble_eq_true rfl⟩ dL_law_12 ?_
  refine tm_fin (kc := 23) (k := 11) rfl (by decide) rfl rfl finX11 e6 e7 ?_
  refine tm_astore_n (lc' := [(2, tr 11 0), (1, tr 10 0), (0, tr 91 0)]) dL_law_15 rfl (show 2 < 4 by decide) rfl ?_
  refine tm_iconst (v := 0) dL_law_16 (by decide) ?_
  refine tm_istore_n (lc' := [(3, ti 0), (2, tr 11 0), (1, tr 10 0), (0, tr 91 0)]) dL_law_17 rfl (show 3 < 4 by decide) rfl ?_
  refine tm_lcp [0, 1, 2, 3] rfl ?_
  exact tm_widen (Nat.le_of_ble_eq_true rfl) (Nat.le_of_ble_eq_true rfl) kk
/-- the classes of arrays -/
def five : List FieldType := [.int, .long, .boolean, .object "EvenFlow$Part", .object "EvenFlow$Line"]
theorem tA_five (k : Nat) : tA k ∈ five := by
  have h : ∀ l ∈ tTA, ∀ t ∈ l, t ∈ five := by decide +kernel
  unfold tA
  have h1 : ∀ l : List FieldType, (∀ t ∈ l, t ∈ five) → l.getD (k % 100) .int ∈ five := by
    intro l hl
    rw [List.getD_eq_getElem?_getD]
    cases e : l[k % 100]? with
    | none => exact (by decide : FieldType.int ∈ five)
    | some t => exact hl t (List.mem_of_getElem? e)
  apply h1
  rw [List.getD_eq_getElem?_getD]
  cases e : tTA[k / 100 - 1]? with
  | none => intro t ht; cases ht
  | some l => exact h l (List.mem_of_getElem? e)
theorem arr_prim {args : Array Value} {s : State} {ty : FieldType} (h : (Cond.arrayClass ty).before args s = true) (hp : ∀ U cA, U.vm.findClass ("[" ++ ty.toString) = some cA → va_RA U cA ty) : ∃ cA, ArrOfT s cA ty ∧ va_RA s cA ty := by
  obtain ⟨cA, kA, comp, h1, h2, h3⟩ := Cond.arrayClass_spec h
  exact ⟨cA, fun n z => ⟨fun k q => (by cases q), kA, h2, comp, h3⟩, hp s cA h1⟩
theorem arr_obj {args : Array Value} {s : State} {C : String} (h : (Cond.arrayOver (.object C)).before args s = true) : ∃ cA, ArrOfT s cA (.object C) ∧ va_RA s cA (.object C) := by
  obtain ⟨comp, c, k, h1, h2, h3, h4, h5⟩ := Cond.arrayOver_spec h
  exact ⟨c, fun n z => ⟨fun k q => (by cases q), k, h3, comp, h4⟩, k, comp, h3, h4, h1, h5⟩
theorem lw_in {w : Cond} (i : Nat) (h : tables_1[i]? = some w) : w ∈ lw_tbl := List.mem_append_right _ (List.mem_of_getElem? h)
set_option maxHeartbeats 4000000 in
set_option maxRecDepth 100000 in
theorem law_world {p : Program} {s : State} {m : MethodId} {meth : Method} {c : Code} {b L : Nat} {xs : Nat → Int32} (l : Launch) (C0 : lw_At p s m meth c b L xs) : ∃ g : tG, gl g = l ∧ gS g = s.heap.size ∧ gH g = s.heap ∧ gb g = b ∧ gL g = L ∧ tK g s := by
  obtain ⟨hx, hb, hr, hml, hown, hts, hX, hbl, hlocks, hgv⟩ := id C0
  have ht : ∀ w ∈ tgd, w.before #[Value.ref b] s = true := fun w hw => hts w (List.mem_filter.mp hw).1
  obtain ⟨c0, i0, k0⟩ := u_known (C := RX0) (T := TX0) (N := 13) (n := 13) ht kX0.2.1 (ht _ wniX0_0.1)
  obtain ⟨c1, i1, k1⟩ := u_known (C := RX1) (T := TX1) (N := 10) (n := 10) ht kX1.2.1 (ht _ wniX1_0.1)
  obtain ⟨c2, i2, k2⟩ := u_known (C := RX2) (T := TX2) (N := 6) (n := 6) ht kX2.2.1 (ht _ wniX2_0.1)
  obtain ⟨c3, i3, k3⟩ := u_known (C := RX3) (T := TX3) (N := 9) (n := 9) ht kX3.2.1 (ht _ wniX3_0.1)
  obtain ⟨c4, i4, k4⟩ := u_known (C := RX4) (T := TX4) (N := 14) (n := 14) ht kX4.2.1 (ht _ wniX4_0.1)
  obtain ⟨c5, i5, k5⟩ := u_known (C := RX5) (T := TX5) (N := 9) (n := 9) ht kX5.2.1 (ht _ wniX5_0.1)
  obtain ⟨c6, i6, k6⟩ := u_known (C := RX6) (T := TX6) (N := 9) (n := 9) ht kX6.2.1 (ht _ wniX6_0.1)
  obtain ⟨c7, i7, k7⟩ := u_known (C := RX7) (T := TX7) (N := 15) (n := 15) ht kX7.2.1 (ht _ wniX7_0.1)
  obtain ⟨c8, i8, k8⟩ := u_known (C := RX8) (T := TX8) (N := 6) (n := 6) ht kX8.2.1 (ht _ wniX8_0.1)
  obtain ⟨c9, i9, k9⟩ := u_known (C := RX9) (T := TX9) (N := 7) (n := 7) ht kX9.2.1 (ht _ wniX9_0.1)
  obtain ⟨c10, i10, k10⟩ := u_known (C := RX10) (T := TX10) (N := 12) (n := 12) ht kX10.2.1 (ht _ wniX10_0.1)
  obtain ⟨c11, i11, k11⟩ := u_known (C := RX11) (T := TX11) (N := 77) (n := 77) ht kX11.2.1 (ht _ wniX11_0.1)
  obtain ⟨dC, dI, hKc⟩ : ∃ (dC : Nat → ClassId) (dI : Nat → Nat → Nat), ∀ (k : Nat) (q : vw_C), vwCl[k]? = some q → u_Kn s q.1 q.2.1 q.2.2 (dC k) (dI k) := by
    refine ⟨fun k => match k with | 0 => c0 | 1 => c1 | 2 => c2 | 3 => c3 | 4 => c4 | 5 => c5 | 6 => c6 | 7 => c7 | 8 => c8 | 9 => c9 | 10 => c10 | _ => c11, fun k => match k with | 0 => i0 | 1 => i1 | 2 => i2 | 3 => i3 | 4 => i4 | 5 => i5 | 6 => i6 | 7 => i7 | 8 => i8 | 9 => i9 | 10 => i10 | _ => i11, ?_⟩
    intro k q hq
    match k, hq with
    | 0, hq => cases hq; exact k0
    | 1, hq => cases hq; exact k1
    | 2, hq => cases hq; exact k2
    | 3, hq => cases hq; exact k3
    | 4, hq => cases hq; exact k4
    | 5, hq => cases hq; exact k5
    | 6, hq => cases hq; exact k6
    | 7, hq => cases hq; exact k7
    | 8, hq => cases hq; exact k8
    | 9, hq => cases hq; exact k9
    | 10, hq => cases hq; exact k10
    | 11, hq => cases hq; exact k11
    | k + 12, hq => simp [vwCl] at hq
  obtain ⟨a0, r0⟩ := arr_prim (hts (.arrayClass .int) (lw_in 94 (by decide +kernel))) (fun U cA h => h)
  obtain ⟨a1, r1⟩ := arr_prim (hts (.arrayClass .long) (lw_in 95 (by decide +kernel))) (fun U cA h => h)
  obtain ⟨a2, r2⟩ := arr_prim (hts (.arrayClass .boolean) (lw_in 1457 (by decide +kernel))) (fun U cA h => h)
  have o3 := hts (.arrayOver (.object "EvenFlow$Part")) (lw_in 31 (by decide +kernel))
  have o4 := hts (.arrayOver (.object "EvenFlow$Line")) (lw_in 33 (by decide +kernel))
  obtain ⟨a3, r3⟩ := arr_obj o3
  obtain ⟨a4, r4⟩ := arr_obj o4
  obtain ⟨cA, hcA⟩ : ∃ cA : FieldType → ClassId, ∀ t ∈ five, ArrOfT s (cA t) t ∧ va_RA s (cA t) t := by
    refine ⟨fun t => if t = .int then a0 else if t = .long then a1 else if t = .boolean then a2 else if t = .object "EvenFlow$Part" then a3 else a4, ?_⟩
    intro t ht
    show ArrOfT s (if t = .int then a0 else if t = .long then a1 else if t = .boolean then a2 else if t = .object "EvenFlow$Part" then a3 else a4) t ∧ va_RA s (if t = .int then a0 else if t = .long then a1 else if t = .boolean then a2 else if t = .object "EvenFlow$Part" then a3 else a4) t
    rcases List.mem_cons.mp ht with rfl | ht
    · rw [if_pos rfl]; exact r0
    rcases List.mem_cons.mp ht with rfl | ht
    · rw [if_neg (by decide), if_pos rfl]; exact r1
    rcases List.mem_cons.mp ht with rfl | ht
    · rw [if_neg (by decide), if_neg (by decide), if_pos rfl]; exact r2
    rcases List.mem_cons.mp ht with rfl | ht
    · rw [if_neg (by decide), if_neg (by decide), if_neg (by decide), if_pos rfl]; exact r3
    rcases List.mem_cons.mp ht with rfl | ht
    · rw [if_neg (by decide), if_neg (by decide), if_neg (by decide), if_neg (by decide)]; exact r4
    cases ht
  have hf := flat_of_before _ hgv
  have hA : ∀ a : Nat, a < s.heap.size → ¬ (fun q : Nat => s.heap.size ≤ q) a := fun a h => Nat.not_le.mpr h
  obtain ⟨t, ht0, hT⟩ := va_Tof (args := #[Value.ref b]) (s := s) (tm := .static "EvenFlow" "KIND_ABOVE" "[I") (ty := .int) (N := 6) (f := fun j => .int (tZf j)) (A := fun q => s.heap.size ≤ q) (by decide) (hf _ (by decide +kernel)) (va_eqt (hf _ (by decide +kernel))) (fun j hj => by
    rcases (show j = 0 ∨ j = 1 ∨ j = 2 ∨ j = 3 ∨ j = 4 ∨ j = 5 by omega) with rfl | rfl | rfl | rfl | rfl | rfl
    · exact va_eqt (z := -1) (hf _ (by decide +kernel))
    · exact va_eqt (z := 0) (hf _ (by decide +kernel))
    · exact va_eqt (z := 1) (hf _ (by decide +kernel))
    · exact va_eqt (z := 1) (hf _ (by decide +kernel))
    · exact va_eqt (z := 0) (hf _ (by decide +kernel))
    · exact va_eqt (z := 0) (hf _ (by decide +kernel))) hA
  have hZ := va_Zof (A := fun q => s.heap.size ≤ q) (hts (.laysStatic "EvenFlow" "KIND_ABOVE" "[I") (lw_in 681 (by decide +kernel))) (hts (.initialized "EvenFlow") (lw_in 1 (by decide +kernel))) ht0 hA
  refine ⟨(l, dC, dI, fun k => cA (tA k), s.heap.size, s.heap, t, b, L, xs), rfl, rfl, rfl, rfl, rfl, ?_⟩
  refine ⟨⟨hKc, fun k q h => by simp at h⟩, fun k => hcA _ (tA_five k), ?_, ?_, hZ, hT, hX, hbl, rfl⟩
  · intro q hq
    rcases List.mem_cons.mp hq with rfl | hq
    · exact va_Nw.of rfl (hts _ (lw_in 26 (by decide +kernel)))
    rcases List.mem_cons.mp hq with rfl | hq
    · exact va_Nw.of rfl (hts _ (lw_in 1059 (by decide +kernel)))
    rcases List.mem_cons.mp hq with rfl | hq
    · exact va_Nw.of rfl (hts _ (lw_in 729 (by decide +kernel)))
    rcases List.mem_cons.mp hq with rfl | hq
    · exact va_Nw.of rfl (hts _ (lw_in 927 (by decide +kernel)))
    cases hq
  · intro C hC
    rcases List.mem_cons.mp hC with rfl | hC
    · exact va_AO.of o4
    rcases List.mem_cons.mp hC with rfl | hC
    · exact va_AO.of o3
    cases hC
set_option maxHeartbeats 4000000 in
set_option maxRecDepth 100000 in
theorem law_whole {Rl : tM → Prop} (h0 : call0 Rl) (h1 : call1 Rl) (h2 : call2 Rl) (h3 : call3 Rl) (h4 : call4 Rl) (h5 : call5 Rl) (h6 : call6 Rl) (h7 : call7 Rl) (h8 : call8 Rl) (h9 : call9 Rl) (h10 : call10 Rl) (h11 : call11 Rl) (h12 : call12 Rl) (h13 : call13 Rl) (h14 : call14 Rl) (h15 : call15 Rl) (h16 : call16 Rl) (h17 : call17 Rl) (h18 : call18 Rl) (h19 : call19 Rl) (h20 : call20 Rl) (h21 : call21 Rl) (h22 : call22 Rl) (h23 : call23 Rl) (h24 : call24 Rl) (h25 : call25 Rl) (h26 : call26 Rl) (h27 : call27 Rl) (h28 : call28 Rl) (h29 : call29 Rl) (h30 : call30 Rl) (h31 : call31 Rl) (h32 : call32 Rl) (h33 : call33 Rl) (h34 : call34 Rl) (h35 : call35 Rl) (h36 : call36 Rl) (h37 : call37 Rl) (h38 : call38 Rl) (h39 : call39 Rl) (h40 : call40 Rl) (h41 : call41 Rl) (h42 : call42 Rl) (h : lawInit Rl) {p : Program} {e : Env} {s : State} {m : MethodId} {below : List Frame} {meth : Method} {c : Code} (l : Launch) {b L : Nat} {xs : Nat → Int32} (hL : L ≤ 3072) (C0 : lw_At p s m meth c b L xs) : W p l e room_1 s m #[Value.ref b] below meth c s.heap [] 0 0 (lw_Z below #[Value.ref b] s) (entryFrame m ([Value.ref b] : List Value).toArray 4) := by
  obtain ⟨hx, hb, hr, hml, hown, hts, hX, hbl, hlocks, hgv⟩ := id C0
  obtain ⟨g, g1, g2, g3, g4, g5, hK⟩ := law_world l C0
  obtain ⟨M', kk⟩ := law_begin (g := g) (nm := meth.name) h0 h1 h2 h3 h4 h5 h6 h7 h8 h9 h10 h11 h12 h13 h14 h15 h16 h17 h18 h19 h20 h21 h22 h23 h24 h25 h26 h27 h28 h29 h30 h31 h32 h33 h34 h35 h36 h37 h38 h39 h40 h41 h42 h (by rw [g5]; exact hL)
  have ht : ∀ w ∈ tgd, w.before #[Value.ref b] s = true := fun w hw => hts w (List.mem_filter.mp hw).1
  have X : tX g (iL meth.name) p s m #[Value.ref b] meth c := ⟨hx, hb, hml, hown, ht, hr, hlocks, rfl, hK⟩
  have hl := lv_entry ([.ref b]) (n := 4) (Nat.le_of_ble_eq_true rfl)
  rw [lg_entry_eq]
  generalize (lg_sl ([.ref b]) ++ List.replicate (4 - (lg_sl ([.ref b])).length) Slot.unset).toArray = ls at hl ⊢
  have hl : lv_has ls 4 [(0, .ref b)] := hl
  have ha : (fun k (_ : Nat) => if k = 90 then gk g else gb g) 91 0 = b := g4
  have K := kk p e s m #[Value.ref b] below meth c X (fun k _ => if k = 90 then gk g else gb g) s.heap [] ls ⟨fun k i q => (by cases q), fun k i k' i' q => (by cases q), fun k i q => (by cases q), fun k i j q => (by cases q), fun k i _ => rfl, rfl, rfl⟩ ⟨by rw [g2]; exact Nat.le_refl _, fun q _ => by rw [g3]⟩ (fun _ q => by cases q) ⟨Or.inl rfl, trivial⟩ trivial (by
    show lv_has ls 4 [(0, Value.ref ((fun k (_ : Nat) => if k = 90 then gk g else gb g) 91 0))]
    rw [ha]; exact hl)
  rw [g1] at K
  refine tW_mono K ?_
  rintro t ⟨o, q1, q2, ⟨ad', -, -, q3, -⟩, L', ⟨q4, q5, q6⟩, q7⟩
  refine ⟨o, q1, q2, q3, q4, q5, ?_⟩
  exact State.sameButNew.drop_fresh (L := []) (J := L') q6 (fun y hy => by have := q7 y hy; rw [g2] at this; exact this)
