section TR
variable {g : tG} {y : tY} {R : Room} {mc ms : Nat} {r : Option tV} {M' : tM} {cells slots pc : Nat} {lc : List (Nat × tV)} {st : List tV} {M : tM}
theorem tm_iconst {n : Int} {v : Int32} (hd : decode y.2.1 pc = .ok (.iconst n, 1)) (hv : Int32.ofInt n = v) (k : TW g y R mc ms r M' cells slots (pc + 1) lc (ti v :: st) M) : TW g y R mc ms r M' cells slots pc lc (st) M := by
  intro p e s m args below meth c X ad H locs ls hW hO hlo hL hs hl
  exact lv_iconst X.1 X.2.1 hd hv (k p e s m args below meth c X ad H locs ls hW hO hlo hL ⟨trivial, hs⟩ hl)
theorem tm_bipush {n : Int} {v : Int32} (hd : decode y.2.1 pc = .ok (.bipush n, 2)) (hv : (Int8.ofInt n).toInt32 = v) (k : TW g y R mc ms r M' cells slots (pc + 2) lc (ti v :: st) M) : TW g y R mc ms r M' cells slots pc lc (st) M := by
  intro p e s m args below meth c X ad H locs ls hW hO hlo hL hs hl
  exact lv_bipush X.1 X.2.1 hd hv (k p e s m args below meth c X ad H locs ls hW hO hlo hL ⟨trivial, hs⟩ hl)
theorem tm_sipush {n : Int} {v : Int32} (hd : decode y.2.1 pc = .ok (.sipush n, 3)) (hv : (Int16.ofInt n).toInt32 = v) (k : TW g y R mc ms r M' cells slots (pc + 3) lc (ti v :: st) M) : TW g y R mc ms r M' cells slots pc lc (st) M := by
  intro p e s m args below meth c X ad H locs ls hW hO hlo hL hs hl
  exact lv_sipush X.1 X.2.1 hd hv (k p e s m args below meth c X ad H locs ls hW hO hlo hL ⟨trivial, hs⟩ hl)
theorem tm_lconst {n : Fin 2} {v : Int64} (hd : decode y.2.1 pc = .ok (.lconst n, 1)) (hv : Int64.ofNat (n : Nat) = v) (k : TW g y R mc ms r M' cells slots (pc + 1) lc (tl v :: st) M) : TW g y R mc ms r M' cells slots pc lc (st) M := by
  intro p e s m args below meth c X ad H locs ls hW hO hlo hL hs hl
  exact lv_lconst X.1 X.2.1 hd hv (k p e s m args below meth c X ad H locs ls hW hO hlo hL ⟨trivial, hs⟩ hl)
theorem tm_null  (hd : decode y.2.1 pc = .ok (.aconst_null, 1)) (k : TW g y R mc ms r M' cells slots (pc + 1) lc (tn :: st) M) : TW g y R mc ms r M' cells slots pc lc (st) M := by
  intro p e s m args below meth c X ad H locs ls hW hO hlo hL hs hl
  exact lv_null X.1 X.2.1 hd (k p e s m args below meth c X ad H locs ls hW hO hlo hL ⟨trivial, hs⟩ hl)
theorem tm_ldc {idx : Nat} {v : Int32} (hd : decode y.2.1 pc = .ok (.ldc idx, 2)) (hw : Cond.constant y.1 idx v ∈ tgd) (k : TW g y R mc ms r M' cells slots (pc + 2) lc (ti v :: st) M) : TW g y R mc ms r M' cells slots pc lc (st) M := by
  intro p e s m args below meth c X ad H locs ls hW hO hlo hL hs hl
  exact lv_ldc X.1 X.2.1 X.2.2.2.1 (X.2.2.2.2.1 _ hw) hd (k p e s m args below meth c X ad H locs ls hW hO hlo hL ⟨trivial, hs⟩ hl)
theorem tm_ldcw {idx : Nat} {v : Int32} (hd : decode y.2.1 pc = .ok (.ldc_w idx, 3)) (hw : Cond.constant y.1 idx v ∈ tgd) (k : TW g y R mc ms r M' cells slots (pc + 3) lc (ti v :: st) M) : TW g y R mc ms r M' cells slots pc lc (st) M := by
  intro p e s m args below meth c X ad H locs ls hW hO hlo hL hs hl
  exact lv_ldcw X.1 X.2.1 X.2.2.2.1 (X.2.2.2.2.1 _ hw) hd (k p e s m args below meth c X ad H locs ls hW hO hlo hL ⟨trivial, hs⟩ hl)
theorem tm_ldc2 {idx : Nat} {v : Int64} (hd : decode y.2.1 pc = .ok (.ldc2_w idx, 3)) (hw : Cond.constantLong y.1 idx v ∈ tgd) (k : TW g y R mc ms r M' cells slots (pc + 3) lc (tl v :: st) M) : TW g y R mc ms r M' cells slots pc lc (st) M := by
  intro p e s m args below meth c X ad H locs ls hW hO hlo hL hs hl
  exact lv_ldc2 X.1 X.2.1 X.2.2.2.1 (X.2.2.2.2.1 _ hw) hd (k p e s m args below meth c X ad H locs ls hW hO hlo hL ⟨trivial, hs⟩ hl)
theorem tm_iload_n {q : Fin 4} {i : Nat} {x : Int32} (hd : decode y.2.1 pc = .ok (.iload_n q, 1)) (hi : (q : Nat) = i) (h : tget lc i = some (ti x)) (k : TW g y R mc ms r M' cells slots (pc + 1) lc (ti x :: st) M) : TW g y R mc ms r M' cells slots pc lc (st) M := by
  intro p e s m args below meth c X ad H locs ls hW hO hlo hL hs hl
  exact lv_iload_n X.1 X.2.1 hd hi (tlc_at h hl) (k p e s m args below meth c X ad H locs ls hW hO hlo hL ⟨trivial, hs⟩ hl)
theorem tm_iload {i : Nat} {x : Int32} (hd : decode y.2.1 pc = .ok (.iload i, 2)) (h : tget lc i = some (ti x)) (k : TW g y R mc ms r M' cells slots (pc + 2) lc (ti x :: st) M) : TW g y R mc ms r M' cells slots pc lc (st) M := by
  intro p e s m args below meth c X ad H locs ls hW hO hlo hL hs hl
  exact lv_iload X.1 X.2.1 hd (tlc_at h hl) (k p e s m args below meth c X ad H locs ls hW hO hlo hL ⟨trivial, hs⟩ hl)
theorem tm_lload_n {q : Fin 4} {i : Nat} {x : Int64} (hd : decode y.2.1 pc = .ok (.lload_n q, 1)) (hi : (q : Nat) = i) (h : tget lc i = some (tl x)) (k : TW g y R mc ms r M' cells slots (pc + 1) lc (tl x :: st) M) : TW g y R mc ms r M' cells slots pc lc (st) M := by
  intro p e s m args below meth c X ad H locs ls hW hO hlo hL hs hl
  exact lv_lload_n X.1 X.2.1 hd hi (tlc_at h hl) (k p e s m args below meth c X ad H locs ls hW hO hlo hL ⟨trivial, hs⟩ hl)
theorem tm_lload {i : Nat} {x : Int64} (hd : decode y.2.1 pc = .ok (.lload i, 2)) (h : tget lc i = some (tl x)) (k : TW g y R mc ms r M' cells slots (pc + 2) lc (tl x :: st) M) : TW g y R mc ms r M' cells slots pc lc (st) M := by
  intro p e s m args below meth c X ad H locs ls hW hO hlo hL hs hl
  exact lv_lload X.1 X.2.1 hd (tlc_at h hl) (k p e s m args below meth c X ad H locs ls hW hO hlo hL ⟨trivial, hs⟩ hl)
theorem tm_aload_n {q : Fin 4} {i : Nat} {v : Option (Nat × Nat)} (hd : decode y.2.1 pc = .ok (.aload_n q, 1)) (hi : (q : Nat) = i) (h : tget lc i = some (.inr (.inr v))) (k : TW g y R mc ms r M' cells slots (pc + 1) lc (.inr (.inr v) :: st) M) : TW g y R mc ms r M' cells slots pc lc st M := by
  intro p e s m args below meth c X ad H locs ls hW hO hlo hL hs hl
  have hv : tLv M (.inr (.inr v)) := tLc_mem (q := (i, .inr (.inr v))) hL (tget_mem h)
  have K1 := k p e s m args below meth c X ad H locs ls hW hO hlo hL ⟨hv, hs⟩ hl
  have H1 := tlc_at h hl
  rcases v with _ | v
  · exact lv_aload_nN X.1 X.2.1 hd hi H1 K1
  · exact lv_aload_n X.1 X.2.1 hd hi H1 K1
theorem tm_aload {i : Nat} {v : Option (Nat × Nat)} (hd : decode y.2.1 pc = .ok (.aload i, 2)) (h : tget lc i = some (.inr (.inr v))) (k : TW g y R mc ms r M' cells slots (pc + 2) lc (.inr (.inr v) :: st) M) : TW g y R mc ms r M' cells slots pc lc st M := by
  intro p e s m args below meth c X ad H locs ls hW hO hlo hL hs hl
  have hv : tLv M (.inr (.inr v)) := tLc_mem (q := (i, .inr (.inr v))) hL (tget_mem h)
  have K1 := k p e s m args below meth c X ad H locs ls hW hO hlo hL ⟨hv, hs⟩ hl
  have H1 := tlc_at h hl
  rcases v with _ | v
  · exact lv_aloadN X.1 X.2.1 hd H1 K1
  · exact lv_aload X.1 X.2.1 hd H1 K1
theorem tm_istore_n {q : Fin 4} {i : Nat} {x : Int32} {lc' : List (Nat × tV)} (hd : decode y.2.1 pc = .ok (.istore_n q, 1)) (hi : (q : Nat) = i) (hn : i < y.2.2.1) (he : tst1 lc i (ti x) = lc') (k : TW g y R mc ms r M' cells slots (pc + 1) lc' st M) : TW g y R mc ms r M' cells slots pc lc (ti x :: st) M := by
  intro p e s m args below meth c X ad H locs ls hW hO hlo hL hs hl
  subst he
  exact lv_istore_n X.1 X.2.1 hd hi hl hn (tst1_c ad lc i (ti x)) (fun ls' hl' => k p e s m args below meth c X ad H locs ls' hW hO hlo (tLc_st hL hs.1) hs.2 hl')
theorem tm_istore {i : Nat} {x : Int32} {lc' : List (Nat × tV)} (hd : decode y.2.1 pc = .ok (.istore i, 2)) (hn : i < y.2.2.1) (he : tst1 lc i (ti x) = lc') (k : TW g y R mc ms r M' cells slots (pc + 2) lc' st M) : TW g y R mc ms r M' cells slots pc lc (ti x :: st) M := by
  intro p e s m args below meth c X ad H locs ls hW hO hlo hL hs hl
  subst he
  exact lv_istore X.1 X.2.1 hd hl hn (tst1_c ad lc i (ti x)) (fun ls' hl' => k p e s m args below meth c X ad H locs ls' hW hO hlo (tLc_st hL hs.1) hs.2 hl')
theorem tm_lstore_n {q : Fin 4} {i : Nat} {x : Int64} {lc' : List (Nat × tV)} (hd : decode y.2.1 pc = .ok (.lstore_n q, 1)) (hi : (q : Nat) = i) (hn : i + 1 < y.2.2.1) (he : tst2 lc i (tl x) = lc') (k : TW g y R mc ms r M' cells slots (pc + 1) lc' st M) : TW g y R mc ms r M' cells slots pc lc (tl x :: st) M := by
  intro p e s m args below meth c X ad H locs ls hW hO hlo hL hs hl
  subst he
  exact lv_lstore_n X.1 X.2.1 hd hi hl hn (tst2_c ad lc i (tl x)) (fun ls' hl' => k p e s m args below meth c X ad H locs ls' hW hO hlo (tLc_st hL hs.1) hs.2 hl')
theorem tm_lstore {i : Nat} {x : Int64} {lc' : List (Nat × tV)} (hd : decode y.2.1 pc = .ok (.lstore i, 2)) (hn : i + 1 < y.2.2.1) (he : tst2 lc i (tl x) = lc') (k : TW g y R mc ms r M' cells slots (pc + 2) lc' st M) : TW g y R mc ms r M' cells slots pc lc (tl x :: st) M := by
  intro p e s m args below meth c X ad H locs ls hW hO hlo hL hs hl
  subst he
  exact lv_lstore X.1 X.2.1 hd hl hn (tst2_c ad lc i (tl x)) (fun ls' hl' => k p e s m args below meth c X ad H locs ls' hW hO hlo (tLc_st hL hs.1) hs.2 hl')
theorem tm_astore_n {q : Fin 4} {i : Nat} {v : Option (Nat × Nat)} {lc' : List (Nat × tV)} (hd : decode y.2.1 pc = .ok (.astore_n q, 1)) (hi : (q : Nat) = i) (hn : i < y.2.2.1) (he : tst1 lc i (.inr (.inr v)) = lc') (k : TW g y R mc ms r M' cells slots (pc + 1) lc' st M) : TW g y R mc ms r M' cells slots pc lc (.inr (.inr v) :: st) M := by
  intro p e s m args below meth c X ad H locs ls hW hO hlo hL hs hl
  subst he
  have K1 := fun (ls' : Array Slot) hl' => k p e s m args below meth c X ad H locs ls' hW hO hlo (tLc_st hL hs.1) hs.2 hl'
  have E1 := tst1_c ad lc i (.inr (.inr v))
  rcases v with _ | v
  · exact lv_astore_nN X.1 X.2.1 hd hi hl hn E1 K1
  · exact lv_astore_n X.1 X.2.1 hd hi hl hn E1 K1
theorem tm_astore {i : Nat} {v : Option (Nat × Nat)} {lc' : List (Nat × tV)} (hd : decode y.2.1 pc = .ok (.astore i, 2)) (hn : i < y.2.2.1) (he : tst1 lc i (.inr (.inr v)) = lc') (k : TW g y R mc ms r M' cells slots (pc + 2) lc' st M) : TW g y R mc ms r M' cells slots pc lc (.inr (.inr v) :: st) M := by
  intro p e s m args below meth c X ad H locs ls hW hO hlo hL hs hl
  subst he
  have K1 := fun (ls' : Array Slot) hl' => k p e s m args below meth c X ad H locs ls' hW hO hlo (tLc_st hL hs.1) hs.2 hl'
  have E1 := tst1_c ad lc i (.inr (.inr v))
  rcases v with _ | v
  · exact lv_astoreN X.1 X.2.1 hd hl hn E1 K1
  · exact lv_astore X.1 X.2.1 hd hl hn E1 K1
theorem tget_at : ∀ {lc : List (Nat × tV)} {i : Nat} {v : tV}, tget lc i = some v → ∃ k : Nat, lc[k]? = some (i, v) := fun h => List.getElem?_of_mem (tget_mem h)
theorem tm_iinc {i : Nat} {n : Int} {x v : Int32} {lc' : List (Nat × tV)} (hd : decode y.2.1 pc = .ok (.iinc i n, 3)) (h : tget lc i = some (ti x)) (hv : x + Int32.ofInt n = v) (hn : i < y.2.2.1) (he : tst1 lc i (ti v) = lc') (k : TW g y R mc ms r M' cells slots (pc + 3) lc' st M) : TW g y R mc ms r M' cells slots pc lc st M := by
  intro p e s m args below meth c X ad H locs ls hW hO hlo hL hs hl
  subst he
  obtain ⟨j, hj⟩ := tget_at h
  exact lv_iinc (k := j) X.1 X.2.1 hd hl (by unfold tlc; rw [List.getElem?_map, hj]; rfl) hv hn (tst1_c ad lc i (ti v)) (fun ls' hl' => k p e s m args below meth c X ad H locs ls' hW hO hlo (tLc_st hL trivial) hs hl')
theorem tm_iadd {x z : Int32} (hd : decode y.2.1 pc = .ok (.iadd, 1)) (k : TW g y R mc ms r M' cells slots (pc + 1) lc (ti (x + z) :: st) M) : TW g y R mc ms r M' cells slots pc lc (ti z :: ti x :: st) M := by
  intro p e s m args below meth c X ad H locs ls hW hO hlo hL hs hl
  exact lv_iadd X.1 X.2.1 hd (k p e s m args below meth c X ad H locs ls hW hO hlo hL ⟨trivial, hs.2.2⟩ hl)
theorem tm_isub {x z : Int32} (hd : decode y.2.1 pc = .ok (.isub, 1)) (k : TW g y R mc ms r M' cells slots (pc + 1) lc (ti (x - z) :: st) M) : TW g y R mc ms r M' cells slots pc lc (ti z :: ti x :: st) M := by
  intro p e s m args below meth c X ad H locs ls hW hO hlo hL hs hl
  exact lv_isub X.1 X.2.1 hd (k p e s m args below meth c X ad H locs ls hW hO hlo hL ⟨trivial, hs.2.2⟩ hl)
theorem tm_imul {x z : Int32} (hd : decode y.2.1 pc = .ok (.imul, 1)) (k : TW g y R mc ms r M' cells slots (pc + 1) lc (ti (x * z) :: st) M) : TW g y R mc ms r M' cells slots pc lc (ti z :: ti x :: st) M := by
  intro p e s m args below meth c X ad H locs ls hW hO hlo hL hs hl
  exact lv_imul X.1 X.2.1 hd (k p e s m args below meth c X ad H locs ls hW hO hlo hL ⟨trivial, hs.2.2⟩ hl)
theorem tm_iand {x z : Int32} (hd : decode y.2.1 pc = .ok (.iand, 1)) (k : TW g y R mc ms r M' cells slots (pc + 1) lc (ti (x &&& z) :: st) M) : TW g y R mc ms r M' cells slots pc lc (ti z :: ti x :: st) M := by
  intro p e s m args below meth c X ad H locs ls hW hO hlo hL hs hl
  exact lv_iand X.1 X.2.1 hd (k p e s m args below meth c X ad H locs ls hW hO hlo hL ⟨trivial, hs.2.2⟩ hl)
theorem tm_ixor {x z : Int32} (hd : decode y.2.1 pc = .ok (.ixor, 1)) (k : TW g y R mc ms r M' cells slots (pc + 1) lc (ti (x ^^^ z) :: st) M) : TW g y R mc ms r M' cells slots pc lc (ti z :: ti x :: st) M := by
  intro p e s m args below meth c X ad H locs ls hW hO hlo hL hs hl
  exact lv_ixor X.1 X.2.1 hd (k p e s m args below meth c X ad H locs ls hW hO hlo hL ⟨trivial, hs.2.2⟩ hl)
theorem tm_ladd {x z : Int64} (hd : decode y.2.1 pc = .ok (.ladd, 1)) (k : TW g y R mc ms r M' cells slots (pc + 1) lc (tl (x + z) :: st) M) : TW g y R mc ms r M' cells slots pc lc (tl z :: tl x :: st) M := by
  intro p e s m args below meth c X ad H locs ls hW hO hlo hL hs hl
  exact lv_ladd X.1 X.2.1 hd (k p e s m args below meth c X ad H locs ls hW hO hlo hL ⟨trivial, hs.2.2⟩ hl)
theorem tm_lsub {x z : Int64} (hd : decode y.2.1 pc = .ok (.lsub, 1)) (k : TW g y R mc ms r M' cells slots (pc + 1) lc (tl (x - z) :: st) M) : TW g y R mc ms r M' cells slots pc lc (tl z :: tl x :: st) M := by
  intro p e s m args below meth c X ad H locs ls hW hO hlo hL hs hl
  exact lv_lsub X.1 X.2.1 hd (k p e s m args below meth c X ad H locs ls hW hO hlo hL ⟨trivial, hs.2.2⟩ hl)
theorem tm_lmul {x z : Int64} (hd : decode y.2.1 pc = .ok (.lmul, 1)) (k : TW g y R mc ms r M' cells slots (pc + 1) lc (tl (x * z) :: st) M) : TW g y R mc ms r M' cells slots pc lc (tl z :: tl x :: st) M := by
  intro p e s m args below meth c X ad H locs ls hW hO hlo hL hs hl
  exact lv_lmul X.1 X.2.1 hd (k p e s m args below meth c X ad H locs ls hW hO hlo hL ⟨trivial, hs.2.2⟩ hl)
theorem tm_land {x z : Int64} (hd : decode y.2.1 pc = .ok (.land, 1)) (k : TW g y R mc ms r M' cells slots (pc + 1) lc (tl (x &&& z) :: st) M) : TW g y R mc ms r M' cells slots pc lc (tl z :: tl x :: st) M := by
  intro p e s m args below meth c X ad H locs ls hW hO hlo hL hs hl
  exact lv_land X.1 X.2.1 hd (k p e s m args below meth c X ad H locs ls hW hO hlo hL ⟨trivial, hs.2.2⟩ hl)
theorem tm_lor {x z : Int64} (hd : decode y.2.1 pc = .ok (.lor, 1)) (k : TW g y R mc ms r M' cells slots (pc + 1) lc (tl (x ||| z) :: st) M) : TW g y R mc ms r M' cells slots pc lc (tl z :: tl x :: st) M := by
  intro p e s m args below meth c X ad H locs ls hW hO hlo hL hs hl
  exact lv_lor X.1 X.2.1 hd (k p e s m args below meth c X ad H locs ls hW hO hlo hL ⟨trivial, hs.2.2⟩ hl)
theorem tm_idiv {x z : Int32} (hd : decode y.2.1 pc = .ok (.idiv, 1)) (hne : ¬ z = 0) (k : TW g y R mc ms r M' cells slots (pc + 1) lc (ti (x / z) :: st) M) : TW g y R mc ms r M' cells slots pc lc (ti z :: ti x :: st) M := by
  intro p e s m args below meth c X ad H locs ls hW hO hlo hL hs hl
  exact lv_idiv X.1 X.2.1 hd hne (k p e s m args below meth c X ad H locs ls hW hO hlo hL ⟨trivial, hs.2.2⟩ hl)
theorem tm_irem {x z : Int32} (hd : decode y.2.1 pc = .ok (.irem, 1)) (hne : ¬ z = 0) (k : TW g y R mc ms r M' cells slots (pc + 1) lc (ti (x - x / z * z) :: st) M) : TW g y R mc ms r M' cells slots pc lc (ti z :: ti x :: st) M := by
  intro p e s m args below meth c X ad H locs ls hW hO hlo hL hs hl
  exact lv_irem X.1 X.2.1 hd hne (k p e s m args below meth c X ad H locs ls hW hO hlo hL ⟨trivial, hs.2.2⟩ hl)
theorem tm_ldiv {x z : Int64} (hd : decode y.2.1 pc = .ok (.ldiv, 1)) (hne : ¬ z = 0) (k : TW g y R mc ms r M' cells slots (pc + 1) lc (tl (x / z) :: st) M) : TW g y R mc ms r M' cells slots pc lc (tl z :: tl x :: st) M := by
  intro p e s m args below meth c X ad H locs ls hW hO hlo hL hs hl
  exact lv_ldiv X.1 X.2.1 hd hne (k p e s m args below meth c X ad H locs ls hW hO hlo hL ⟨trivial, hs.2.2⟩ hl)
theorem tm_lrem {x z : Int64} (hd : decode y.2.1 pc = .ok (.lrem, 1)) (hne : ¬ z = 0) (k : TW g y R mc ms r M' cells slots (pc + 1) lc (tl (x - x / z * z) :: st) M) : TW g y R mc ms r M' cells slots pc lc (tl z :: tl x :: st) M := by
  intro p e s m args below meth c X ad H locs ls hW hO hlo hL hs hl
  exact lv_lrem X.1 X.2.1 hd hne (k p e s m args below meth c X ad H locs ls hW hO hlo hL ⟨trivial, hs.2.2⟩ hl)
theorem tm_ineg {x : Int32} (hd : decode y.2.1 pc = .ok (.ineg, 1)) (k : TW g y R mc ms r M' cells slots (pc + 1) lc (ti (-x) :: st) M) : TW g y R mc ms r M' cells slots pc lc (ti x :: st) M := by
  intro p e s m args below meth c X ad H locs ls hW hO hlo hL hs hl
  exact lv_ineg X.1 X.2.1 hd (k p e s m args below meth c X ad H locs ls hW hO hlo hL ⟨trivial, hs.2⟩ hl)
theorem tm_lneg {x : Int64} (hd : decode y.2.1 pc = .ok (.lneg, 1)) (k : TW g y R mc ms r M' cells slots (pc + 1) lc (tl (-x) :: st) M) : TW g y R mc ms r M' cells slots pc lc (tl x :: st) M := by
  intro p e s m args below meth c X ad H locs ls hW hO hlo hL hs hl
  exact lv_lneg X.1 X.2.1 hd (k p e s m args below meth c X ad H locs ls hW hO hlo hL ⟨trivial, hs.2⟩ hl)
theorem tm_i2l {x : Int32} (hd : decode y.2.1 pc = .ok (.i2l, 1)) (k : TW g y R mc ms r M' cells slots (pc + 1) lc (tl x.toInt64 :: st) M) : TW g y R mc ms r M' cells slots pc lc (ti x :: st) M := by
  intro p e s m args below meth c X ad H locs ls hW hO hlo hL hs hl
  exact lv_i2l X.1 X.2.1 hd rfl (k p e s m args below meth c X ad H locs ls hW hO hlo hL ⟨trivial, hs.2⟩ hl)
theorem tm_l2i {x : Int64} (hd : decode y.2.1 pc = .ok (.l2i, 1)) (k : TW g y R mc ms r M' cells slots (pc + 1) lc (ti x.toInt32 :: st) M) : TW g y R mc ms r M' cells slots pc lc (tl x :: st) M := by
  intro p e s m args below meth c X ad H locs ls hW hO hlo hL hs hl
  exact lv_l2i X.1 X.2.1 hd rfl (k p e s m args below meth c X ad H locs ls hW hO hlo hL ⟨trivial, hs.2⟩ hl)
theorem tm_lshl {x : Int64} {z : Int32} (hd : decode y.2.1 pc = .ok (.lshl, 1)) (k : TW g y R mc ms r M' cells slots (pc + 1) lc (tl (x <<< (z.toInt64 &&& 63)) :: st) M) : TW g y R mc ms r M' cells slots pc lc (ti z :: tl x :: st) M := by
  intro p e s m args below meth c X ad H locs ls hW hO hlo hL hs hl
  exact lv_lshl X.1 X.2.1 hd rfl (k p e s m args below meth c X ad H locs ls hW hO hlo hL ⟨trivial, hs.2.2⟩ hl)
theorem tm_lcmp {x z : Int64} (hd : decode y.2.1 pc = .ok (.lcmp, 1)) (k : TW g y R mc ms r M' cells slots (pc + 1) lc (ti (lg_cmp x z) :: st) M) : TW g y R mc ms r M' cells slots pc lc (tl z :: tl x :: st) M := by
  intro p e s m args below meth c X ad H locs ls hW hO hlo hL hs hl
  exact W.lcmp X.1 X.2.1 hd (k p e s m args below meth c X ad H locs ls hW hO hlo hL ⟨trivial, hs.2.2⟩ hl)
theorem tm_dup {v : tV} (hd : decode y.2.1 pc = .ok (.dup, 1)) (hv : tcat v = 1) (k : TW g y R mc ms r M' cells slots (pc + 1) lc (v :: v :: st) M) : TW g y R mc ms r M' cells slots pc lc (v :: st) M := by
  intro p e s m args below meth c X ad H locs ls hW hO hlo hL hs hl
  exact lv_dup X.1 X.2.1 hd ((tC_cat ad v).trans hv) (k p e s m args below meth c X ad H locs ls hW hO hlo hL ⟨hs.1, hs⟩ hl)
theorem tm_dup2 {v w : tV} (hd : decode y.2.1 pc = .ok (.dup2, 1)) (hv : tcat v = 1) (hw : tcat w = 1) (k : TW g y R mc ms r M' cells slots (pc + 1) lc (v :: w :: v :: w :: st) M) : TW g y R mc ms r M' cells slots pc lc (v :: w :: st) M := by
  intro p e s m args below meth c X ad H locs ls hW hO hlo hL hs hl
  exact lv_dup2_11 X.1 X.2.1 hd ((tC_cat ad v).trans hv) ((tC_cat ad w).trans hw) (k p e s m args below meth c X ad H locs ls hW hO hlo hL ⟨hs.1, hs.2.1, hs⟩ hl)
theorem tm_dup2l {v : tV} (hd : decode y.2.1 pc = .ok (.dup2, 1)) (hv : tcat v = 2) (k : TW g y R mc ms r M' cells slots (pc + 1) lc (v :: v :: st) M) : TW g y R mc ms r M' cells slots pc lc (v :: st) M := by
  intro p e s m args below meth c X ad H locs ls hW hO hlo hL hs hl
  exact lv_dup2_2 X.1 X.2.1 hd ((tC_cat ad v).trans hv) (k p e s m args below meth c X ad H locs ls hW hO hlo hL ⟨hs.1, hs⟩ hl)
theorem tm_if_eq {x : Int32} {off : Int} {tgt : Nat} (hd : decode y.2.1 pc = .ok (.ifCond .eq off, 3)) (ht : (pc : Int) + off = (tgt : Int)) (kt : x = 0 → TW g y R mc ms r M' cells slots tgt lc st M) (kf : ¬ x = 0 → TW g y R mc ms r M' cells slots (pc + 3) lc st M) : TW g y R mc ms r M' cells slots pc lc (ti x :: st) M := by
  intro p e s m args below meth c X ad H locs ls hW hO hlo hL hs hl
  exact lv_if_eq X.1 X.2.1 hd ht (fun q => kt q p e s m args below meth c X ad H locs ls hW hO hlo hL hs.2 hl) (fun q => kf q p e s m args below meth c X ad H locs ls hW hO hlo hL hs.2 hl)
theorem tm_if_ne {x : Int32} {off : Int} {tgt : Nat} (hd : decode y.2.1 pc = .ok (.ifCond .ne off, 3)) (ht : (pc : Int) + off = (tgt : Int)) (kt : ¬ x = 0 → TW g y R mc ms r M' cells slots tgt lc st M) (kf : x = 0 → TW g y R mc ms r M' cells slots (pc + 3) lc st M) : TW g y R mc ms r M' cells slots pc lc (ti x :: st) M := by
  intro p e s m args below meth c X ad H locs ls hW hO hlo hL hs hl
  exact lv_if_ne X.1 X.2.1 hd ht (fun q => kt q p e s m args below meth c X ad H locs ls hW hO hlo hL hs.2 hl) (fun q => kf q p e s m args below meth c X ad H locs ls hW hO hlo hL hs.2 hl)
theorem tm_if_lt {x : Int32} {off : Int} {tgt : Nat} (hd : decode y.2.1 pc = .ok (.ifCond .lt off, 3)) (ht : (pc : Int) + off = (tgt : Int)) (kt : x < 0 → TW g y R mc ms r M' cells slots tgt lc st M) (kf : ¬ x < 0 → TW g y R mc ms r M' cells slots (pc + 3) lc st M) : TW g y R mc ms r M' cells slots pc lc (ti x :: st) M := by
  intro p e s m args below meth c X ad H locs ls hW hO hlo hL hs hl
  exact lv_if_lt X.1 X.2.1 hd ht (fun q => kt q p e s m args below meth c X ad H locs ls hW hO hlo hL hs.2 hl) (fun q => kf q p e s m args below meth c X ad H locs ls hW hO hlo hL hs.2 hl)
theorem tm_if_ge {x : Int32} {off : Int} {tgt : Nat} (hd : decode y.2.1 pc = .ok (.ifCond .ge off, 3)) (ht : (pc : Int) + off = (tgt : Int)) (kt : 0 ≤ x → TW g y R mc ms r M' cells slots tgt lc st M) (kf : ¬ 0 ≤ x → TW g y R mc ms r M' cells slots (pc + 3) lc st M) : TW g y R mc ms r M' cells slots pc lc (ti x :: st) M := by
  intro p e s m args below meth c X ad H locs ls hW hO hlo hL hs hl
  exact lv_if_ge X.1 X.2.1 hd ht (fun q => kt q p e s m args below meth c X ad H locs ls hW hO hlo hL hs.2 hl) (fun q => kf q p e s m args below meth c X ad H locs ls hW hO hlo hL hs.2 hl)
theorem tm_if_gt {x : Int32} {off : Int} {tgt : Nat} (hd : decode y.2.1 pc = .ok (.ifCond .gt off, 3)) (ht : (pc : Int) + off = (tgt : Int)) (kt : 0 < x → TW g y R mc ms r M' cells slots tgt lc st M) (kf : ¬ 0 < x → TW g y R mc ms r M' cells slots (pc + 3) lc st M) : TW g y R mc ms r M' cells slots pc lc (ti x :: st) M := by
  intro p e s m args below meth c X ad H locs ls hW hO hlo hL hs hl
  exact lv_if_gt X.1 X.2.1 hd ht (fun q => kt q p e s m args below meth c X ad H locs ls hW hO hlo hL hs.2 hl) (fun q => kf q p e s m args below meth c X ad H locs ls hW hO hlo hL hs.2 hl)
theorem tm_if_le {x : Int32} {off : Int} {tgt : Nat} (hd : decode y.2.1 pc = .ok (.ifCond .le off, 3)) (ht : (pc : Int) + off = (tgt : Int)) (kt : x ≤ 0 → TW g y R mc ms r M' cells slots tgt lc st M) (kf : ¬ x ≤ 0 → TW g y R mc ms r M' cells slots (pc + 3) lc st M) : TW g y R mc ms r M' cells slots pc lc (ti x :: st) M := by
  intro p e s m args below meth c X ad H locs ls hW hO hlo hL hs hl
  exact lv_if_le X.1 X.2.1 hd ht (fun q => kt q p e s m args below meth c X ad H locs ls hW hO hlo hL hs.2 hl) (fun q => kf q p e s m args below meth c X ad H locs ls hW hO hlo hL hs.2 hl)
theorem tm_icmp_eq {x z : Int32} {off : Int} {tgt : Nat} (hd : decode y.2.1 pc = .ok (.if_icmp .eq off, 3)) (ht : (pc : Int) + off = (tgt : Int)) (kt : x = z → TW g y R mc ms r M' cells slots tgt lc st M) (kf : ¬ x = z → TW g y R mc ms r M' cells slots (pc + 3) lc st M) : TW g y R mc ms r M' cells slots pc lc (ti z :: ti x :: st) M := by
  intro p e s m args below meth c X ad H locs ls hW hO hlo hL hs hl
  exact lv_icmp_eq X.1 X.2.1 hd ht (fun q => kt q p e s m args below meth c X ad H locs ls hW hO hlo hL hs.2.2 hl) (fun q => kf q p e s m args below meth c X ad H locs ls hW hO hlo hL hs.2.2 hl)
theorem tm_icmp_ne {x z : Int32} {off : Int} {tgt : Nat} (hd : decode y.2.1 pc = .ok (.if_icmp .ne off, 3)) (ht : (pc : Int) + off = (tgt : Int)) (kt : ¬ x = z → TW g y R mc ms r M' cells slots tgt lc st M) (kf : x = z → TW g y R mc ms r M' cells slots (pc + 3) lc st M) : TW g y R mc ms r M' cells slots pc lc (ti z :: ti x :: st) M := by
  intro p e s m args below meth c X ad H locs ls hW hO hlo hL hs hl
  exact lv_icmp_ne X.1 X.2.1 hd ht (fun q => kt q p e s m args below meth c X ad H locs ls hW hO hlo hL hs.2.2 hl) (fun q => kf q p e s m args below meth c X ad H locs ls hW hO hlo hL hs.2.2 hl)
theorem tm_icmp_lt {x z : Int32} {off : Int} {tgt : Nat} (hd : decode y.2.1 pc = .ok (.if_icmp .lt off, 3)) (ht : (pc : Int) + off = (tgt : Int)) (kt : x < z → TW g y R mc ms r M' cells slots tgt lc st M) (kf : ¬ x < z → TW g y R mc ms r M' cells slots (pc + 3) lc st M) : TW g y R mc ms r M' cells slots pc lc (ti z :: ti x :: st) M := by
  intro p e s m args below meth c X ad H locs ls hW hO hlo hL hs hl
  exact lv_icmp_lt X.1 X.2.1 hd ht (fun q => kt q p e s m args below meth c X ad H locs ls hW hO hlo hL hs.2.2 hl) (fun q => kf q p e s m args below meth c X ad H locs ls hW hO hlo hL hs.2.2 hl)
theorem tm_icmp_ge {x z : Int32} {off : Int} {tgt : Nat} (hd : decode y.2.1 pc = .ok (.if_icmp .ge off, 3)) (ht : (pc : Int) + off = (tgt : Int)) (kt : z ≤ x → TW g y R mc ms r M' cells slots tgt lc st M) (kf : ¬ z ≤ x → TW g y R mc ms r M' cells slots (pc + 3) lc st M) : TW g y R mc ms r M' cells slots pc lc (ti z :: ti x :: st) M := by
  intro p e s m args below meth c X ad H locs ls hW hO hlo hL hs hl
  exact lv_icmp_ge X.1 X.2.1 hd ht (fun q => kt q p e s m args below meth c X ad H locs ls hW hO hlo hL hs.2.2 hl) (fun q => kf q p e s m args below meth c X ad H locs ls hW hO hlo hL hs.2.2 hl)
theorem tm_icmp_gt {x z : Int32} {off : Int} {tgt : Nat} (hd : decode y.2.1 pc = .ok (.if_icmp .gt off, 3)) (ht : (pc : Int) + off = (tgt : Int)) (kt : z < x → TW g y R mc ms r M' cells slots tgt lc st M) (kf : ¬ z < x → TW g y R mc ms r M' cells slots (pc + 3) lc st M) : TW g y R mc ms r M' cells slots pc lc (ti z :: ti x :: st) M := by
  intro p e s m args below meth c X ad H locs ls hW hO hlo hL hs hl
  exact lv_icmp_gt X.1 X.2.1 hd ht (fun q => kt q p e s m args below meth c X ad H locs ls hW hO hlo hL hs.2.2 hl) (fun q => kf q p e s m args below meth c X ad H locs ls hW hO hlo hL hs.2.2 hl)
theorem tm_icmp_le {x z : Int32} {off : Int} {tgt : Nat} (hd : decode y.2.1 pc = .ok (.if_icmp .le off, 3)) (ht : (pc : Int) + off = (tgt : Int)) (kt : x ≤ z → TW g y R mc ms r M' cells slots tgt lc st M) (kf : ¬ x ≤ z → TW g y R mc ms r M' cells slots (pc + 3) lc st M) : TW g y R mc ms r M' cells slots pc lc (ti z :: ti x :: st) M := by
  intro p e s m args below meth c X ad H locs ls hW hO hlo hL hs hl
  exact lv_icmp_le X.1 X.2.1 hd ht (fun q => kt q p e s m args below meth c X ad H locs ls hW hO hlo hL hs.2.2 hl) (fun q => kf q p e s m args below meth c X ad H locs ls hW hO hlo hL hs.2.2 hl)
theorem tm_goto {off : Int} {tgt : Nat} (hd : decode y.2.1 pc = .ok (.goto off, 3)) (ht : (pc : Int) + off = (tgt : Int)) (k : TW g y R mc ms r M' cells slots tgt lc st M) : TW g y R mc ms r M' cells slots pc lc st M := by
  intro p e s m args below meth c X ad H locs ls hW hO hlo hL hs hl
  exact lv_goto X.1 X.2.1 hd ht (k p e s m args below meth c X ad H locs ls hW hO hlo hL hs hl)
theorem tm_ifnull {k2 : Nat} {q : Option Nat} {off : Int} {tgt : Nat} (hd : decode y.2.1 pc = .ok (.ifnull off, 3)) (ht : (pc : Int) + off = (tgt : Int)) (kt : q = none → TW g y R mc ms r M' cells slots tgt lc st M) (kf : ¬ q = none → TW g y R mc ms r M' cells slots (pc + 3) lc st M) : TW g y R mc ms r M' cells slots pc lc (tq k2 q :: st) M := by
  intro p e s m args below meth c X ad H locs ls hW hO hlo hL hs hl
  rcases q with _ | q
  · exact lv_ifnullN X.1 X.2.1 hd ht (kt rfl p e s m args below meth c X ad H locs ls hW hO hlo hL hs.2 hl)
  · exact lv_ifnull X.1 X.2.1 hd (kf (fun h => by cases h) p e s m args below meth c X ad H locs ls hW hO hlo hL hs.2 hl)
theorem tm_ifnonnull {k2 : Nat} {q : Option Nat} {off : Int} {tgt : Nat} (hd : decode y.2.1 pc = .ok (.ifnonnull off, 3)) (ht : (pc : Int) + off = (tgt : Int)) (kt : ¬ q = none → TW g y R mc ms r M' cells slots tgt lc st M) (kf : q = none → TW g y R mc ms r M' cells slots (pc + 3) lc st M) : TW g y R mc ms r M' cells slots pc lc (tq k2 q :: st) M := by
  intro p e s m args below meth c X ad H locs ls hW hO hlo hL hs hl
  rcases q with _ | q
  · exact lv_ifnonnullN X.1 X.2.1 hd (kf rfl p e s m args below meth c X ad H locs ls hW hO hlo hL hs.2 hl)
  · exact lv_ifnonnull X.1 X.2.1 hd ht (kt (fun h => by cases h) p e s m args below meth c X ad H locs ls hW hO hlo hL hs.2 hl)
theorem tm_tableOut {dflt lo hi : Int} {offs : Array Int} {len : Nat} {x : Int32} {tgt : Nat} (hd : decode y.2.1 pc = .ok (.tableswitch dflt lo hi offs, len)) (h : x.toInt < lo ∨ hi < x.toInt) (ht : (pc : Int) + dflt = (tgt : Int)) (k : TW g y R mc ms r M' cells slots tgt lc st M) : TW g y R mc ms r M' cells slots pc lc (ti x :: st) M := by
  intro p e s m args below meth c X ad H locs ls hW hO hlo hL hs hl
  exact lv_tableOut X.1 X.2.1 hd h ht (k p e s m args below meth c X ad H locs ls hW hO hlo hL hs.2 hl)
theorem tm_tableIn {dflt lo hi : Int} {offs : Array Int} {len : Nat} {x : Int32} {off : Int} {tgt : Nat} (hd : decode y.2.1 pc = .ok (.tableswitch dflt lo hi offs, len)) (h1 : ¬ x.toInt < lo) (h2 : ¬ hi < x.toInt) (ho : offs[(x.toInt - lo).toNat]? = some off) (ht : (pc : Int) + off = (tgt : Int)) (k : TW g y R mc ms r M' cells slots tgt lc st M) : TW g y R mc ms r M' cells slots pc lc (ti x :: st) M := by
  intro p e s m args below meth c X ad H locs ls hW hO hlo hL hs hl
  exact lv_tableIn X.1 X.2.1 hd h1 h2 ho ht (k p e s m args below meth c X ad H locs ls hW hO hlo hL hs.2 hl)
theorem tm_lookup {dflt : Int} {ps : Array (Int × Int)} {len : Nat} {x : Int32} {off : Int} {tgt : Nat} (hd : decode y.2.1 pc = .ok (.lookupswitch dflt ps, len)) (hp : (ps.toList.zip (ps.toList.drop 1)).all (fun (a, next) => a.1 < next.1) = true) (ho : Op.lookupswitch.offset ps.toList dflt x.toInt = off) (ht : (pc : Int) + off = (tgt : Int)) (k : TW g y R mc ms r M' cells slots tgt lc st M) : TW g y R mc ms r M' cells slots pc lc (ti x :: st) M := by
  intro p e s m args below meth c X ad H locs ls hW hO hlo hL hs hl
  exact lv_lookup X.1 X.2.1 hd hp ho ht (k p e s m args below meth c X ad H locs ls hW hO hlo hL hs.2 hl)
end TR
