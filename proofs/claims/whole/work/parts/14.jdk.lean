/-! methods of a class of the JDK that no entry of the machine runs instead -/
theorem Met.ofWF {l : Launch} {y : MethodName} {ws ws' : List Cond} {rm : Room} {Pc : Array Value → State → Prop} {Qc : Array Value → State → Outcome → State → Prop} {mc ms : Nat} {free : Addr → Prop} {cc : ByteArray} {maxL : Nat} {ret : Option FieldType}
    (hy : plainFor y = true) (hw : ws = Cond.code y cc maxL ret :: ws')
    (body : ∀ p e s m args below meth c s₁, BodyLoose p l y (headSpec ws rm) cc maxL ret e s m args below meth c s₁ → c.maxLocals = maxL → Pc args s →
      W p l e (headSpec ws rm).room s m args below meth c s.heap [] 0 0 (MQ below Qc args s mc ms free) (entryFrame m args maxL)) : Met l y ws rm Pc Qc mc ms free := by
  refine MetFree.of_bodySF (code := cc) (maxLocals := maxL) (ret := ret) hy ?_ ?_
  · intro args s m h hn
    obtain ⟨meth, c, h1, h2, h3, h4, h5, h6, -, -⟩ := Cond.code_spec hn (atoms_spec (ws := ws) h _ (by rw [hw]; exact List.mem_cons_self))
    exact ⟨meth, c, h1, h2, h3, h4, h5, h6⟩
  · intro p e s m args below meth c s₁ B hml hP _
    have hh0 : s₁.heap = s.heap := by rw [B.state]; rfl
    obtain ⟨t, a1, o, b1, b2, b3⟩ := body p e s m args below meth c s₁ B hml hP s₁ hh0 (Stand.of_body B)
    exact ⟨t, o, a1, b1, b2, ⟨b3.1, b3.2⟩⟩
theorem TMet.ofF {g : tG} {x : MethodName} {cc : ByteArray} {maxL : Nat} {ret : Option FieldType} {rm : Room} {avs : List tV} {M : tM} {r : Option tV} {M1 : tM} {mc ms : Nat} (hy : plainFor x = true) (hn : (avs.map tcat).sum ≤ maxL)
    (h : TW g (x.cls, cc, maxL, ret, x.name) rm mc ms r M1 0 0 0 (tent avs 0) [] M) : TMet g x (Cond.code x cc maxL ret :: tgd) rm avs M r M1 mc ms := by
  intro ad
  refine Met.ofWF (cc := cc) (maxL := maxL) (ret := ret) hy rfl ?_
  intro p e s m args below meth c s₁ B hml hv
  obtain ⟨rfl, hW, hO, hK, hL⟩ := hv
  have hts := atoms_spec (ws := Cond.code x cc maxL ret :: tgd) B.pre
  have hown : s.vm.findClass x.cls = some m.cls := findClass_of_methodNamed B.named
  have hlen : (lg_sl (avs.map (tC ad))).length ≤ maxL := by rw [tsl_len]; exact hn
  have hl := lv_entry (avs.map (tC ad)) (n := maxL) hlen
  rw [lg_entry_eq]
  rw [← tent_args ad avs 0] at hl
  exact h p e s m _ below meth c ⟨B.exec, B.bytes, hml, hown, fun w hw => hts w (List.mem_cons_of_mem _ hw), B.returns, B.notSynchronized, (name_of_methodNamed B.named B.method).1, hK⟩ ad s.heap [] _ hW hO (fun _ h => by cases h) (tLc_ent hL) trivial hl
theorem tz_t1 : plainFor yJ9_floorDiv_7cf53 = true := by decide +kernel
