/-- a contract of a method of a class some of whose methods are run by an entry instead (java.lang.Math): by the method's own name -/
theorem jmet_ofF {Y : jY} {y : MethodName} {cc : ByteArray} {nL : Nat} {ret : Option FieldType} {fr lw mc ms : Nat} {av : List jV} {n : Nat} {sh : jS} {rf : jR} {I : jI} {L : jL} {v : Option jV} {n' : Nat} {sh' : jS} {rf' : jR} {I' : jI} {L' : jL}
    {ρ : Type} (k : Option ρ) (r : ρ) (hk : k = some r) (Qf : jZ → ρ → State → Prop) (hQ : ∀ Z, Qf Z r = jQ Y Z mc ms v n' sh' rf' I' L') (hy : plainFor y = true) (hsl : jsl av ≤ nL)
    (hJ : ∀ Z, jOK Y Z y.cls cc nL y.name ret fr lw mc ms → J Y Z nL (Qf Z) k 0 (jargl 0 av) [] 0 0 n sh rf I L) : jMet Y y cc nL ret fr lw mc ms av n sh rf I L v n' sh' rf' I' L' := by
  unfold jMet Met
  refine MetFree.of_bodySF (code := cc) (maxLocals := nL) (ret := ret) hy ?_ ?_
  · intro args s m h hn
    obtain ⟨meth, c, h1, h2, h3, h4, h5, h6, -, -⟩ := Cond.code_spec hn (atoms_spec (ws := Cond.code y cc nL ret :: wsU) h _ List.mem_cons_self)
    exact ⟨meth, c, h1, h2, h3, h4, h5, h6⟩
  · intro p e s m args below meth c s₁ B hml hP _
    have hh0 : s₁.heap = s.heap := by rw [B.state]; rfl
    obtain ⟨rfl, hW, hK, hU, hb1, hz⟩ := hP
    have hts := atoms_spec (ws := Cond.code y cc nL ret :: wsU) B.pre
    have hown : s.vm.findClass y.cls = some m.cls := findClass_of_methodNamed B.named
    have h := hJ (p, e, (headSpec (Cond.code y cc nL ret :: wsU) { frames := fr, cells := mc, slots := ms, locals := lw }).room, s, m, (av.map (jval Y.b)).toArray, below, meth, c) ⟨B.exec, B.bytes, hml, hown, fun w hw => hts w (List.mem_cons_of_mem _ hw), B.returns, B.notSynchronized, (name_of_methodNamed B.named B.method).1, hK, hU, hb1, Nat.le_refl _, Nat.le_refl _, Nat.le_refl _, Nat.le_refl _⟩
    have hl := lv_entry (av.map (jval Y.b)) (n := nL) (by rw [jsl_len]; exact hsl)
    rw [jlo_args] at hl
    have h2 := h r hk _ s.heap [] hl ⟨hW, va_S.rf, hz⟩
    rw [hQ] at h2
    obtain ⟨t, a1, o, b1, b2, b3⟩ := h2 s₁ hh0 (Stand.of_body B)
    refine ⟨t, o, ?_, b1, b2, ⟨b3.1, b3.2⟩⟩
    rw [lg_entry_eq]
    exact a1
