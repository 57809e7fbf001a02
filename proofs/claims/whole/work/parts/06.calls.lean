section CALLROWS
variable {ρ : Type} {Y : jY} {Z : jZ} {nL : Nat} {Qf : ρ → State → Prop} {k : Option ρ} {pc : Nat} {lo lo' : List (Nat × jV)} {st rest : List jV} {cs ss n : Nat} {sh : jS} {rf : jR} {I : jI} {L : jL} {own nm : String} {cc : ByteArray} {ret : Option FieldType} {fr lw mcX msX : Nat}
/-! RETURNS -/
theorem J_iret {r0 : ρ} {v : Int32} (hX : jOK Y Z own cc nL nm (some .int) fr lw mcX msX) (hQ : Qf r0 = jQ Y Z cs ss (some (ji v)) n sh rf I L) (hd : decode cc pc = .ok (.ireturn, 1)) : J Y Z nL Qf (some r0) pc lo [ji v] cs ss n sh rf I L := by
  intro r hr ls H locs hl hW
  cases hr
  rw [hQ]
  exact W.iret hX.1 hX.2.1 hX.2.2.2.2.2.1 (fun t ht _ => ⟨rfl, by rw [ht]; exact hW.1, fun z => by rw [ht]; exact hW.2.2 z, hW.2.1.F ht⟩) hW.2.1.2.2 hd hX.2.2.2.2.2.2.1
theorem J_lret {r0 : ρ} {v : Int64} (hX : jOK Y Z own cc nL nm (some .long) fr lw mcX msX) (hQ : Qf r0 = jQ Y Z cs ss (some (jl v)) n sh rf I L) (hd : decode cc pc = .ok (.lreturn, 1)) : J Y Z nL Qf (some r0) pc lo [jl v] cs ss n sh rf I L := by
  intro r hr ls H locs hl hW
  cases hr
  rw [hQ]
  exact W.lret hX.1 hX.2.1 hX.2.2.2.2.2.1 (fun t ht _ => ⟨rfl, by rw [ht]; exact hW.1, fun z => by rw [ht]; exact hW.2.2 z, hW.2.1.F ht⟩) hW.2.1.2.2 hd hX.2.2.2.2.2.2.1
theorem jz_nar {v : Int32} (h : v = 0 ∨ v = 1) : narrow .boolean (.int v) = .int v := by rcases h with rfl | rfl <;> rfl
theorem J_zret {r0 : ρ} {v : Int32} (hX : jOK Y Z own cc nL nm (some .boolean) fr lw mcX msX) (hv : v = 0 ∨ v = 1) (hQ : Qf r0 = jQ Y Z cs ss (some (ji v)) n sh rf I L) (hd : decode cc pc = .ok (.ireturn, 1)) : J Y Z nL Qf (some r0) pc lo [ji v] cs ss n sh rf I L := by
  intro r hr ls H locs hl hW
  cases hr
  rw [hQ]
  exact W.zret hX.1 hX.2.1 hX.2.2.2.2.2.1 (jz_nar hv) (fun t ht _ => ⟨rfl, by rw [ht]; exact hW.1, fun z => by rw [ht]; exact hW.2.2 z, hW.2.1.F ht⟩) hW.2.1.2.2 hd hX.2.2.2.2.2.2.1
theorem J_zretG {r0 : ρ} {v : Int32} (hX : jOK Y Z own cc nL nm (some .boolean) fr lw mcX msX) (hQ : Qf r0 = jQ Y Z cs ss (some (ji v)) n sh rf I L) (hd : decode cc pc = .ok (.ireturn, 1)) : J Y Z nL Qf (if v = 0 ∨ v = 1 then some r0 else none) pc lo [ji v] cs ss n sh rf I L := by
  intro r hr
  by_cases h : v = 0 ∨ v = 1
  · rw [if_pos h] at hr; exact J_zret hX h hQ hd r hr
  · rw [if_neg h] at hr; cases hr
theorem J_vret {r0 : ρ} (hX : jOK Y Z own cc nL nm none fr lw mcX msX) (hQ : Qf r0 = jQ Y Z cs ss none n sh rf I L) (hd : decode cc pc = .ok (.return_, 1)) : J Y Z nL Qf (some r0) pc lo [] cs ss n sh rf I L := by
  intro r hr ls H locs hl hW
  cases hr
  rw [hQ]
  exact W.vret hX.1 hX.2.1 hX.2.2.2.2.2.1 (fun t ht _ => ⟨rfl, by rw [ht]; exact hW.1, fun z => by rw [ht]; exact hW.2.2 z, hW.2.1.F ht⟩) hW.2.1.2.2 hd hX.2.2.2.2.2.2.1
theorem J_aret {r0 : ρ} {v : Nat} {nn : String} (hX : jOK Y Z own cc nL nm (some (.object nn)) fr lw mcX msX) (hQ : Qf r0 = jQ Y Z cs ss (some (jr v)) n sh rf I L) (hd : decode cc pc = .ok (.areturn, 1)) : J Y Z nL Qf (some r0) pc lo [jr v] cs ss n sh rf I L := by
  intro r hr ls H locs hl hW
  cases hr
  rw [hQ]
  refine W.aret hX.1 hX.2.1 hX.2.2.2.2.2.1 (Or.inl ⟨nn, rfl⟩) ?_ (fun t ht _ => ⟨rfl, by rw [ht]; exact hW.1, fun z => by rw [ht]; exact hW.2.2 z, hW.2.1.F ht⟩) hW.2.1.2.2 hd hX.2.2.2.2.2.2.1
  show jref Y.b v = .null ∨ ∃ a, jref Y.b v = .ref a
  unfold jref
  split
  · exact Or.inl rfl
  · exact Or.inr ⟨_, rfl⟩
/-! CALLS -/
def jRunAt (Y : jY) (Z : jZ) (nL pc : Nat) (lo : List (Nat × jV)) (st rest : List jV) (cs ss n : Nat) (sh : jS) (rf : jR) (I : jI) (L : jL) (mc ms : Nat) (v : Option jV) (n' : Nat) (sh' : jS) (rf' : jR) (I' : jI) (L' : jL) : Prop :=
  ∀ (ls : Array Slot) (H : Heap) (locs : List Loc), lv_has ls nL (jlo Y.b lo) → jWz Y Z locs n sh rf I L H → ∃ a, va_Run Z.p Y.l Z.e Z.R Z.s Z.m Z.a Z.w Z.meth Z.c H locs cs ss mc ms (F0 Z.m pc ls (st.map (jval Y.b))) (rest.map (jval Y.b)) (jQc Y v n' sh' rf' I' L' a) (jA Y.b)
theorem jrun_go {mc ms n' : Nat} {v : Option jV} {sh' : jS} {rf' : jR} {I' : jI} {L' : jL} (hr : jRunAt Y Z nL pc lo st rest cs ss n sh rf I L mc ms v n' sh' rf' I' L')
    (kk : J Y Z nL Qf k (pc + 3) lo (v.toList ++ rest) (cs + mc) (ss + ms) n' sh' rf' I' L') : J Y Z nL Qf k pc lo st cs ss n sh rf I L := by
  intro r hr1 ls H locs hl hW
  obtain ⟨a, hrun⟩ := hr ls H locs hl hW
  intro T hT X
  obtain ⟨v2, st₀, t, T', L2, h0, X', hL, e1, e2, ⟨hv, hW1, hz1, hF1, hF2⟩, stp⟩ := hrun T hT X
  have hv2 : v2 = v.map (jval Y.b) := Outcome.returned.inj hv
  subst hv2
  rw [h0] at hF1 hF2
  have hS := hW.2.1
  obtain ⟨t2, a1, b1⟩ := kk r hr1 ls T'.heap (locs ++ L2) hl ⟨by rw [e1]; exact hW1, ⟨Nat.le_trans hS.1 (by rw [e1]; exact hF1), fun q h1 h2 => by rw [e1, hF2 q (Nat.lt_of_lt_of_le h1 hS.1) h2]; exact hS.2.1 q h1 h2, fun q hq => by
      rcases List.mem_append.mp hq with h | h
      · exact hS.2.2 q h
      · exact hL q h⟩, fun z => by rw [e1]; exact hz1 z⟩ T' rfl X'
  refine ⟨t2, stp t2 ?_, b1⟩
  have e3 : (v.toList ++ rest).map (jval Y.b) = (v.map (jval Y.b)).toList ++ rest.map (jval Y.b) := by cases v <;> simp
  rw [e3] at a1
  exact a1
theorem J_call1 {α : Type} {o : Option α} {body : α → Option ρ} (kk : ∀ x, o = some x → J Y Z nL Qf (body x) pc lo st cs ss n sh rf I L) : J Y Z nL Qf (o.bind body) pc lo st cs ss n sh rf I L := by
  intro r hr
  cases ho : o with
  | none => rw [ho] at hr; cases hr
  | some x => rw [ho] at hr; exact kk x ho r hr
theorem J_call2 {α β : Type} {o : Option (α × β)} {body : α → β → Option ρ} (kk : ∀ x y, o = some (x, y) → J Y Z nL Qf (body x y) pc lo st cs ss n sh rf I L) : J Y Z nL Qf (jb2 o body) pc lo st cs ss n sh rf I L := J_call1 (fun x hx => kk x.1 x.2 hx)
theorem J_call3 {α β γ : Type} {o : Option (α × β × γ)} {body : α → β → γ → Option ρ} (kk : ∀ x y z, o = some (x, y, z) → J Y Z nL Qf (body x y z) pc lo st cs ss n sh rf I L) : J Y Z nL Qf (jb3 o body) pc lo st cs ss n sh rf I L := J_call1 (fun x hx => kk x.1 x.2.1 x.2.2 hx)
theorem jcls_ok {own C : String} {idx nA nL2 : Nat} {y : MethodName} {cc2 : ByteArray} {ret2 : Option FieldType} (h : Cond.methodLink own idx y ∈ wsU ∧ Cond.instanceMethod y ∈ wsU ∧ Cond.selects C y y ∈ wsU ∧ Cond.initialized C ∈ wsU ∧ Cond.code y cc2 nL2 ret2 ∈ wsU) : GoodIn wsU (wsV own idx C y (Cond.code y cc2 nL2 ret2 :: wsU)) := by
  intro w hw
  unfold wsV at hw
  rcases List.mem_append.mp hw with h1 | h1
  · have : w ∈ wsU := by
      simp only [List.mem_cons, List.not_mem_nil, or_false] at h1
      rcases h1 with rfl | rfl | rfl | rfl
      · exact h.1
      · exact h.2.1
      · exact h.2.2.1
      · exact h.2.2.2.1
    exact wsU_good w this
  · rcases List.mem_cons.mp h1 with rfl | h1
    · exact wsU_good _ h.2.2.2.2
    · exact wsU_good w h1
def jSiteV (own : String) (idx : Nat) (C : String) (y : MethodName) (cc2 : ByteArray) (nL2 : Nat) (ret2 : Option FieldType) (nA : Nat) : Prop :=
  (Cond.methodLink own idx y ∈ wsU ∧ Cond.instanceMethod y ∈ wsU ∧ Cond.selects C y y ∈ wsU ∧ Cond.initialized C ∈ wsU ∧ Cond.code y cc2 nL2 ret2 ∈ wsU) ∧ y.cls = C ∧ y.cls ≠ "java/lang/invoke/MethodHandle" ∧ y.cls ≠ "java/lang/invoke/VarHandle" ∧ (parseMethodDescriptor y.desc).map (fun d => d.parameters.length) = some nA
def jSiteS (own : String) (idx : Nat) (y : MethodName) (cc2 : ByteArray) (nL2 : Nat) (ret2 : Option FieldType) (nA : Nat) : Prop :=
  (Cond.methodLink own idx y ∈ wsU ∧ Cond.static y ∈ wsU ∧ Cond.initialized y.cls ∈ wsU ∧ Cond.code y cc2 nL2 ret2 ∈ wsU) ∧ y.cls ≠ "java/lang/invoke/MethodHandle" ∧ y.cls ≠ "java/lang/invoke/VarHandle" ∧ (parseMethodDescriptor y.desc).map (fun d => d.parameters.length) = some nA
def jSiteSN (own : String) (idx : Nat) (y : MethodName) (host : String) (cc2 : ByteArray) (nL2 : Nat) (ret2 : Option FieldType) (nA : Nat) : Prop :=
  (Cond.methodLinkNest own idx y host ∈ jNest ∧ Cond.static y ∈ wsU ∧ Cond.initialized y.cls ∈ wsU ∧ Cond.code y cc2 nL2 ret2 ∈ wsU) ∧ y.cls ≠ "java/lang/invoke/MethodHandle" ∧ y.cls ≠ "java/lang/invoke/VarHandle" ∧ (parseMethodDescriptor y.desc).map (fun d => d.parameters.length) = some nA
def jSiteI (own : String) (idx : Nat) (y : MethodName) (cc2 : ByteArray) (nL2 : Nat) (nA : Nat) : Prop :=
  (Cond.methodLink own idx y ∈ wsU ∧ Cond.instanceMethod y ∈ wsU ∧ Cond.initialized y.cls ∈ wsU ∧ Cond.code y cc2 nL2 none ∈ wsU) ∧ y.name = "<init>" ∧ y.cls ≠ "java/lang/invoke/MethodHandle" ∧ y.cls ≠ "java/lang/invoke/VarHandle" ∧ (parseMethodDescriptor y.desc).map (fun d => d.parameters.length) = some nA
def jSiteIN (own : String) (idx : Nat) (y : MethodName) (host : String) (cc2 : ByteArray) (nL2 : Nat) (nA : Nat) : Prop :=
  (Cond.methodLinkNest own idx y host ∈ jNest ∧ Cond.instanceMethod y ∈ wsU ∧ Cond.initialized y.cls ∈ wsU ∧ Cond.code y cc2 nL2 none ∈ wsU) ∧ y.name = "<init>" ∧ y.cls ≠ "java/lang/invoke/MethodHandle" ∧ y.cls ≠ "java/lang/invoke/VarHandle" ∧ (parseMethodDescriptor y.desc).map (fun d => d.parameters.length) = some nA
theorem wsU_code {y : MethodName} {cc2 : ByteArray} {nL2 : Nat} {ret2 : Option FieldType} (h : Cond.code y cc2 nL2 ret2 ∈ wsU) : GoodIn wsU (Cond.code y cc2 nL2 ret2 :: wsU) := by
  intro w hw
  rcases List.mem_cons.mp hw with rfl | h1
  · exact wsU_good _ h
  · exact wsU_good w h1
theorem jpre {av : List jV} {H : Heap} {locs : List Loc} (hX : jOK Y Z own cc nL nm ret fr lw mcX msX) (hW : jWz Y Z locs n sh rf I L H) : ∀ U : State, U.heap = H → Z.s.WarmedH U.vm → jPc Y av n sh rf I L (av.map (jval Y.b)).toArray U := by
  obtain ⟨-, -, -, -, -, -, -, -, hK, hU, hb1, -⟩ := hX
  intro U hU1 hWm
  refine ⟨rfl, by rw [hU1]; exact hW.1, va_K.moved hWm.alike hK, hU.warm hWm (fun a h1 h2 => by rw [hU1]; exact hW.2.1.2.1 a h1 h2), by rw [hU1]; exact Nat.le_trans hb1 hW.2.1.1, fun z => by rw [hU1]; exact hW.2.2 z⟩
theorem jrest (hcat : (rest.map jcat).sum ≤ 8) {g : List Value} {ls : Array Slot} {m : MethodId} : 2 * (F0 m pc ls g).monitorRoom + ((rest.map (jval Y.b)).map fun v => v.category).sum ≤ 8 := lv_room (by rw [jcat_sum]; exact hcat)
theorem jRunV {idx nA nL2 fr2 lw2 mc ms ci r n' : Nat} {C : String} {T : u_T} {N : Nat} {y : MethodName} {cc2 : ByteArray} {ret2 : Option FieldType} {As : List jV} {v : Option jV} {sh' : jS} {rf' : jR} {I' : jI} {L' : jL} (hX : jOK Y Z own cc nL nm ret fr lw mcX msX) (hsite : jSiteV own idx C y cc2 nL2 ret2 nA) (hc : vwCl[ci]? = some (C, T, N)) (hci : ci + 1 < 1000)
    (hM : jMet Y y cc2 nL2 ret2 fr2 lw2 mc ms (jr r :: As) n sh rf I L v n' sh' rf' I' L') (hs : sh r = ci + 1) (hst : st = As.reverse ++ jr r :: rest) (hn : As.length = nA) (hroom : fr2 + 1 ≤ fr ∧ 8 + (nL2 + 11) + lw2 ≤ lw) (hcel : cs + mc ≤ mcX ∧ ss + ms ≤ msX) (hcat : (rest.map jcat).sum ≤ 8) (hd : decode cc pc = .ok (.invokevirtual idx, 3)) :
    jRunAt Y Z nL pc lo st rest cs ss n sh rf I L mc ms v n' sh' rf' I' L' := by
  intro ls H locs hl hW
  have hX0 := hX
  obtain ⟨hx, hb, hml, hown, hts, -, -, -, hK, hU, hb1, hfr, hlw, hmc, hms⟩ := hX
  have e : jref Y.b r = .ref (Y.b + r) := jref_nz _ (hW.1.pos hs (by omega))
  have hA : (jval Y.b (jr r) :: As.map (jval Y.b)) = (Value.ref (Y.b + r) :: As.map (jval Y.b)) := by rw [← e]; rfl
  have cw := cwV (R := Z.R) (s := Z.s) (args := Z.a) (rm := { frames := fr2, cells := mc, slots := ms, locals := lw2 }) (mc := mc) (ms := ms) nA hts (jcls_ok (nA := nA) hsite.1) rfl rfl rfl hsite.2 ⟨Nat.le_trans hroom.1 hfr, Nat.le_trans hroom.2 hlw⟩
  refine ⟨_, va_runV (b := Y.b + r) (As := As.map (jval Y.b)) (nL := nL) (C := C) ⟨hx, hb, hml, hown, hts⟩ hM cw ⟨jPc_blind _ _ _ _ _ _ _, va_recv hK hW.1.P hc (hW.1.obj hs hci), fun U h1 h2 => ?_⟩ rfl (by rw [List.length_map]; exact hn) hl.1 ?_ (jrest hcat) hd ⟨Nat.le_trans hcel.1 hmc, Nat.le_trans hcel.2 hms⟩⟩
  · have := jpre hX0 hW (av := jr r :: As) U h1 h2
    rw [List.map_cons, hA] at this
    exact this
  · subst hst
    show (As.reverse ++ jr r :: rest).map (jval Y.b) = _
    rw [List.map_append, List.map_cons, List.map_reverse, ← e]
    rfl
theorem jRunS {idx nA nL2 fr2 lw2 mc ms n' : Nat} {y : MethodName} {cc2 : ByteArray} {ret2 : Option FieldType} {As : List jV} {v : Option jV} {sh' : jS} {rf' : jR} {I' : jI} {L' : jL} (hX : jOK Y Z own cc nL nm ret fr lw mcX msX) (hsite : jSiteS own idx y cc2 nL2 ret2 nA)
    (hM : jMet Y y cc2 nL2 ret2 fr2 lw2 mc ms As n sh rf I L v n' sh' rf' I' L') (hst : st = As.reverse ++ rest) (hn : As.length = nA) (hroom : fr2 + 1 ≤ fr ∧ 8 + (nL2 + 11) + lw2 ≤ lw) (hcel : cs + mc ≤ mcX ∧ ss + ms ≤ msX) (hcat : (rest.map jcat).sum ≤ 8) (hd : decode cc pc = .ok (.invokestatic idx, 3)) :
    jRunAt Y Z nL pc lo st rest cs ss n sh rf I L mc ms v n' sh' rf' I' L' := by
  intro ls H locs hl hW
  have hX0 := hX
  obtain ⟨hx, hb, hml, hown, hts, -, -, -, hK, hU, hb1, hfr, hlw, hmc, hms⟩ := hX
  have hG : GoodIn wsU (va_wsS own idx y (Cond.code y cc2 nL2 ret2 :: wsU)) := by
    intro w hw
    unfold va_wsS at hw
    rcases List.mem_append.mp hw with h1 | h1
    · have : w ∈ wsU := by
        simp only [List.mem_cons, List.not_mem_nil, or_false] at h1
        rcases h1 with rfl | rfl | rfl
        · exact hsite.1.1
        · exact hsite.1.2.1
        · exact hsite.1.2.2.1
      exact wsU_good w this
    · exact wsU_code hsite.1.2.2.2 w h1
  have cw := va_cwS (R := Z.R) (s := Z.s) (args := Z.a) (rm := { frames := fr2, cells := mc, slots := ms, locals := lw2 }) (mc := mc) (ms := ms) nA hts hG rfl rfl rfl hsite.2 ⟨Nat.le_trans hroom.1 hfr, Nat.le_trans hroom.2 hlw⟩
  refine ⟨_, va_runS (As := As.map (jval Y.b)) (nL := nL) ⟨hx, hb, hml, hown, hts⟩ hM cw ⟨jPc_blind _ _ _ _ _ _ _, fun U h1 h2 => jpre hX0 hW (av := As) U h1 h2⟩ rfl (by rw [List.length_map]; exact hn) hl.1 ?_ (jrest hcat) hd ⟨Nat.le_trans hcel.1 hmc, Nat.le_trans hcel.2 hms⟩⟩
  subst hst
  show (As.reverse ++ rest).map (jval Y.b) = _
  rw [List.map_append, List.map_reverse]
theorem jRunSN {idx nA nL2 fr2 lw2 mc ms n' : Nat} {y : MethodName} {host : String} {cc2 : ByteArray} {ret2 : Option FieldType} {As : List jV} {v : Option jV} {sh' : jS} {rf' : jR} {I' : jI} {L' : jL} (hX : jOK Y Z own cc nL nm ret fr lw mcX msX) (hsite : jSiteSN own idx y host cc2 nL2 ret2 nA)
    (hM : jMet Y y cc2 nL2 ret2 fr2 lw2 mc ms As n sh rf I L v n' sh' rf' I' L') (hst : st = As.reverse ++ rest) (hn : As.length = nA) (hroom : fr2 + 1 ≤ fr ∧ 8 + (nL2 + 11) + lw2 ≤ lw) (hcel : cs + mc ≤ mcX ∧ ss + ms ≤ msX) (hcat : (rest.map jcat).sum ≤ 8) (hd : decode cc pc = .ok (.invokestatic idx, 3)) :
    jRunAt Y Z nL pc lo st rest cs ss n sh rf I L mc ms v n' sh' rf' I' L' := by
  intro ls H locs hl hW
  have hX0 := hX
  obtain ⟨hx, hb, hml, hown, hts, -, -, -, hK, hU, hb1, hfr, hlw, hmc, hms⟩ := hX
  have cw := va_cnB (R := Z.R) (s := Z.s) (args := Z.a) (rm := { frames := fr2, cells := mc, slots := ms, locals := lw2 }) (mc := mc) (ms := ms) nA hts (wsU_code hsite.1.2.2.2) rfl rfl rfl (hU.1 _ hsite.1.1) (hts _ hsite.1.2.2.1) hsite.2 ⟨Nat.le_trans hroom.1 hfr, Nat.le_trans hroom.2 hlw⟩
  refine ⟨_, va_runSN (As := As.map (jval Y.b)) (nL := nL) ⟨hx, hb, hml, hown, hts⟩ hM ⟨cw, hts _ hsite.1.2.1, trivial⟩ ⟨jPc_blind _ _ _ _ _ _ _, fun U h1 h2 => jpre hX0 hW (av := As) U h1 h2⟩ rfl (by rw [List.length_map]; exact hn) hl.1 ?_ (jrest hcat) hd ⟨Nat.le_trans hcel.1 hmc, Nat.le_trans hcel.2 hms⟩⟩
  subst hst
  show (As.reverse ++ rest).map (jval Y.b) = _
  rw [List.map_append, List.map_reverse]
theorem jRunI {idx nA nL2 fr2 lw2 mc ms r n' : Nat} {y : MethodName} {cc2 : ByteArray} {As : List jV} {v : Option jV} {sh' : jS} {rf' : jR} {I' : jI} {L' : jL} (hX : jOK Y Z own cc nL nm ret fr lw mcX msX) (hsite : jSiteI own idx y cc2 nL2 nA)
    (hM : jMet Y y cc2 nL2 none fr2 lw2 mc ms (jr r :: As) n sh rf I L v n' sh' rf' I' L') (hs : sh r ≠ 0) (hst : st = As.reverse ++ jr r :: rest) (hn : As.length = nA) (hroom : fr2 + 1 ≤ fr ∧ 8 + (nL2 + 11) + lw2 ≤ lw) (hcel : cs + mc ≤ mcX ∧ ss + ms ≤ msX) (hcat : (rest.map jcat).sum ≤ 8) (hd : decode cc pc = .ok (.invokespecial idx, 3)) :
    jRunAt Y Z nL pc lo st rest cs ss n sh rf I L mc ms v n' sh' rf' I' L' := by
  intro ls H locs hl hW
  have hX0 := hX
  obtain ⟨hx, hb, hml, hown, hts, -, -, -, hK, hU, hb1, hfr, hlw, hmc, hms⟩ := hX
  have e : jref Y.b r = .ref (Y.b + r) := jref_nz _ (hW.1.pos rfl hs)
  have hA : (jval Y.b (jr r) :: As.map (jval Y.b)) = (Value.ref (Y.b + r) :: As.map (jval Y.b)) := by rw [← e]; rfl
  have cw := cwI (R := Z.R) (s := Z.s) (args := Z.a) (rm := { frames := fr2, cells := mc, slots := ms, locals := lw2 }) (mc := mc) (ms := ms) nA hts (wsU_code hsite.1.2.2.2) rfl rfl rfl (hts _ hsite.1.2.2.1) (hts _ hsite.1.1) (hts _ hsite.1.2.1) hsite.2.1 hsite.2.2 ⟨Nat.le_trans hroom.1 hfr, Nat.le_trans hroom.2 hlw⟩
  refine ⟨_, va_runI (b := Y.b + r) (As := As.map (jval Y.b)) (nL := nL) ⟨hx, hb, hml, hown, hts⟩ hM cw ⟨jPc_blind _ _ _ _ _ _ _, fun U h1 h2 => ?_⟩ rfl (by rw [List.length_map]; exact hn) hl.1 ?_ (jrest hcat) hd ⟨Nat.le_trans hcel.1 hmc, Nat.le_trans hcel.2 hms⟩⟩
  · have := jpre hX0 hW (av := jr r :: As) U h1 h2
    rw [List.map_cons, hA] at this
    exact this
  · subst hst
    show (As.reverse ++ jr r :: rest).map (jval Y.b) = _
    rw [List.map_append, List.map_cons, List.map_reverse, ← e]
    rfl
theorem jRunIN {idx nA nL2 fr2 lw2 mc ms r n' : Nat} {y : MethodName} {host : String} {cc2 : ByteArray} {As : List jV} {v : Option jV} {sh' : jS} {rf' : jR} {I' : jI} {L' : jL} (hX : jOK Y Z own cc nL nm ret fr lw mcX msX) (hsite : jSiteIN own idx y host cc2 nL2 nA)
    (hM : jMet Y y cc2 nL2 none fr2 lw2 mc ms (jr r :: As) n sh rf I L v n' sh' rf' I' L') (hs : sh r ≠ 0) (hst : st = As.reverse ++ jr r :: rest) (hn : As.length = nA) (hroom : fr2 + 1 ≤ fr ∧ 8 + (nL2 + 11) + lw2 ≤ lw) (hcel : cs + mc ≤ mcX ∧ ss + ms ≤ msX) (hcat : (rest.map jcat).sum ≤ 8) (hd : decode cc pc = .ok (.invokespecial idx, 3)) :
    jRunAt Y Z nL pc lo st rest cs ss n sh rf I L mc ms v n' sh' rf' I' L' := by
  intro ls H locs hl hW
  have hX0 := hX
  obtain ⟨hx, hb, hml, hown, hts, -, -, -, hK, hU, hb1, hfr, hlw, hmc, hms⟩ := hX
  have e : jref Y.b r = .ref (Y.b + r) := jref_nz _ (hW.1.pos rfl hs)
  have hA : (jval Y.b (jr r) :: As.map (jval Y.b)) = (Value.ref (Y.b + r) :: As.map (jval Y.b)) := by rw [← e]; rfl
  have cw := va_cnB (R := Z.R) (s := Z.s) (args := Z.a) (rm := { frames := fr2, cells := mc, slots := ms, locals := lw2 }) (mc := mc) (ms := ms) nA hts (wsU_code hsite.1.2.2.2) rfl rfl rfl (hU.1 _ hsite.1.1) (hts _ hsite.1.2.2.1) hsite.2.2 ⟨Nat.le_trans hroom.1 hfr, Nat.le_trans hroom.2 hlw⟩
  refine ⟨_, va_runIN (b := Y.b + r) (As := As.map (jval Y.b)) (nL := nL) ⟨hx, hb, hml, hown, hts⟩ hM ⟨cw, hsite.2.1, hts _ hsite.1.2.1⟩ ⟨jPc_blind _ _ _ _ _ _ _, fun U h1 h2 => ?_⟩ rfl (by rw [List.length_map]; exact hn) hl.1 ?_ (jrest hcat) hd ⟨Nat.le_trans hcel.1 hmc, Nat.le_trans hcel.2 hms⟩⟩
  · have := jpre hX0 hW (av := jr r :: As) U h1 h2
    rw [List.map_cons, hA] at this
    exact this
  · subst hst
    show (As.reverse ++ jr r :: rest).map (jval Y.b) = _
    rw [List.map_append, List.map_cons, List.map_reverse, ← e]
    rfl
/-! THE JDK's: Math.max, Math.min, System.arraycopy -/
def jmax (x y : Int32) : Int32 := if x < y then y else x
def jmin (x y : Int32) : Int32 := if y < x then y else x
theorem J_mmax {idx : Nat} {x y : Int32} (hX : jOK Y Z own cc nL nm ret fr lw mcX msX) (hw : Cond.methodLink own idx Lib.Math.max.name ∈ wsU ∧ Cond.static Lib.Math.max.name ∈ wsU ∧ Cond.initialized "java/lang/Math" ∈ wsU ∧ Cond.code Lib.Math.max.name Lib.Math.max.code 2 (some .int) ∈ wsU) (hroom : 1 ≤ fr ∧ 21 ≤ lw) (hcel : cs ≤ mcX ∧ ss ≤ msX) (hcat : (rest.map jcat).sum ≤ 8) (hd : decode cc pc = .ok (.invokestatic idx, 3))
    (kk : J Y Z nL Qf k (pc + 3) lo (ji (jmax x y) :: rest) cs ss n sh rf I L) : J Y Z nL Qf k pc lo (ji y :: ji x :: rest) cs ss n sh rf I L := by
  intro r hr ls H locs hl hW
  have h := kk r hr ls H locs hl hW
  obtain ⟨hx, hb, hml, hown, hts, -, -, -, hK, hU, hb1, hfr, hlw, hmc, hms⟩ := hX
  exact va_mmax hx hb (hml.trans hl.1.symm) hown (hts _ hw.1) (hts _ hw.2.1) (hts _ hw.2.2.1) (hts _ hw.2.2.2) (Nat.le_trans hroom.1 hfr) (by rw [jcat_sum]; omega) (Nat.le_trans hcel.1 hmc) (Nat.le_trans hcel.2 hms) hd h
theorem J_mmin {idx : Nat} {x y : Int32} (hX : jOK Y Z own cc nL nm ret fr lw mcX msX) (hw : Cond.methodLink own idx Lib.Math.min.name ∈ wsU ∧ Cond.static Lib.Math.min.name ∈ wsU ∧ Cond.initialized "java/lang/Math" ∈ wsU ∧ Cond.code Lib.Math.min.name Lib.Math.min.code 2 (some .int) ∈ wsU) (hroom : 1 ≤ fr ∧ 21 ≤ lw) (hcel : cs ≤ mcX ∧ ss ≤ msX) (hcat : (rest.map jcat).sum ≤ 8) (hd : decode cc pc = .ok (.invokestatic idx, 3))
    (kk : J Y Z nL Qf k (pc + 3) lo (ji (jmin x y) :: rest) cs ss n sh rf I L) : J Y Z nL Qf k pc lo (ji y :: ji x :: rest) cs ss n sh rf I L := by
  intro r hr ls H locs hl hW
  have h := kk r hr ls H locs hl hW
  obtain ⟨hx, hb, hml, hown, hts, -, -, -, hK, hU, hb1, hfr, hlw, hmc, hms⟩ := hX
  exact va_mmin hx hb (hml.trans hl.1.symm) hown (hts _ hw.1) (hts _ hw.2.1) (hts _ hw.2.2.1) (hts _ hw.2.2.2) (Nat.le_trans hroom.1 hfr) (by rw [jcat_sum]; omega) (Nat.le_trans hcel.1 hmc) (Nat.le_trans hcel.2 hms) hd h
abbrev jcp (sp dp m : Int32) (n0 n1 : Nat) : Prop := ¬ sp < 0 ∧ ¬ dp < 0 ∧ ¬ m < 0 ∧ sp.toNatClampNeg + m.toNatClampNeg ≤ n0 ∧ dp.toNatClampNeg + m.toNatClampNeg ≤ n1
theorem jrow_rfI (f : jI) (r : Nat) : jrow f r (f r) = f := by
  funext a
  unfold jrow
  split
  · next h => rw [h]
  · rfl
theorem J_copyi {idx r0 r1 c0 c1 n0 n1 : Nat} {sp dp m : Int32} {f : jI → Option ρ} (hX : jOK Y Z own cc nL nm ret fr lw mcX msX) (hz0 : Y.zf = false) (hw : Cond.methodLink own idx arraycopyName ∈ wsU ∧ Cond.native arraycopyName ∈ wsU ∧ Cond.static arraycopyName ∈ wsU ∧ Cond.initialized "java/lang/System" ∈ wsU) (h0 : sh r0 = c0 ∧ c0 / 1000 = 1 ∧ c0 % 1000 = n0) (h1 : sh r1 = c1 ∧ c1 / 1000 = 1 ∧ c1 % 1000 = n1) (hroom : 1 ≤ fr ∧ 8 + (nativeFrameWords "java/lang/System" "arraycopy" 5 + 11) ≤ lw) (hcat : (rest.map jcat).sum ≤ 8) (hd : decode cc pc = .ok (.invokestatic idx, 3))
    (kk : jcp sp dp m n0 n1 → ∀ I1, J Y Z nL Qf (f I1) (pc + 3) lo rest cs ss n sh rf I1 L) : J Y Z nL Qf (if jcp sp dp m n0 n1 then jlet (jrow I r1 (va_cpy (I r0) (I r1) sp.toNatClampNeg dp.toNatClampNeg m.toNatClampNeg)) f else none) pc lo (ji m :: ji dp :: jr r1 :: ji sp :: jr r0 :: rest) cs ss n sh rf I L := by
  intro r hr ls H locs hl hW
  by_cases hg : jcp sp dp m n0 n1
  · rw [if_pos hg] at hr
    have h := fun I1 => kk hg I1
    obtain ⟨hx, hb, hml, hown, hts, -, -, -, hK, hU, hb1, hfr, hlw, hmc, hms⟩ := hX
    have q0 := hW.1.arrI h0.1 h0.2
    have q1 := hW.1.arrI h1.1 h1.2
    show W Z.p Y.l Z.e Z.R Z.s Z.m Z.a Z.w Z.meth Z.c H locs cs ss (Qf r) (F0 Z.m pc ls (.int m :: .int dp :: jref Y.b r1 :: .int sp :: jref Y.b r0 :: rest.map (jval Y.b)))
    rw [jref_nz _ (hW.1.pos h0.1 (by omega)), jref_nz _ (hW.1.pos h1.1 (by omega))]
    refine va_copyi (D := Y.D) (cl := vwCl) (tys := jtys Y.tc) (A := jA Y.b) (H0 := Z.s.heap) hx hb (hml.trans hl.1.symm) hown (hts _ hw.1) (hts _ hw.2.1) (hts _ hw.2.2.1) (hts _ hw.2.2.2) hK hW.1.P jws_D hW.2.1 (r0 - 1) (r1 - 1) 0 0 q0 q1 rfl rfl rfl hg.1 hg.2.1 hg.2.2.1 hg.2.2.2.1 hg.2.2.2.2 (fun _ _ => rfl) (Nat.le_trans hroom.1 hfr) (by rw [jcat_sum]; omega) hd (fun H1 locs1 hP hD hS => ?_)
    refine h _ r hr ls H1 locs1 hl ⟨?_, hS, fun z => by rw [hz0] at z; cases z⟩
    refine hW.1.ofSet (r := r1) (by omega) ?_ (fun a ha => ⟨rfl, jrow_ne _ _ ha, rfl⟩)
    rw [h1.1, jcell_i h1.2.1, h1.2.2, jrow_self]
    exact hP
  · rw [if_neg hg] at hr; cases hr
theorem J_copyl {idx r0 r1 c0 c1 n0 n1 : Nat} {sp dp m : Int32} {f : jL → Option ρ} (hX : jOK Y Z own cc nL nm ret fr lw mcX msX) (hz0 : Y.zf = false) (hw : Cond.methodLink own idx arraycopyName ∈ wsU ∧ Cond.native arraycopyName ∈ wsU ∧ Cond.static arraycopyName ∈ wsU ∧ Cond.initialized "java/lang/System" ∈ wsU) (h0 : sh r0 = c0 ∧ c0 / 1000 = 3 ∧ c0 % 1000 = n0) (h1 : sh r1 = c1 ∧ c1 / 1000 = 3 ∧ c1 % 1000 = n1) (hroom : 1 ≤ fr ∧ 8 + (nativeFrameWords "java/lang/System" "arraycopy" 5 + 11) ≤ lw) (hcat : (rest.map jcat).sum ≤ 8) (hd : decode cc pc = .ok (.invokestatic idx, 3))
    (kk : jcp sp dp m n0 n1 → ∀ L1, J Y Z nL Qf (f L1) (pc + 3) lo rest cs ss n sh rf I L1) : J Y Z nL Qf (if jcp sp dp m n0 n1 then jlet (jrow L r1 (va_cpy (L r0) (L r1) sp.toNatClampNeg dp.toNatClampNeg m.toNatClampNeg)) f else none) pc lo (ji m :: ji dp :: jr r1 :: ji sp :: jr r0 :: rest) cs ss n sh rf I L := by
  intro r hr ls H locs hl hW
  by_cases hg : jcp sp dp m n0 n1
  · rw [if_pos hg] at hr
    have h := fun L1 => kk hg L1
    obtain ⟨hx, hb, hml, hown, hts, -, -, -, hK, hU, hb1, hfr, hlw, hmc, hms⟩ := hX
    have q0 := hW.1.arrL h0.1 h0.2
    have q1 := hW.1.arrL h1.1 h1.2
    show W Z.p Y.l Z.e Z.R Z.s Z.m Z.a Z.w Z.meth Z.c H locs cs ss (Qf r) (F0 Z.m pc ls (.int m :: .int dp :: jref Y.b r1 :: .int sp :: jref Y.b r0 :: rest.map (jval Y.b)))
    rw [jref_nz _ (hW.1.pos h0.1 (by omega)), jref_nz _ (hW.1.pos h1.1 (by omega))]
    refine va_copyl (D := Y.D) (cl := vwCl) (tys := jtys Y.tc) (A := jA Y.b) (H0 := Z.s.heap) hx hb (hml.trans hl.1.symm) hown (hts _ hw.1) (hts _ hw.2.1) (hts _ hw.2.2.1) (hts _ hw.2.2.2) hK hW.1.P jws_D hW.2.1 (r0 - 1) (r1 - 1) 2 2 q0 q1 rfl rfl rfl hg.1 hg.2.1 hg.2.2.1 hg.2.2.2.1 hg.2.2.2.2 (fun _ _ => rfl) (Nat.le_trans hroom.1 hfr) (by rw [jcat_sum]; omega) hd (fun H1 locs1 hP hD hS => ?_)
    refine h _ r hr ls H1 locs1 hl ⟨?_, hS, fun z => by rw [hz0] at z; cases z⟩
    refine hW.1.ofSet (r := r1) (by omega) ?_ (fun a ha => ⟨rfl, rfl, jrow_ne _ _ ha⟩)
    rw [h1.1, jcell_l h1.2.1, h1.2.2, jrow_self]
    exact hP
  · rw [if_neg hg] at hr; cases hr
/-! THE STATIC TABLE of kinds -/
def jUnder (i : Int32) : Int32 := ([-1, 0, 0, 1, 1, 4, 4, 2, 2] : List Int32).getD i.toNatClampNeg 0
theorem J_gets {idx : Nat} (hX : jOK Y Z own cc nL nm ret fr lw mcX msX) (hw : Cond.fieldLink own idx RX6 "UNDER" "[I" ∈ wsU) (hd : decode cc pc = .ok (.getstatic idx, 3)) (kk : J Y Z nL Qf k (pc + 3) lo (je Y.ut :: rest) cs ss n sh rf I L) : J Y Z nL Qf k pc lo rest cs ss n sh rf I L := by
  intro r hr ls H locs hl hW
  have h := kk r hr ls H locs hl hW
  obtain ⟨hx, hb, hml, hown, hts, -, -, -, hK, hU, -⟩ := hX
  exact va_gets hx hb hU.2.2.2.1 hW.2.1 hown (hts _ hw) (fun _ h => h) hd h
theorem J_ulen {v : Int32} (hX : jOK Y Z own cc nL nm ret fr lw mcX msX) (hv : Int32.ofNat 9 = v) (hd : decode cc pc = .ok (.arraylength, 1)) (kk : J Y Z nL Qf k (pc + 1) lo (ji v :: rest) cs ss n sh rf I L) : J Y Z nL Qf k pc lo (je Y.ut :: rest) cs ss n sh rf I L := by
  intro r hr ls H locs hl hW
  have h := kk r hr ls H locs hl hW
  obtain ⟨hx, hb, hml, hown, hts, -, -, -, hK, hU, -⟩ := hX
  exact va_tlen hx hb hU.2.2.2.2 hW.2.1 hv hd h
theorem J_uld {i : Int32} (hX : jOK Y Z own cc nL nm ret fr lw mcX msX) (hd : decode cc pc = .ok (.iaload, 1)) (kk : jin i 9 → J Y Z nL Qf k (pc + 1) lo (ji (jUnder i) :: rest) cs ss n sh rf I L) : J Y Z nL Qf (if jin i 9 then k else none) pc lo (ji i :: je Y.ut :: rest) cs ss n sh rf I L := by
  intro r hr ls H locs hl hW
  by_cases hg : jin i 9
  · rw [if_pos hg] at hr
    have h := kk hg r hr ls H locs hl hW
    obtain ⟨hx, hb, hml, hown, hts, -, -, -, hK, hU, -⟩ := hX
    exact va_ti hx hb hU.2.2.2.2 hW.2.1 (jin_vp hg) rfl hd h
  · rw [if_neg hg] at hr; cases hr
/-! THE SCRIPT -/
theorem J_slen {b len : Nat} {xs : Nat → Int32} (hX : jOK Y Z own cc nL nm ret fr lw mcX msX) (hS : va_X b len xs Z.s Z.s.heap) (hb : b < Z.s.heap.size) (hbA : b < Y.b + 1) (hd : decode cc pc = .ok (.arraylength, 1)) (kk : J Y Z nL Qf k (pc + 1) lo (ji (Int32.ofNat len) :: rest) cs ss n sh rf I L) : J Y Z nL Qf k pc lo (je b :: rest) cs ss n sh rf I L := by
  intro r hr ls H locs hl hW
  have h := kk r hr ls H locs hl hW
  exact va_slen (A := jA Y.b) hX.1 hX.2.1 hS hb (by show ¬ Y.b + 1 ≤ b; omega) hW.2.1 hd h
theorem J_sld {b len : Nat} {xs : Nat → Int32} {i : Int32} (hX : jOK Y Z own cc nL nm ret fr lw mcX msX) (hS : va_X b len xs Z.s Z.s.heap) (hb : b < Z.s.heap.size) (hbA : b < Y.b + 1) (hd : decode cc pc = .ok (.iaload, 1)) (kk : jin i len → J Y Z nL Qf k (pc + 1) lo (ji (xs i.toNatClampNeg) :: rest) cs ss n sh rf I L) : J Y Z nL Qf (if jin i len then k else none) pc lo (ji i :: je b :: rest) cs ss n sh rf I L := by
  intro r hr ls H locs hl hW
  by_cases hg : jin i len
  · rw [if_pos hg] at hr
    have h := kk hg r hr ls H locs hl hW
    exact va_sld (A := jA Y.b) hX.1 hX.2.1 hS hb (by show ¬ Y.b + 1 ≤ b; omega) hW.2.1 (jin_vp hg) hd h
  · rw [if_neg hg] at hr; cases hr
end CALLROWS
