/-! VALUES by number: an int, a long, a cell of the world (0: null), a cell that is none of the world's -/
abbrev jV : Type := Int32 ⊕ (Int64 ⊕ (Nat ⊕ Nat))
abbrev ji (x : Int32) : jV := .inl x
abbrev jl (x : Int64) : jV := .inr (.inl x)
abbrev jr (x : Nat) : jV := .inr (.inr (.inl x))
abbrev je (x : Nat) : jV := .inr (.inr (.inr x))
def jval (b : Nat) : jV → Value
  | .inl x => .int x
  | .inr (.inl x) => .long x
  | .inr (.inr (.inl x)) => jref b x
  | .inr (.inr (.inr a)) => .ref a
def jcat : jV → Nat
  | .inr (.inl _) => 2
  | _ => 1
theorem jcat_val (b : Nat) (v : jV) : (jval b v).category = jcat v := by
  rcases v with x | x | x | x
  · rfl
  · rfl
  · show (jref b x).category = 1
    unfold jref
    split <;> rfl
  · rfl
def jlo (b : Nat) (lo : List (Nat × jV)) : List (Nat × Value) := lo.map (fun q => (q.1, jval b q.2))
def jst1 (i : Nat) (v : jV) (lo : List (Nat × jV)) : List (Nat × jV) := (i, v) :: lo.filter (fun q => !(q.1 == i) && !(q.1 + 1 == i && jcat q.2 == 2))
def jst2 (i : Nat) (v : jV) (lo : List (Nat × jV)) : List (Nat × jV) := (i, v) :: lo.filter (fun q => !(q.1 == i) && (!(q.1 == i + 1) && !(q.1 + 1 == i && jcat q.2 == 2)))
theorem jlo_st1 (b i : Nat) (v : jV) (lo : List (Nat × jV)) : (i, jval b v) :: (jlo b lo).filter (fun q => !(q.1 == i) && !(q.1 + 1 == i && q.2.category == 2)) = jlo b (jst1 i v lo) := by
  unfold jst1 jlo
  rw [List.map_cons, List.filter_map]
  congr 3
  funext q
  simp [Function.comp, jcat_val]
theorem jlo_st2 (b i : Nat) (v : jV) (lo : List (Nat × jV)) : (i, jval b v) :: (jlo b lo).filter (fun q => !(q.1 == i) && (!(q.1 == i + 1) && !(q.1 + 1 == i && q.2.category == 2))) = jlo b (jst2 i v lo) := by
  unfold jst2 jlo
  rw [List.map_cons, List.filter_map]
  congr 3
  funext q
  simp [Function.comp, jcat_val]
theorem jlo_at {b : Nat} {ls : Array Slot} {nL : Nat} {lo : List (Nat × jV)} (h : lv_has ls nL (jlo b lo)) (k : Nat) {i : Nat} {v : jV} (hk : lo[k]? = some (i, v)) : ls[i]? = some (.val (jval b v)) := lv_at h k (by rw [jlo, List.getElem?_map, hk]; rfl)
def jargl : Nat → List jV → List (Nat × jV)
  | _, [] => []
  | i, v :: vs => (i, v) :: jargl (if jcat v = 2 then i + 2 else i + 1) vs
theorem jlo_args (b : Nat) : ∀ (vs : List jV) (i : Nat), lv_args i (vs.map (jval b)) = jlo b (jargl i vs)
  | [], _ => rfl
  | v :: vs, i => by
    show (i, jval b v) :: lv_args (if (jval b v).category = 2 then i + 2 else i + 1) (vs.map (jval b)) = (i, jval b v) :: jlo b (jargl (if jcat v = 2 then i + 2 else i + 1) vs)
    rw [jcat_val, jlo_args b vs]
def jsl (vs : List jV) : Nat := (vs.map jcat).sum
theorem jsl_len (b : Nat) (vs : List jV) : (lg_sl (vs.map (jval b))).length = jsl vs := by
  induction vs with
  | nil => rfl
  | cons v vs ih =>
    have e : lg_sl ((v :: vs).map (jval b)) = (if (jval b v).category = 2 then [.val (jval b v), .second] else [.val (jval b v)]) ++ lg_sl (vs.map (jval b)) := by simp [lg_sl]
    have e2 : jsl (v :: vs) = jcat v + jsl vs := by simp [jsl]
    rw [e, List.length_append, ih, e2, jcat_val]
    rcases v with x | x | x | x <;> simp [jcat]
theorem jcat_sum (b : Nat) (vs : List jV) : ((vs.map (jval b)).map fun v => v.category).sum = (vs.map jcat).sum := by
  rw [List.map_map]
  congr 1
  apply List.map_congr_left
  intro v _
  exact jcat_val b v
/-! CONTEXTS: what one run of the law fixes; what one call of a method fixes -/
abbrev jY : Type := Launch × va_G × (Nat → ClassId) × Nat × Nat × Bool
abbrev jZ : Type := Program × Env × Room × State × MethodId × Array Value × List Frame × Method × Code
abbrev jY.l (Y : jY) : Launch := Y.1
abbrev jY.D (Y : jY) : va_G := Y.2.1
abbrev jY.tc (Y : jY) : Nat → ClassId := Y.2.2.1
abbrev jY.b (Y : jY) : Nat := Y.2.2.2.1
abbrev jY.ut (Y : jY) : Nat := Y.2.2.2.2.1
abbrev jY.zf (Y : jY) : Bool := Y.2.2.2.2.2
abbrev jZ.p (Z : jZ) : Program := Z.1
abbrev jZ.e (Z : jZ) : Env := Z.2.1
abbrev jZ.R (Z : jZ) : Room := Z.2.2.1
abbrev jZ.s (Z : jZ) : State := Z.2.2.2.1
abbrev jZ.m (Z : jZ) : MethodId := Z.2.2.2.2.1
abbrev jZ.a (Z : jZ) : Array Value := Z.2.2.2.2.2.1
abbrev jZ.w (Z : jZ) : List Frame := Z.2.2.2.2.2.2.1
abbrev jZ.meth (Z : jZ) : Method := Z.2.2.2.2.2.2.2.1
abbrev jZ.c (Z : jZ) : Code := Z.2.2.2.2.2.2.2.2
def jNest : List Cond := tables_1.filter (fun w => match w with | .methodLinkNest _ _ _ _ => true | _ => false)
def jUf : Nat → Value := fun j => .int (([-1, 0, 0, 1, 1, 4, 4, 2, 2] : List Int32).getD j 0)
def jU (Y : jY) (U : State) (H : Heap) : Prop := (∀ w ∈ jNest, va_Nw w U) ∧ va_AO RX2 U ∧ va_AO RX3 U ∧ va_Z RX6 "UNDER" "[I" (.ref Y.ut) (jA Y.b) U H ∧ va_T .int Y.ut 9 jUf (jA Y.b) U H
theorem jNest_form : ∀ w ∈ jNest, ∃ a i x h, w = .methodLinkNest a i x h := by
  intro w hw
  have h := (List.mem_filter.mp hw).2
  split at h
  · exact ⟨_, _, _, _, rfl⟩
  · cases h
theorem jU.mv {Y : jY} {s U : State} {H H1 : Heap} (h : jU Y s H) (ha : s.vm.Alike U.vm) (hn : ∀ w ∈ jNest, va_Nw w U) (hq : ∀ a : Nat, a < H.size → ¬ jA Y.b a → H1[a]? = H[a]?) : jU Y U H1 :=
  ⟨hn, h.2.1.moved ha, h.2.2.1.moved ha, (h.2.2.2.1.moved ha).kept hq, (h.2.2.2.2.moved ha).kept hq⟩
theorem jU.warm {Y : jY} {s U : State} {H H1 : Heap} (h : jU Y s H) (hW : s.WarmedH U.vm) (hq : ∀ a : Nat, a < H.size → ¬ jA Y.b a → H1[a]? = H[a]?) : jU Y U H1 := by
  refine h.mv hW.alike (fun w hw => ?_) hq
  obtain ⟨a, i, x, z, rfl⟩ := jNest_form w hw
  exact va_Nw.warmM hW (h.1 _ hw)
def jOK (Y : jY) (Z : jZ) (own : String) (cc : ByteArray) (nL : Nat) (nm : String) (ret : Option FieldType) (fr lw mc ms : Nat) : Prop :=
  Z.p.tables.exec = Jvm.exec ∧ Z.c.code = cc ∧ Z.c.maxLocals = nL ∧ Z.s.vm.findClass own = some Z.m.cls ∧ (∀ w ∈ wsU, w.before Z.a Z.s = true) ∧ Z.meth.sig.returnType = ret ∧ Z.meth.locks = false ∧ Z.meth.name = nm ∧
  va_K Y.D vwCl (jtys Y.tc) Z.s ∧ jU Y Z.s Z.s.heap ∧ Y.b + 1 ≤ Z.s.heap.size ∧ fr ≤ Z.R.frames ∧ lw ≤ Z.R.locals ∧ mc ≤ Z.R.cells ∧ ms ≤ Z.R.slots
abbrev jWz (Y : jY) (Z : jZ) (locs : List Loc) (n : Nat) (sh : jS) (rf : jR) (I : jI) (L : jL) (H : Heap) : Prop := jW Y.D Y.tc Y.b n sh rf I L H ∧ va_S (jA Y.b) Z.s.heap H locs ∧ (Y.zf = true → H.size = Y.b + 1 + n)
/-- THE JUDGEMENT: from this frame over this world, where the rest answers r, the machine comes to a state of Qf r -/
def J {ρ : Type} (Y : jY) (Z : jZ) (nL : Nat) (Qf : ρ → State → Prop) (k : Option ρ) (pc : Nat) (lo : List (Nat × jV)) (st : List jV) (cs ss n : Nat) (sh : jS) (rf : jR) (I : jI) (L : jL) : Prop :=
  ∀ r : ρ, k = some r → ∀ (ls : Array Slot) (H : Heap) (locs : List Loc), lv_has ls nL (jlo Y.b lo) → jWz Y Z locs n sh rf I L H →
    W Z.p Y.l Z.e Z.R Z.s Z.m Z.a Z.w Z.meth Z.c H locs cs ss (Qf r) (F0 Z.m pc ls (st.map (jval Y.b)))
def jPc (Y : jY) (av : List jV) (n : Nat) (sh : jS) (rf : jR) (I : jI) (L : jL) : Array Value → State → Prop := fun v U =>
  v = (av.map (jval Y.b)).toArray ∧ jW Y.D Y.tc Y.b n sh rf I L U.heap ∧ va_K Y.D vwCl (jtys Y.tc) U ∧ jU Y U U.heap ∧ Y.b + 1 ≤ U.heap.size ∧ (Y.zf = true → U.heap.size = Y.b + 1 + n)
def jQc (Y : jY) (v : Option jV) (n : Nat) (sh : jS) (rf : jR) (I : jI) (L : jL) : Array Value → State → Outcome → State → Prop := fun _ st oc t =>
  oc = .returned (v.map (jval Y.b)) ∧ jW Y.D Y.tc Y.b n sh rf I L t.heap ∧ (Y.zf = true → t.heap.size = Y.b + 1 + n) ∧ va_F (jA Y.b) st t
/-- a method's contract -/
def jMet (Y : jY) (y : MethodName) (cc : ByteArray) (nL : Nat) (ret : Option FieldType) (fr lw mc ms : Nat) (av : List jV) (n : Nat) (sh : jS) (rf : jR) (I : jI) (L : jL) (v : Option jV) (n' : Nat) (sh' : jS) (rf' : jR) (I' : jI) (L' : jL) : Prop :=
  Met Y.l y (Cond.code y cc nL ret :: wsU) ({ frames := fr, cells := mc, slots := ms, locals := lw } : Room) (jPc Y av n sh rf I L) (jQc Y v n' sh' rf' I' L') mc ms (jA Y.b)
def jQ (Y : jY) (Z : jZ) (mc ms : Nat) (v : Option jV) (n : Nat) (sh : jS) (rf : jR) (I : jI) (L : jL) : State → Prop := MQ Z.w (jQc Y v n sh rf I L) Z.a Z.s mc ms (jA Y.b)
theorem jPc_blind (Y : jY) (av : List jV) (n : Nat) (sh : jS) (rf : jR) (I : jI) (L : jL) : FrameBlind (jPc Y av n sh rf I L) := by
  intro a U g mk ⟨h1, h2, h3, h4, h5, h6⟩
  refine ⟨h1, h2, va_K.moved (u := U) (U := U.calling g mk a) (Vm.Alike.refl U.vm) h3, ?_, h5, h6⟩
  refine jU.mv (s := U) (U := U.calling g mk a) h4 (Vm.Alike.refl U.vm) (fun w hw => ?_) (fun _ _ _ => rfl)
  obtain ⟨b, i, x, z, rfl⟩ := jNest_form w hw
  exact va_Nw.same (w := .methodLinkNest b i x z) rfl (u := U) (U := U.calling g mk a) rfl (h4.1 _ hw)
/-- a contract out of a walk from the entry -/
theorem jmet_of {Y : jY} {y : MethodName} {cc : ByteArray} {nL : Nat} {ret : Option FieldType} {fr lw mc ms : Nat} {av : List jV} {n : Nat} {sh : jS} {rf : jR} {I : jI} {L : jL} {v : Option jV} {n' : Nat} {sh' : jS} {rf' : jR} {I' : jI} {L' : jL}
    {ρ : Type} (k : Option ρ) (r : ρ) (hk : k = some r) (Qf : jZ → ρ → State → Prop) (hQ : ∀ Z, Qf Z r = jQ Y Z mc ms v n' sh' rf' I' L') (hy : plainName y.cls = true) (hsl : jsl av ≤ nL)
    (hJ : ∀ Z, jOK Y Z y.cls cc nL y.name ret fr lw mc ms → J Y Z nL (Qf Z) k 0 (jargl 0 av) [] 0 0 n sh rf I L) : jMet Y y cc nL ret fr lw mc ms av n sh rf I L v n' sh' rf' I' L' := by
  refine Met.ofW (cc := cc) (maxL := nL) (ret := ret) hy rfl ?_
  intro p e s m args below meth c s₁ B hml hv
  obtain ⟨rfl, hW, hK, hU, hb1, hz⟩ := hv
  have hts := atoms_spec (ws := Cond.code y cc nL ret :: wsU) B.pre
  have hown : s.vm.findClass y.cls = some m.cls := findClass_of_methodNamed B.named
  have h := hJ (p, e, (headSpec (Cond.code y cc nL ret :: wsU) { frames := fr, cells := mc, slots := ms, locals := lw }).room, s, m, (av.map (jval Y.b)).toArray, below, meth, c) ⟨B.exec, B.bytes, hml, hown, fun w hw => hts w (List.mem_cons_of_mem _ hw), B.returns, B.notSynchronized, (name_of_methodNamed B.named B.method).1, hK, hU, hb1, Nat.le_refl _, Nat.le_refl _, Nat.le_refl _, Nat.le_refl _⟩
  have hl := lv_entry (av.map (jval Y.b)) (n := nL) (by rw [jsl_len]; exact hsl)
  rw [jlo_args] at hl
  rw [lg_entry_eq]
  have h2 := h r hk _ s.heap [] hl ⟨hW, va_S.rf, hz⟩
  rw [hQ] at h2
  exact h2
section ROWS
variable {ρ : Type} {Y : jY} {Z : jZ} {nL : Nat} {Qf : ρ → State → Prop} {k : Option ρ} {pc : Nat} {lo lo' : List (Nat × jV)} {st rest : List jV} {cs ss n : Nat} {sh : jS} {rf : jR} {I : jI} {L : jL} {own nm : String} {cc : ByteArray} {ret : Option FieldType} {fr lw mcX msX : Nat}
theorem J_none : J Y Z nL Qf none pc lo st cs ss n sh rf I L := fun _ h => by cases h
theorem J_sub (ks : List Nat) (hl : ks.filterMap (fun i => lo[i]?) = lo') (kk : J Y Z nL Qf k pc lo' st cs ss n sh rf I L) : J Y Z nL Qf k pc lo st cs ss n sh rf I L := by
  intro r hr ls H locs h
  refine kk r hr ls H locs (lv_sub h ks ?_)
  subst hl
  clear kk h hr
  simp only [lv_pick, jlo, List.getElem?_map]
  induction ks with
  | nil => rfl
  | cons a t ih =>
    cases ha : lo[a]? with
    | none => simp [ha, ih]
    | some q => simp [ha, ih]
theorem J_lets {α : Type} {a : α} {f : α → Option ρ} (kk : ∀ y, y = a → J Y Z nL Qf (f y) pc lo st cs ss n sh rf I L) : J Y Z nL Qf (jlet a f) pc lo st cs ss n sh rf I L := kk a rfl
theorem J_leti {a : Int32} {f : Int32 → Option ρ} (kk : ∀ y, J Y Z nL Qf (f y) pc lo (ji y :: rest) cs ss n sh rf I L) : J Y Z nL Qf (jlet a f) pc lo (ji a :: rest) cs ss n sh rf I L := kk a
theorem J_letl {a : Int64} {f : Int64 → Option ρ} (kk : ∀ y, J Y Z nL Qf (f y) pc lo (jl y :: rest) cs ss n sh rf I L) : J Y Z nL Qf (jlet a f) pc lo (jl a :: rest) cs ss n sh rf I L := kk a
/-- a continuation of its own: proved once, used where it is called -/
theorem J_join {κ : Type} {K : κ} {f : κ → Option ρ} (P : κ → Prop) (hK : P K) (kk : ∀ K', P K' → J Y Z nL Qf (f K') pc lo st cs ss n sh rf I L) : J Y Z nL Qf (jlet K f) pc lo st cs ss n sh rf I L := kk K hK
/-- a value that the ways of a pure choice put on the stack -/
theorem J_vjoin {α : Type} {a : α} {f : α → Option ρ} (P : Option ρ → α → Prop) (hj : ∀ y, P (f y) y) (kk : (∀ y, P (jlet y f) y) → J Y Z nL Qf (jlet a f) pc lo st cs ss n sh rf I L) : J Y Z nL Qf (jlet a f) pc lo st cs ss n sh rf I L := kk hj
theorem jfx_J {κ : Type} {F : κ → κ} {z : κ} (P : Nat → κ → Prop) (h0 : P 0 z) (hs : ∀ m g, P m g → P (m + 1) (F g)) : ∀ m, P m (jfx F z m)
  | 0 => h0
  | m + 1 => hs m _ (jfx_J P h0 hs m)
/-- a switch, number by number -/
theorem J_swc (c : Int32) {k1 k2 : Option ρ} {x : Int32} (h1 : x = c → J Y Z nL Qf k1 pc lo (ji x :: rest) cs ss n sh rf I L) (h2 : ¬ x = c → J Y Z nL Qf k2 pc lo (ji x :: rest) cs ss n sh rf I L) : J Y Z nL Qf (if x = c then k1 else k2) pc lo (ji x :: rest) cs ss n sh rf I L := by
  intro r hr
  by_cases h : x = c
  · rw [if_pos h] at hr; exact h1 h r hr
  · rw [if_neg h] at hr; exact h2 h r hr
theorem jsw_0 {x a : Int} : x < a ∨ a ≤ x := by omega
theorem jsw_1 {x : Int32} {lo a b : Int} (c : Int32) (h : x.toInt < lo ∨ a ≤ x.toInt) (hn : ¬ x = c) (hc : c.toInt = a) (hb : b = a + 1) : x.toInt < lo ∨ b ≤ x.toInt := by
  have : ¬ x.toInt = a := fun e => hn (Int32.toInt_inj.mp (e.trans hc.symm))
  omega
theorem jsw_2 {x : Int32} {lo hi b : Int} (h : x.toInt < lo ∨ b ≤ x.toInt) (hb : b = hi + 1) : x.toInt < lo ∨ hi < x.toInt := by omega

theorem J_iconst {v : Int32} {i : Int} (hX : jOK Y Z own cc nL nm ret fr lw mcX msX) (hv : Int32.ofInt i = v) (hd : decode cc pc = .ok (.iconst i, 1)) (kk : J Y Z nL Qf k (pc + 1) lo (ji v :: rest) cs ss n sh rf I L) : J Y Z nL Qf k pc lo rest cs ss n sh rf I L :=
  fun r hr ls H locs hl hW => lv_iconst hX.1 hX.2.1 hd hv (kk r hr ls H locs hl hW)
theorem J_bipush {v : Int32} {i : Int} (hX : jOK Y Z own cc nL nm ret fr lw mcX msX) (hv : (Int8.ofInt i).toInt32 = v) (hd : decode cc pc = .ok (.bipush i, 2)) (kk : J Y Z nL Qf k (pc + 2) lo (ji v :: rest) cs ss n sh rf I L) : J Y Z nL Qf k pc lo rest cs ss n sh rf I L :=
  fun r hr ls H locs hl hW => lv_bipush hX.1 hX.2.1 hd hv (kk r hr ls H locs hl hW)
theorem J_sipush {v : Int32} {i : Int} (hX : jOK Y Z own cc nL nm ret fr lw mcX msX) (hv : (Int16.ofInt i).toInt32 = v) (hd : decode cc pc = .ok (.sipush i, 3)) (kk : J Y Z nL Qf k (pc + 3) lo (ji v :: rest) cs ss n sh rf I L) : J Y Z nL Qf k pc lo rest cs ss n sh rf I L :=
  fun r hr ls H locs hl hW => lv_sipush hX.1 hX.2.1 hd hv (kk r hr ls H locs hl hW)
theorem J_lconst {v : Int64} {i : Fin 2} (hX : jOK Y Z own cc nL nm ret fr lw mcX msX) (hv : Int64.ofNat (i : Nat) = v) (hd : decode cc pc = .ok (.lconst i, 1)) (kk : J Y Z nL Qf k (pc + 1) lo (jl v :: rest) cs ss n sh rf I L) : J Y Z nL Qf k pc lo rest cs ss n sh rf I L :=
  fun r hr ls H locs hl hW => lv_lconst hX.1 hX.2.1 hd hv (kk r hr ls H locs hl hW)
theorem J_ldc {v : Int32} {i : Nat} (hX : jOK Y Z own cc nL nm ret fr lw mcX msX) (hw : Cond.constant own i v ∈ wsU) (hd : decode cc pc = .ok (.ldc i, 2)) (kk : J Y Z nL Qf k (pc + 2) lo (ji v :: rest) cs ss n sh rf I L) : J Y Z nL Qf k pc lo rest cs ss n sh rf I L :=
  fun r hr ls H locs hl hW => lv_ldc hX.1 hX.2.1 hX.2.2.2.1 (hX.2.2.2.2.1 _ hw) hd (kk r hr ls H locs hl hW)
theorem J_ldcw {v : Int32} {i : Nat} (hX : jOK Y Z own cc nL nm ret fr lw mcX msX) (hw : Cond.constant own i v ∈ wsU) (hd : decode cc pc = .ok (.ldc_w i, 3)) (kk : J Y Z nL Qf k (pc + 3) lo (ji v :: rest) cs ss n sh rf I L) : J Y Z nL Qf k pc lo rest cs ss n sh rf I L :=
  fun r hr ls H locs hl hW => lv_ldcw hX.1 hX.2.1 hX.2.2.2.1 (hX.2.2.2.2.1 _ hw) hd (kk r hr ls H locs hl hW)
theorem J_ldc2 {v : Int64} {i : Nat} (hX : jOK Y Z own cc nL nm ret fr lw mcX msX) (hw : Cond.constantLong own i v ∈ wsU) (hd : decode cc pc = .ok (.ldc2_w i, 3)) (kk : J Y Z nL Qf k (pc + 3) lo (jl v :: rest) cs ss n sh rf I L) : J Y Z nL Qf k pc lo rest cs ss n sh rf I L :=
  fun r hr ls H locs hl hW => lv_ldc2 hX.1 hX.2.1 hX.2.2.2.1 (hX.2.2.2.2.1 _ hw) hd (kk r hr ls H locs hl hW)
theorem J_iload_n {x : Int32} {a : Fin 4} (hX : jOK Y Z own cc nL nm ret fr lw mcX msX) (q : Nat) (hl0 : lo[q]? = some ((a : Nat), ji x)) (hd : decode cc pc = .ok (.iload_n a, 1)) (kk : J Y Z nL Qf k (pc + 1) lo (ji x :: rest) cs ss n sh rf I L) : J Y Z nL Qf k pc lo rest cs ss n sh rf I L :=
  fun r hr ls H locs hl hW => lv_iload_n hX.1 hX.2.1 hd rfl (jlo_at hl q hl0) (kk r hr ls H locs hl hW)
theorem J_lload_n {x : Int64} {a : Fin 4} (hX : jOK Y Z own cc nL nm ret fr lw mcX msX) (q : Nat) (hl0 : lo[q]? = some ((a : Nat), jl x)) (hd : decode cc pc = .ok (.lload_n a, 1)) (kk : J Y Z nL Qf k (pc + 1) lo (jl x :: rest) cs ss n sh rf I L) : J Y Z nL Qf k pc lo rest cs ss n sh rf I L :=
  fun r hr ls H locs hl hW => lv_lload_n hX.1 hX.2.1 hd rfl (jlo_at hl q hl0) (kk r hr ls H locs hl hW)
theorem J_iload {x : Int32} {a : Nat} (hX : jOK Y Z own cc nL nm ret fr lw mcX msX) (q : Nat) (hl0 : lo[q]? = some (a, ji x)) (hd : decode cc pc = .ok (.iload a, 2)) (kk : J Y Z nL Qf k (pc + 2) lo (ji x :: rest) cs ss n sh rf I L) : J Y Z nL Qf k pc lo rest cs ss n sh rf I L :=
  fun r hr ls H locs hl hW => lv_iload hX.1 hX.2.1 hd (jlo_at hl q hl0) (kk r hr ls H locs hl hW)
theorem J_lload {x : Int64} {a : Nat} (hX : jOK Y Z own cc nL nm ret fr lw mcX msX) (q : Nat) (hl0 : lo[q]? = some (a, jl x)) (hd : decode cc pc = .ok (.lload a, 2)) (kk : J Y Z nL Qf k (pc + 2) lo (jl x :: rest) cs ss n sh rf I L) : J Y Z nL Qf k pc lo rest cs ss n sh rf I L :=
  fun r hr ls H locs hl hW => lv_lload hX.1 hX.2.1 hd (jlo_at hl q hl0) (kk r hr ls H locs hl hW)
theorem J_aload_n {x : Nat} {a : Fin 4} (hX : jOK Y Z own cc nL nm ret fr lw mcX msX) (q : Nat) (hl0 : lo[q]? = some ((a : Nat), jr x)) (hd : decode cc pc = .ok (.aload_n a, 1)) (kk : J Y Z nL Qf k (pc + 1) lo (jr x :: rest) cs ss n sh rf I L) : J Y Z nL Qf k pc lo rest cs ss n sh rf I L := by
  intro r hr ls H locs hl hW
  have h1 := jlo_at hl q hl0
  have h2 := kk r hr ls H locs hl hW
  have h1 : ls[(a : Nat)]? = some (.val (jref Y.b x)) := h1
  have h2 : W Z.p Y.l Z.e Z.R Z.s Z.m Z.a Z.w Z.meth Z.c H locs cs ss (Qf r) (F0 Z.m (pc + 1) ls (jref Y.b x :: rest.map (jval Y.b))) := h2
  unfold jref at h1 h2
  by_cases h0 : x = 0
  · rw [if_pos h0] at h1 h2
    exact lv_aload_nN hX.1 hX.2.1 hd rfl h1 h2
  · rw [if_neg h0] at h1 h2
    exact lv_aload_n hX.1 hX.2.1 hd rfl h1 h2
theorem J_aload_nE {x : Nat} {a : Fin 4} (hX : jOK Y Z own cc nL nm ret fr lw mcX msX) (q : Nat) (hl0 : lo[q]? = some ((a : Nat), je x)) (hd : decode cc pc = .ok (.aload_n a, 1)) (kk : J Y Z nL Qf k (pc + 1) lo (je x :: rest) cs ss n sh rf I L) : J Y Z nL Qf k pc lo rest cs ss n sh rf I L :=
  fun r hr ls H locs hl hW => lv_aload_n hX.1 hX.2.1 hd rfl (jlo_at hl q hl0) (kk r hr ls H locs hl hW)
theorem J_aload {x : Nat} {a : Nat} (hX : jOK Y Z own cc nL nm ret fr lw mcX msX) (q : Nat) (hl0 : lo[q]? = some (a, jr x)) (hd : decode cc pc = .ok (.aload a, 2)) (kk : J Y Z nL Qf k (pc + 2) lo (jr x :: rest) cs ss n sh rf I L) : J Y Z nL Qf k pc lo rest cs ss n sh rf I L := by
  intro r hr ls H locs hl hW
  have h1 := jlo_at hl q hl0
  have h2 := kk r hr ls H locs hl hW
  have h1 : ls[a]? = some (.val (jref Y.b x)) := h1
  have h2 : W Z.p Y.l Z.e Z.R Z.s Z.m Z.a Z.w Z.meth Z.c H locs cs ss (Qf r) (F0 Z.m (pc + 2) ls (jref Y.b x :: rest.map (jval Y.b))) := h2
  unfold jref at h1 h2
  by_cases h0 : x = 0
  · rw [if_pos h0] at h1 h2
    exact lv_aloadN hX.1 hX.2.1 hd h1 h2
  · rw [if_neg h0] at h1 h2
    exact lv_aload hX.1 hX.2.1 hd h1 h2
theorem J_aloadE {x : Nat} {a : Nat} (hX : jOK Y Z own cc nL nm ret fr lw mcX msX) (q : Nat) (hl0 : lo[q]? = some (a, je x)) (hd : decode cc pc = .ok (.aload a, 2)) (kk : J Y Z nL Qf k (pc + 2) lo (je x :: rest) cs ss n sh rf I L) : J Y Z nL Qf k pc lo rest cs ss n sh rf I L :=
  fun r hr ls H locs hl hW => lv_aload hX.1 hX.2.1 hd (jlo_at hl q hl0) (kk r hr ls H locs hl hW)
theorem J_istore_n {x : Int32} {a : Fin 4} (hX : jOK Y Z own cc nL nm ret fr lw mcX msX) (hn : (a : Nat) < nL) (hl0 : jst1 (a : Nat) (ji x) lo = lo') (hd : decode cc pc = .ok (.istore_n a, 1)) (kk : J Y Z nL Qf k (pc + 1) lo' rest cs ss n sh rf I L) : J Y Z nL Qf k pc lo (ji x :: rest) cs ss n sh rf I L :=
  fun r hr ls H locs hl hW => lv_istore_n hX.1 hX.2.1 hd rfl hl hn (jlo_st1 Y.b _ (ji x) lo) (fun ls2 hl2 => kk r hr ls2 H locs (by rw [← hl0]; exact hl2) hW)
theorem J_istore {x : Int32} {a : Nat} (hX : jOK Y Z own cc nL nm ret fr lw mcX msX) (hn : a < nL) (hl0 : jst1 a (ji x) lo = lo') (hd : decode cc pc = .ok (.istore a, 2)) (kk : J Y Z nL Qf k (pc + 2) lo' rest cs ss n sh rf I L) : J Y Z nL Qf k pc lo (ji x :: rest) cs ss n sh rf I L :=
  fun r hr ls H locs hl hW => lv_istore hX.1 hX.2.1 hd hl hn (jlo_st1 Y.b _ (ji x) lo) (fun ls2 hl2 => kk r hr ls2 H locs (by rw [← hl0]; exact hl2) hW)
theorem J_lstore_n {x : Int64} {a : Fin 4} (hX : jOK Y Z own cc nL nm ret fr lw mcX msX) (hn : (a : Nat) + 1 < nL) (hl0 : jst2 (a : Nat) (jl x) lo = lo') (hd : decode cc pc = .ok (.lstore_n a, 1)) (kk : J Y Z nL Qf k (pc + 1) lo' rest cs ss n sh rf I L) : J Y Z nL Qf k pc lo (jl x :: rest) cs ss n sh rf I L :=
  fun r hr ls H locs hl hW => lv_lstore_n hX.1 hX.2.1 hd rfl hl hn (jlo_st2 Y.b _ (jl x) lo) (fun ls2 hl2 => kk r hr ls2 H locs (by rw [← hl0]; exact hl2) hW)
theorem J_lstore {x : Int64} {a : Nat} (hX : jOK Y Z own cc nL nm ret fr lw mcX msX) (hn : a + 1 < nL) (hl0 : jst2 a (jl x) lo = lo') (hd : decode cc pc = .ok (.lstore a, 2)) (kk : J Y Z nL Qf k (pc + 2) lo' rest cs ss n sh rf I L) : J Y Z nL Qf k pc lo (jl x :: rest) cs ss n sh rf I L :=
  fun r hr ls H locs hl hW => lv_lstore hX.1 hX.2.1 hd hl hn (jlo_st2 Y.b _ (jl x) lo) (fun ls2 hl2 => kk r hr ls2 H locs (by rw [← hl0]; exact hl2) hW)
theorem J_astore_n {x : Nat} {a : Fin 4} (hX : jOK Y Z own cc nL nm ret fr lw mcX msX) (hn : (a : Nat) < nL) (hl0 : jst1 (a : Nat) (jr x) lo = lo') (hd : decode cc pc = .ok (.astore_n a, 1)) (kk : J Y Z nL Qf k (pc + 1) lo' rest cs ss n sh rf I L) : J Y Z nL Qf k pc lo (jr x :: rest) cs ss n sh rf I L := by
  intro r hr ls H locs hl hW
  have e := jlo_st1 Y.b (a : Nat) (jr x) lo
  rw [hl0] at e
  have h2 : ∀ ls2, lv_has ls2 nL (jlo Y.b lo') → W Z.p Y.l Z.e Z.R Z.s Z.m Z.a Z.w Z.meth Z.c H locs cs ss (Qf r) (F0 Z.m (pc + 1) ls2 (rest.map (jval Y.b))) := fun ls2 hl2 => kk r hr ls2 H locs hl2 hW
  show W Z.p Y.l Z.e Z.R Z.s Z.m Z.a Z.w Z.meth Z.c H locs cs ss (Qf r) (F0 Z.m pc ls (jref Y.b x :: rest.map (jval Y.b)))
  have e : ((a : Nat), jref Y.b x) :: (jlo Y.b lo).filter (fun q => !(q.1 == (a : Nat)) && !(q.1 + 1 == (a : Nat) && q.2.category == 2)) = jlo Y.b lo' := e
  unfold jref at e ⊢
  by_cases h0 : x = 0
  · rw [if_pos h0] at e ⊢
    exact lv_astore_nN hX.1 hX.2.1 hd rfl hl hn e h2
  · rw [if_neg h0] at e ⊢
    exact lv_astore_n hX.1 hX.2.1 hd rfl hl hn e h2
theorem J_astore {x : Nat} {a : Nat} (hX : jOK Y Z own cc nL nm ret fr lw mcX msX) (hn : a < nL) (hl0 : jst1 a (jr x) lo = lo') (hd : decode cc pc = .ok (.astore a, 2)) (kk : J Y Z nL Qf k (pc + 2) lo' rest cs ss n sh rf I L) : J Y Z nL Qf k pc lo (jr x :: rest) cs ss n sh rf I L := by
  intro r hr ls H locs hl hW
  have e := jlo_st1 Y.b a (jr x) lo
  rw [hl0] at e
  have h2 : ∀ ls2, lv_has ls2 nL (jlo Y.b lo') → W Z.p Y.l Z.e Z.R Z.s Z.m Z.a Z.w Z.meth Z.c H locs cs ss (Qf r) (F0 Z.m (pc + 2) ls2 (rest.map (jval Y.b))) := fun ls2 hl2 => kk r hr ls2 H locs hl2 hW
  show W Z.p Y.l Z.e Z.R Z.s Z.m Z.a Z.w Z.meth Z.c H locs cs ss (Qf r) (F0 Z.m pc ls (jref Y.b x :: rest.map (jval Y.b)))
  have e : (a, jref Y.b x) :: (jlo Y.b lo).filter (fun q => !(q.1 == a) && !(q.1 + 1 == a && q.2.category == 2)) = jlo Y.b lo' := e
  unfold jref at e ⊢
  by_cases h0 : x = 0
  · rw [if_pos h0] at e ⊢
    exact lv_astoreN hX.1 hX.2.1 hd hl hn e h2
  · rw [if_neg h0] at e ⊢
    exact lv_astore hX.1 hX.2.1 hd hl hn e h2
theorem J_iinc {x v : Int32} {a : Nat} {i : Int} (hX : jOK Y Z own cc nL nm ret fr lw mcX msX) (q : Nat) (hq : lo[q]? = some (a, ji x)) (hv : x + Int32.ofInt i = v) (hn : a < nL) (hl0 : jst1 a (ji v) lo = lo') (hd : decode cc pc = .ok (.iinc a i, 3)) (kk : J Y Z nL Qf k (pc + 3) lo' rest cs ss n sh rf I L) : J Y Z nL Qf k pc lo rest cs ss n sh rf I L :=
  fun r hr ls H locs hl hW => lv_iinc hX.1 hX.2.1 hd hl (k := q) (by rw [jlo, List.getElem?_map, hq]; rfl) hv hn (jlo_st1 Y.b _ (ji v) lo) (fun ls2 hl2 => kk r hr ls2 H locs (by rw [← hl0]; exact hl2) hW)
theorem J_iadd {x y : Int32} (hX : jOK Y Z own cc nL nm ret fr lw mcX msX)  (hd : decode cc pc = .ok (.iadd, 1)) (kk : J Y Z nL Qf k (pc + 1) lo (ji (x + y) :: rest) cs ss n sh rf I L) : J Y Z nL Qf k pc lo (ji y :: ji x :: rest) cs ss n sh rf I L :=
  fun r hr ls H locs hl hW => lv_iadd hX.1 hX.2.1 hd (kk r hr ls H locs hl hW)
theorem J_isub {x y : Int32} (hX : jOK Y Z own cc nL nm ret fr lw mcX msX)  (hd : decode cc pc = .ok (.isub, 1)) (kk : J Y Z nL Qf k (pc + 1) lo (ji (x - y) :: rest) cs ss n sh rf I L) : J Y Z nL Qf k pc lo (ji y :: ji x :: rest) cs ss n sh rf I L :=
  fun r hr ls H locs hl hW => lv_isub hX.1 hX.2.1 hd (kk r hr ls H locs hl hW)
theorem J_imul {x y : Int32} (hX : jOK Y Z own cc nL nm ret fr lw mcX msX)  (hd : decode cc pc = .ok (.imul, 1)) (kk : J Y Z nL Qf k (pc + 1) lo (ji (x * y) :: rest) cs ss n sh rf I L) : J Y Z nL Qf k pc lo (ji y :: ji x :: rest) cs ss n sh rf I L :=
  fun r hr ls H locs hl hW => lv_imul hX.1 hX.2.1 hd (kk r hr ls H locs hl hW)
theorem J_iand {x y : Int32} (hX : jOK Y Z own cc nL nm ret fr lw mcX msX)  (hd : decode cc pc = .ok (.iand, 1)) (kk : J Y Z nL Qf k (pc + 1) lo (ji (x &&& y) :: rest) cs ss n sh rf I L) : J Y Z nL Qf k pc lo (ji y :: ji x :: rest) cs ss n sh rf I L :=
  fun r hr ls H locs hl hW => lv_iand hX.1 hX.2.1 hd (kk r hr ls H locs hl hW)
theorem J_ior {x y : Int32} (hX : jOK Y Z own cc nL nm ret fr lw mcX msX)  (hd : decode cc pc = .ok (.ior, 1)) (kk : J Y Z nL Qf k (pc + 1) lo (ji (x ||| y) :: rest) cs ss n sh rf I L) : J Y Z nL Qf k pc lo (ji y :: ji x :: rest) cs ss n sh rf I L :=
  fun r hr ls H locs hl hW => lv_ior hX.1 hX.2.1 hd (kk r hr ls H locs hl hW)
theorem J_ixor {x y : Int32} (hX : jOK Y Z own cc nL nm ret fr lw mcX msX)  (hd : decode cc pc = .ok (.ixor, 1)) (kk : J Y Z nL Qf k (pc + 1) lo (ji (x ^^^ y) :: rest) cs ss n sh rf I L) : J Y Z nL Qf k pc lo (ji y :: ji x :: rest) cs ss n sh rf I L :=
  fun r hr ls H locs hl hW => lv_ixor hX.1 hX.2.1 hd (kk r hr ls H locs hl hW)
theorem J_ishl {x y : Int32} (hX : jOK Y Z own cc nL nm ret fr lw mcX msX)  (hd : decode cc pc = .ok (.ishl, 1)) (kk : J Y Z nL Qf k (pc + 1) lo (ji (x <<< (y &&& 31)) :: rest) cs ss n sh rf I L) : J Y Z nL Qf k pc lo (ji y :: ji x :: rest) cs ss n sh rf I L :=
  fun r hr ls H locs hl hW => lv_ishl hX.1 hX.2.1 hd (kk r hr ls H locs hl hW)
theorem J_ladd {x y : Int64} (hX : jOK Y Z own cc nL nm ret fr lw mcX msX)  (hd : decode cc pc = .ok (.ladd, 1)) (kk : J Y Z nL Qf k (pc + 1) lo (jl (x + y) :: rest) cs ss n sh rf I L) : J Y Z nL Qf k pc lo (jl y :: jl x :: rest) cs ss n sh rf I L :=
  fun r hr ls H locs hl hW => lv_ladd hX.1 hX.2.1 hd (kk r hr ls H locs hl hW)
theorem J_lsub {x y : Int64} (hX : jOK Y Z own cc nL nm ret fr lw mcX msX)  (hd : decode cc pc = .ok (.lsub, 1)) (kk : J Y Z nL Qf k (pc + 1) lo (jl (x - y) :: rest) cs ss n sh rf I L) : J Y Z nL Qf k pc lo (jl y :: jl x :: rest) cs ss n sh rf I L :=
  fun r hr ls H locs hl hW => lv_lsub hX.1 hX.2.1 hd (kk r hr ls H locs hl hW)
theorem J_land {x y : Int64} (hX : jOK Y Z own cc nL nm ret fr lw mcX msX)  (hd : decode cc pc = .ok (.land, 1)) (kk : J Y Z nL Qf k (pc + 1) lo (jl (x &&& y) :: rest) cs ss n sh rf I L) : J Y Z nL Qf k pc lo (jl y :: jl x :: rest) cs ss n sh rf I L :=
  fun r hr ls H locs hl hW => lv_land hX.1 hX.2.1 hd (kk r hr ls H locs hl hW)
theorem J_lor {x y : Int64} (hX : jOK Y Z own cc nL nm ret fr lw mcX msX)  (hd : decode cc pc = .ok (.lor, 1)) (kk : J Y Z nL Qf k (pc + 1) lo (jl (x ||| y) :: rest) cs ss n sh rf I L) : J Y Z nL Qf k pc lo (jl y :: jl x :: rest) cs ss n sh rf I L :=
  fun r hr ls H locs hl hW => lv_lor hX.1 hX.2.1 hd (kk r hr ls H locs hl hW)
theorem J_lxor {x y : Int64} (hX : jOK Y Z own cc nL nm ret fr lw mcX msX)  (hd : decode cc pc = .ok (.lxor, 1)) (kk : J Y Z nL Qf k (pc + 1) lo (jl (x ^^^ y) :: rest) cs ss n sh rf I L) : J Y Z nL Qf k pc lo (jl y :: jl x :: rest) cs ss n sh rf I L :=
  fun r hr ls H locs hl hW => lv_lxor hX.1 hX.2.1 hd (kk r hr ls H locs hl hW)
def jushr (x y : Int32) : Int32 := (x.toUInt32 >>> (y.toUInt32 &&& Int32.toUInt32 31)).toInt32
def jlushr (x : Int64) (y : Int32) : Int64 := (x.toUInt64 >>> (y.toInt64.toUInt64 &&& Int64.toUInt64 63)).toInt64
def jlshl (x : Int64) (y : Int32) : Int64 := x <<< (y.toInt64 &&& 63)
def jrem (x y : Int32) : Int32 := x - x / y * y
theorem J_iushr {x y : Int32} (hX : jOK Y Z own cc nL nm ret fr lw mcX msX)  (hd : decode cc pc = .ok (.iushr, 1)) (kk : J Y Z nL Qf k (pc + 1) lo (ji (jushr x y) :: rest) cs ss n sh rf I L) : J Y Z nL Qf k pc lo (ji y :: ji x :: rest) cs ss n sh rf I L :=
  fun r hr ls H locs hl hW => lv_iushr hX.1 hX.2.1 hd rfl (kk r hr ls H locs hl hW)
theorem J_lushr {x : Int64} {y : Int32} (hX : jOK Y Z own cc nL nm ret fr lw mcX msX)  (hd : decode cc pc = .ok (.lushr, 1)) (kk : J Y Z nL Qf k (pc + 1) lo (jl (jlushr x y) :: rest) cs ss n sh rf I L) : J Y Z nL Qf k pc lo (ji y :: jl x :: rest) cs ss n sh rf I L :=
  fun r hr ls H locs hl hW => lv_lushr hX.1 hX.2.1 hd rfl (kk r hr ls H locs hl hW)
theorem J_lshl {x : Int64} {y : Int32} (hX : jOK Y Z own cc nL nm ret fr lw mcX msX)  (hd : decode cc pc = .ok (.lshl, 1)) (kk : J Y Z nL Qf k (pc + 1) lo (jl (jlshl x y) :: rest) cs ss n sh rf I L) : J Y Z nL Qf k pc lo (ji y :: jl x :: rest) cs ss n sh rf I L :=
  fun r hr ls H locs hl hW => lv_lshl hX.1 hX.2.1 hd rfl (kk r hr ls H locs hl hW)
theorem J_irem {x y : Int32} (hX : jOK Y Z own cc nL nm ret fr lw mcX msX) (hd : decode cc pc = .ok (.irem, 1)) (kk : ¬ y = 0 → J Y Z nL Qf k (pc + 1) lo (ji (jrem x y) :: rest) cs ss n sh rf I L) : J Y Z nL Qf (if y = 0 then none else k) pc lo (ji y :: ji x :: rest) cs ss n sh rf I L := by
  intro r hr
  by_cases h0 : y = 0
  · rw [if_pos h0] at hr; cases hr
  · rw [if_neg h0] at hr
    exact fun ls H locs hl hW => lv_irem hX.1 hX.2.1 hd h0 (kk h0 r hr ls H locs hl hW)
theorem J_i2l {x : Int32} (hX : jOK Y Z own cc nL nm ret fr lw mcX msX)  (hd : decode cc pc = .ok (.i2l, 1)) (kk : J Y Z nL Qf k (pc + 1) lo (jl x.toInt64 :: rest) cs ss n sh rf I L) : J Y Z nL Qf k pc lo (ji x :: rest) cs ss n sh rf I L :=
  fun r hr ls H locs hl hW => lv_i2l hX.1 hX.2.1 hd rfl (kk r hr ls H locs hl hW)
theorem J_l2i {x : Int64} (hX : jOK Y Z own cc nL nm ret fr lw mcX msX)  (hd : decode cc pc = .ok (.l2i, 1)) (kk : J Y Z nL Qf k (pc + 1) lo (ji x.toInt32 :: rest) cs ss n sh rf I L) : J Y Z nL Qf k pc lo (jl x :: rest) cs ss n sh rf I L :=
  fun r hr ls H locs hl hW => lv_l2i hX.1 hX.2.1 hd rfl (kk r hr ls H locs hl hW)
theorem J_i2b {x : Int32} (hX : jOK Y Z own cc nL nm ret fr lw mcX msX)  (hd : decode cc pc = .ok (.i2b, 1)) (kk : J Y Z nL Qf k (pc + 1) lo (ji x.toInt8.toInt32 :: rest) cs ss n sh rf I L) : J Y Z nL Qf k pc lo (ji x :: rest) cs ss n sh rf I L :=
  fun r hr ls H locs hl hW => lv_i2b hX.1 hX.2.1 hd rfl (kk r hr ls H locs hl hW)
theorem J_i2s {x : Int32} (hX : jOK Y Z own cc nL nm ret fr lw mcX msX)  (hd : decode cc pc = .ok (.i2s, 1)) (kk : J Y Z nL Qf k (pc + 1) lo (ji x.toInt16.toInt32 :: rest) cs ss n sh rf I L) : J Y Z nL Qf k pc lo (ji x :: rest) cs ss n sh rf I L :=
  fun r hr ls H locs hl hW => lv_i2s hX.1 hX.2.1 hd rfl (kk r hr ls H locs hl hW)
theorem J_lcmp {x y : Int64} (hX : jOK Y Z own cc nL nm ret fr lw mcX msX)  (hd : decode cc pc = .ok (.lcmp, 1)) (kk : J Y Z nL Qf k (pc + 1) lo (ji (lg_cmp x y) :: rest) cs ss n sh rf I L) : J Y Z nL Qf k pc lo (jl y :: jl x :: rest) cs ss n sh rf I L :=
  fun r hr ls H locs hl hW => W.lcmp hX.1 hX.2.1 hd (kk r hr ls H locs hl hW)
theorem J_dup {v : jV} (hX : jOK Y Z own cc nL nm ret fr lw mcX msX) (hv : jcat v = 1) (hd : decode cc pc = .ok (.dup, 1)) (kk : J Y Z nL Qf k (pc + 1) lo (v :: v :: rest) cs ss n sh rf I L) : J Y Z nL Qf k pc lo (v :: rest) cs ss n sh rf I L :=
  fun r hr ls H locs hl hW => lv_dup hX.1 hX.2.1 hd ((jcat_val _ _).trans hv) (kk r hr ls H locs hl hW)
theorem J_dup_x1 {v u : jV} (hX : jOK Y Z own cc nL nm ret fr lw mcX msX) (hv : jcat v = 1) (hu : jcat u = 1) (hd : decode cc pc = .ok (.dup_x1, 1)) (kk : J Y Z nL Qf k (pc + 1) lo (v :: u :: v :: rest) cs ss n sh rf I L) : J Y Z nL Qf k pc lo (v :: u :: rest) cs ss n sh rf I L :=
  fun r hr ls H locs hl hW => lv_dup_x1 hX.1 hX.2.1 hd ((jcat_val _ _).trans hv) ((jcat_val _ _).trans hu) (kk r hr ls H locs hl hW)
theorem J_dup2 {v u : jV} (hX : jOK Y Z own cc nL nm ret fr lw mcX msX) (hv : jcat v = 1) (hu : jcat u = 1) (hd : decode cc pc = .ok (.dup2, 1)) (kk : J Y Z nL Qf k (pc + 1) lo (v :: u :: v :: u :: rest) cs ss n sh rf I L) : J Y Z nL Qf k pc lo (v :: u :: rest) cs ss n sh rf I L :=
  fun r hr ls H locs hl hW => lv_dup2_11 hX.1 hX.2.1 hd ((jcat_val _ _).trans hv) ((jcat_val _ _).trans hu) (kk r hr ls H locs hl hW)
theorem J_pop {v : jV} (hX : jOK Y Z own cc nL nm ret fr lw mcX msX) (hv : jcat v = 1) (hd : decode cc pc = .ok (.pop, 1)) (kk : J Y Z nL Qf k (pc + 1) lo rest cs ss n sh rf I L) : J Y Z nL Qf k pc lo (v :: rest) cs ss n sh rf I L :=
  fun r hr ls H locs hl hW => lv_pop hX.1 hX.2.1 hd ((jcat_val _ _).trans hv) (kk r hr ls H locs hl hW)
theorem J_null  (hX : jOK Y Z own cc nL nm ret fr lw mcX msX)  (hd : decode cc pc = .ok (.aconst_null, 1)) (kk : J Y Z nL Qf k (pc + 1) lo (jr 0 :: rest) cs ss n sh rf I L) : J Y Z nL Qf k pc lo rest cs ss n sh rf I L :=
  fun r hr ls H locs hl hW => lv_null hX.1 hX.2.1 hd (kk r hr ls H locs hl hW)
theorem J_goto {off : Int} {tgt : Nat} (hX : jOK Y Z own cc nL nm ret fr lw mcX msX) (ht : (pc : Int) + off = (tgt : Int)) (hd : decode cc pc = .ok (.goto off, 3)) (kk : J Y Z nL Qf k tgt lo rest cs ss n sh rf I L) : J Y Z nL Qf k pc lo rest cs ss n sh rf I L :=
  fun r hr ls H locs hl hW => lv_goto hX.1 hX.2.1 hd ht (kk r hr ls H locs hl hW)
theorem J_if_eq {x : Int32} {off : Int} {tgt : Nat} {k1 k2 : Option ρ} (hX : jOK Y Z own cc nL nm ret fr lw mcX msX) (ht : (pc : Int) + off = (tgt : Int)) (hd : decode cc pc = .ok (.ifCond .eq off, 3)) (kt : x = 0 → J Y Z nL Qf k1 tgt lo rest cs ss n sh rf I L) (kf : ¬ (x = 0) → J Y Z nL Qf k2 (pc + 3) lo rest cs ss n sh rf I L) : J Y Z nL Qf (if x = 0 then k1 else k2) pc lo (ji x :: rest) cs ss n sh rf I L := by
  intro r hr ls H locs hl hW
  refine lv_if_eq hX.1 hX.2.1 hd ht (fun h => ?_) (fun h => ?_)
  · rw [if_pos h] at hr; exact kt h r hr ls H locs hl hW
  · rw [if_neg h] at hr; exact kf h r hr ls H locs hl hW
theorem J_if_eqV {α : Type} {a1 a2 : α} {f : α → Option ρ} {x : Int32} {off : Int} {tgt : Nat} (hX : jOK Y Z own cc nL nm ret fr lw mcX msX) (ht : (pc : Int) + off = (tgt : Int)) (hd : decode cc pc = .ok (.ifCond .eq off, 3)) (kt : x = 0 → J Y Z nL Qf (jlet a1 f) tgt lo rest cs ss n sh rf I L) (kf : ¬ (x = 0) → J Y Z nL Qf (jlet a2 f) (pc + 3) lo rest cs ss n sh rf I L) : J Y Z nL Qf (jlet (if x = 0 then a1 else a2) f) pc lo (ji x :: rest) cs ss n sh rf I L := by
  intro r hr ls H locs hl hW
  refine lv_if_eq hX.1 hX.2.1 hd ht (fun h => ?_) (fun h => ?_)
  · rw [if_pos h] at hr; exact kt h r hr ls H locs hl hW
  · rw [if_neg h] at hr; exact kf h r hr ls H locs hl hW
theorem J_if_lt {x : Int32} {off : Int} {tgt : Nat} {k1 k2 : Option ρ} (hX : jOK Y Z own cc nL nm ret fr lw mcX msX) (ht : (pc : Int) + off = (tgt : Int)) (hd : decode cc pc = .ok (.ifCond .lt off, 3)) (kt : x < 0 → J Y Z nL Qf k1 tgt lo rest cs ss n sh rf I L) (kf : ¬ (x < 0) → J Y Z nL Qf k2 (pc + 3) lo rest cs ss n sh rf I L) : J Y Z nL Qf (if x < 0 then k1 else k2) pc lo (ji x :: rest) cs ss n sh rf I L := by
  intro r hr ls H locs hl hW
  refine lv_if_lt hX.1 hX.2.1 hd ht (fun h => ?_) (fun h => ?_)
  · rw [if_pos h] at hr; exact kt h r hr ls H locs hl hW
  · rw [if_neg h] at hr; exact kf h r hr ls H locs hl hW
theorem J_if_ltV {α : Type} {a1 a2 : α} {f : α → Option ρ} {x : Int32} {off : Int} {tgt : Nat} (hX : jOK Y Z own cc nL nm ret fr lw mcX msX) (ht : (pc : Int) + off = (tgt : Int)) (hd : decode cc pc = .ok (.ifCond .lt off, 3)) (kt : x < 0 → J Y Z nL Qf (jlet a1 f) tgt lo rest cs ss n sh rf I L) (kf : ¬ (x < 0) → J Y Z nL Qf (jlet a2 f) (pc + 3) lo rest cs ss n sh rf I L) : J Y Z nL Qf (jlet (if x < 0 then a1 else a2) f) pc lo (ji x :: rest) cs ss n sh rf I L := by
  intro r hr ls H locs hl hW
  refine lv_if_lt hX.1 hX.2.1 hd ht (fun h => ?_) (fun h => ?_)
  · rw [if_pos h] at hr; exact kt h r hr ls H locs hl hW
  · rw [if_neg h] at hr; exact kf h r hr ls H locs hl hW
theorem J_if_ge {x : Int32} {off : Int} {tgt : Nat} {k1 k2 : Option ρ} (hX : jOK Y Z own cc nL nm ret fr lw mcX msX) (ht : (pc : Int) + off = (tgt : Int)) (hd : decode cc pc = .ok (.ifCond .ge off, 3)) (kt : 0 ≤ x → J Y Z nL Qf k1 tgt lo rest cs ss n sh rf I L) (kf : ¬ (0 ≤ x) → J Y Z nL Qf k2 (pc + 3) lo rest cs ss n sh rf I L) : J Y Z nL Qf (if 0 ≤ x then k1 else k2) pc lo (ji x :: rest) cs ss n sh rf I L := by
  intro r hr ls H locs hl hW
  refine lv_if_ge hX.1 hX.2.1 hd ht (fun h => ?_) (fun h => ?_)
  · rw [if_pos h] at hr; exact kt h r hr ls H locs hl hW
  · rw [if_neg h] at hr; exact kf h r hr ls H locs hl hW
theorem J_if_geV {α : Type} {a1 a2 : α} {f : α → Option ρ} {x : Int32} {off : Int} {tgt : Nat} (hX : jOK Y Z own cc nL nm ret fr lw mcX msX) (ht : (pc : Int) + off = (tgt : Int)) (hd : decode cc pc = .ok (.ifCond .ge off, 3)) (kt : 0 ≤ x → J Y Z nL Qf (jlet a1 f) tgt lo rest cs ss n sh rf I L) (kf : ¬ (0 ≤ x) → J Y Z nL Qf (jlet a2 f) (pc + 3) lo rest cs ss n sh rf I L) : J Y Z nL Qf (jlet (if 0 ≤ x then a1 else a2) f) pc lo (ji x :: rest) cs ss n sh rf I L := by
  intro r hr ls H locs hl hW
  refine lv_if_ge hX.1 hX.2.1 hd ht (fun h => ?_) (fun h => ?_)
  · rw [if_pos h] at hr; exact kt h r hr ls H locs hl hW
  · rw [if_neg h] at hr; exact kf h r hr ls H locs hl hW
theorem J_if_gt {x : Int32} {off : Int} {tgt : Nat} {k1 k2 : Option ρ} (hX : jOK Y Z own cc nL nm ret fr lw mcX msX) (ht : (pc : Int) + off = (tgt : Int)) (hd : decode cc pc = .ok (.ifCond .gt off, 3)) (kt : 0 < x → J Y Z nL Qf k1 tgt lo rest cs ss n sh rf I L) (kf : ¬ (0 < x) → J Y Z nL Qf k2 (pc + 3) lo rest cs ss n sh rf I L) : J Y Z nL Qf (if 0 < x then k1 else k2) pc lo (ji x :: rest) cs ss n sh rf I L := by
  intro r hr ls H locs hl hW
  refine lv_if_gt hX.1 hX.2.1 hd ht (fun h => ?_) (fun h => ?_)
  · rw [if_pos h] at hr; exact kt h r hr ls H locs hl hW
  · rw [if_neg h] at hr; exact kf h r hr ls H locs hl hW
theorem J_if_gtV {α : Type} {a1 a2 : α} {f : α → Option ρ} {x : Int32} {off : Int} {tgt : Nat} (hX : jOK Y Z own cc nL nm ret fr lw mcX msX) (ht : (pc : Int) + off = (tgt : Int)) (hd : decode cc pc = .ok (.ifCond .gt off, 3)) (kt : 0 < x → J Y Z nL Qf (jlet a1 f) tgt lo rest cs ss n sh rf I L) (kf : ¬ (0 < x) → J Y Z nL Qf (jlet a2 f) (pc + 3) lo rest cs ss n sh rf I L) : J Y Z nL Qf (jlet (if 0 < x then a1 else a2) f) pc lo (ji x :: rest) cs ss n sh rf I L := by
  intro r hr ls H locs hl hW
  refine lv_if_gt hX.1 hX.2.1 hd ht (fun h => ?_) (fun h => ?_)
  · rw [if_pos h] at hr; exact kt h r hr ls H locs hl hW
  · rw [if_neg h] at hr; exact kf h r hr ls H locs hl hW
theorem J_if_le {x : Int32} {off : Int} {tgt : Nat} {k1 k2 : Option ρ} (hX : jOK Y Z own cc nL nm ret fr lw mcX msX) (ht : (pc : Int) + off = (tgt : Int)) (hd : decode cc pc = .ok (.ifCond .le off, 3)) (kt : x ≤ 0 → J Y Z nL Qf k1 tgt lo rest cs ss n sh rf I L) (kf : ¬ (x ≤ 0) → J Y Z nL Qf k2 (pc + 3) lo rest cs ss n sh rf I L) : J Y Z nL Qf (if x ≤ 0 then k1 else k2) pc lo (ji x :: rest) cs ss n sh rf I L := by
  intro r hr ls H locs hl hW
  refine lv_if_le hX.1 hX.2.1 hd ht (fun h => ?_) (fun h => ?_)
  · rw [if_pos h] at hr; exact kt h r hr ls H locs hl hW
  · rw [if_neg h] at hr; exact kf h r hr ls H locs hl hW
theorem J_if_leV {α : Type} {a1 a2 : α} {f : α → Option ρ} {x : Int32} {off : Int} {tgt : Nat} (hX : jOK Y Z own cc nL nm ret fr lw mcX msX) (ht : (pc : Int) + off = (tgt : Int)) (hd : decode cc pc = .ok (.ifCond .le off, 3)) (kt : x ≤ 0 → J Y Z nL Qf (jlet a1 f) tgt lo rest cs ss n sh rf I L) (kf : ¬ (x ≤ 0) → J Y Z nL Qf (jlet a2 f) (pc + 3) lo rest cs ss n sh rf I L) : J Y Z nL Qf (jlet (if x ≤ 0 then a1 else a2) f) pc lo (ji x :: rest) cs ss n sh rf I L := by
  intro r hr ls H locs hl hW
  refine lv_if_le hX.1 hX.2.1 hd ht (fun h => ?_) (fun h => ?_)
  · rw [if_pos h] at hr; exact kt h r hr ls H locs hl hW
  · rw [if_neg h] at hr; exact kf h r hr ls H locs hl hW
theorem J_icmp_eq {x y : Int32} {off : Int} {tgt : Nat} {k1 k2 : Option ρ} (hX : jOK Y Z own cc nL nm ret fr lw mcX msX) (ht : (pc : Int) + off = (tgt : Int)) (hd : decode cc pc = .ok (.if_icmp .eq off, 3)) (kt : x = y → J Y Z nL Qf k1 tgt lo rest cs ss n sh rf I L) (kf : ¬ (x = y) → J Y Z nL Qf k2 (pc + 3) lo rest cs ss n sh rf I L) : J Y Z nL Qf (if x = y then k1 else k2) pc lo (ji y :: ji x :: rest) cs ss n sh rf I L := by
  intro r hr ls H locs hl hW
  refine lv_icmp_eq hX.1 hX.2.1 hd ht (fun h => ?_) (fun h => ?_)
  · rw [if_pos h] at hr; exact kt h r hr ls H locs hl hW
  · rw [if_neg h] at hr; exact kf h r hr ls H locs hl hW
theorem J_icmp_eqV {α : Type} {a1 a2 : α} {f : α → Option ρ} {x y : Int32} {off : Int} {tgt : Nat} (hX : jOK Y Z own cc nL nm ret fr lw mcX msX) (ht : (pc : Int) + off = (tgt : Int)) (hd : decode cc pc = .ok (.if_icmp .eq off, 3)) (kt : x = y → J Y Z nL Qf (jlet a1 f) tgt lo rest cs ss n sh rf I L) (kf : ¬ (x = y) → J Y Z nL Qf (jlet a2 f) (pc + 3) lo rest cs ss n sh rf I L) : J Y Z nL Qf (jlet (if x = y then a1 else a2) f) pc lo (ji y :: ji x :: rest) cs ss n sh rf I L := by
  intro r hr ls H locs hl hW
  refine lv_icmp_eq hX.1 hX.2.1 hd ht (fun h => ?_) (fun h => ?_)
  · rw [if_pos h] at hr; exact kt h r hr ls H locs hl hW
  · rw [if_neg h] at hr; exact kf h r hr ls H locs hl hW
theorem J_icmp_lt {x y : Int32} {off : Int} {tgt : Nat} {k1 k2 : Option ρ} (hX : jOK Y Z own cc nL nm ret fr lw mcX msX) (ht : (pc : Int) + off = (tgt : Int)) (hd : decode cc pc = .ok (.if_icmp .lt off, 3)) (kt : x < y → J Y Z nL Qf k1 tgt lo rest cs ss n sh rf I L) (kf : ¬ (x < y) → J Y Z nL Qf k2 (pc + 3) lo rest cs ss n sh rf I L) : J Y Z nL Qf (if x < y then k1 else k2) pc lo (ji y :: ji x :: rest) cs ss n sh rf I L := by
  intro r hr ls H locs hl hW
  refine lv_icmp_lt hX.1 hX.2.1 hd ht (fun h => ?_) (fun h => ?_)
  · rw [if_pos h] at hr; exact kt h r hr ls H locs hl hW
  · rw [if_neg h] at hr; exact kf h r hr ls H locs hl hW
theorem J_icmp_ltV {α : Type} {a1 a2 : α} {f : α → Option ρ} {x y : Int32} {off : Int} {tgt : Nat} (hX : jOK Y Z own cc nL nm ret fr lw mcX msX) (ht : (pc : Int) + off = (tgt : Int)) (hd : decode cc pc = .ok (.if_icmp .lt off, 3)) (kt : x < y → J Y Z nL Qf (jlet a1 f) tgt lo rest cs ss n sh rf I L) (kf : ¬ (x < y) → J Y Z nL Qf (jlet a2 f) (pc + 3) lo rest cs ss n sh rf I L) : J Y Z nL Qf (jlet (if x < y then a1 else a2) f) pc lo (ji y :: ji x :: rest) cs ss n sh rf I L := by
  intro r hr ls H locs hl hW
  refine lv_icmp_lt hX.1 hX.2.1 hd ht (fun h => ?_) (fun h => ?_)
  · rw [if_pos h] at hr; exact kt h r hr ls H locs hl hW
  · rw [if_neg h] at hr; exact kf h r hr ls H locs hl hW
theorem J_icmp_ge {x y : Int32} {off : Int} {tgt : Nat} {k1 k2 : Option ρ} (hX : jOK Y Z own cc nL nm ret fr lw mcX msX) (ht : (pc : Int) + off = (tgt : Int)) (hd : decode cc pc = .ok (.if_icmp .ge off, 3)) (kt : y ≤ x → J Y Z nL Qf k1 tgt lo rest cs ss n sh rf I L) (kf : ¬ (y ≤ x) → J Y Z nL Qf k2 (pc + 3) lo rest cs ss n sh rf I L) : J Y Z nL Qf (if y ≤ x then k1 else k2) pc lo (ji y :: ji x :: rest) cs ss n sh rf I L := by
  intro r hr ls H locs hl hW
  refine lv_icmp_ge hX.1 hX.2.1 hd ht (fun h => ?_) (fun h => ?_)
  · rw [if_pos h] at hr; exact kt h r hr ls H locs hl hW
  · rw [if_neg h] at hr; exact kf h r hr ls H locs hl hW
theorem J_icmp_geV {α : Type} {a1 a2 : α} {f : α → Option ρ} {x y : Int32} {off : Int} {tgt : Nat} (hX : jOK Y Z own cc nL nm ret fr lw mcX msX) (ht : (pc : Int) + off = (tgt : Int)) (hd : decode cc pc = .ok (.if_icmp .ge off, 3)) (kt : y ≤ x → J Y Z nL Qf (jlet a1 f) tgt lo rest cs ss n sh rf I L) (kf : ¬ (y ≤ x) → J Y Z nL Qf (jlet a2 f) (pc + 3) lo rest cs ss n sh rf I L) : J Y Z nL Qf (jlet (if y ≤ x then a1 else a2) f) pc lo (ji y :: ji x :: rest) cs ss n sh rf I L := by
  intro r hr ls H locs hl hW
  refine lv_icmp_ge hX.1 hX.2.1 hd ht (fun h => ?_) (fun h => ?_)
  · rw [if_pos h] at hr; exact kt h r hr ls H locs hl hW
  · rw [if_neg h] at hr; exact kf h r hr ls H locs hl hW
theorem J_icmp_gt {x y : Int32} {off : Int} {tgt : Nat} {k1 k2 : Option ρ} (hX : jOK Y Z own cc nL nm ret fr lw mcX msX) (ht : (pc : Int) + off = (tgt : Int)) (hd : decode cc pc = .ok (.if_icmp .gt off, 3)) (kt : y < x → J Y Z nL Qf k1 tgt lo rest cs ss n sh rf I L) (kf : ¬ (y < x) → J Y Z nL Qf k2 (pc + 3) lo rest cs ss n sh rf I L) : J Y Z nL Qf (if y < x then k1 else k2) pc lo (ji y :: ji x :: rest) cs ss n sh rf I L := by
  intro r hr ls H locs hl hW
  refine lv_icmp_gt hX.1 hX.2.1 hd ht (fun h => ?_) (fun h => ?_)
  · rw [if_pos h] at hr; exact kt h r hr ls H locs hl hW
  · rw [if_neg h] at hr; exact kf h r hr ls H locs hl hW
theorem J_icmp_gtV {α : Type} {a1 a2 : α} {f : α → Option ρ} {x y : Int32} {off : Int} {tgt : Nat} (hX : jOK Y Z own cc nL nm ret fr lw mcX msX) (ht : (pc : Int) + off = (tgt : Int)) (hd : decode cc pc = .ok (.if_icmp .gt off, 3)) (kt : y < x → J Y Z nL Qf (jlet a1 f) tgt lo rest cs ss n sh rf I L) (kf : ¬ (y < x) → J Y Z nL Qf (jlet a2 f) (pc + 3) lo rest cs ss n sh rf I L) : J Y Z nL Qf (jlet (if y < x then a1 else a2) f) pc lo (ji y :: ji x :: rest) cs ss n sh rf I L := by
  intro r hr ls H locs hl hW
  refine lv_icmp_gt hX.1 hX.2.1 hd ht (fun h => ?_) (fun h => ?_)
  · rw [if_pos h] at hr; exact kt h r hr ls H locs hl hW
  · rw [if_neg h] at hr; exact kf h r hr ls H locs hl hW
theorem J_icmp_le {x y : Int32} {off : Int} {tgt : Nat} {k1 k2 : Option ρ} (hX : jOK Y Z own cc nL nm ret fr lw mcX msX) (ht : (pc : Int) + off = (tgt : Int)) (hd : decode cc pc = .ok (.if_icmp .le off, 3)) (kt : x ≤ y → J Y Z nL Qf k1 tgt lo rest cs ss n sh rf I L) (kf : ¬ (x ≤ y) → J Y Z nL Qf k2 (pc + 3) lo rest cs ss n sh rf I L) : J Y Z nL Qf (if x ≤ y then k1 else k2) pc lo (ji y :: ji x :: rest) cs ss n sh rf I L := by
  intro r hr ls H locs hl hW
  refine lv_icmp_le hX.1 hX.2.1 hd ht (fun h => ?_) (fun h => ?_)
  · rw [if_pos h] at hr; exact kt h r hr ls H locs hl hW
  · rw [if_neg h] at hr; exact kf h r hr ls H locs hl hW
theorem J_icmp_leV {α : Type} {a1 a2 : α} {f : α → Option ρ} {x y : Int32} {off : Int} {tgt : Nat} (hX : jOK Y Z own cc nL nm ret fr lw mcX msX) (ht : (pc : Int) + off = (tgt : Int)) (hd : decode cc pc = .ok (.if_icmp .le off, 3)) (kt : x ≤ y → J Y Z nL Qf (jlet a1 f) tgt lo rest cs ss n sh rf I L) (kf : ¬ (x ≤ y) → J Y Z nL Qf (jlet a2 f) (pc + 3) lo rest cs ss n sh rf I L) : J Y Z nL Qf (jlet (if x ≤ y then a1 else a2) f) pc lo (ji y :: ji x :: rest) cs ss n sh rf I L := by
  intro r hr ls H locs hl hW
  refine lv_icmp_le hX.1 hX.2.1 hd ht (fun h => ?_) (fun h => ?_)
  · rw [if_pos h] at hr; exact kt h r hr ls H locs hl hW
  · rw [if_neg h] at hr; exact kf h r hr ls H locs hl hW
theorem J_if_ne {x : Int32} {off : Int} {tgt : Nat} {k1 k2 : Option ρ} (hX : jOK Y Z own cc nL nm ret fr lw mcX msX) (ht : (pc : Int) + off = (tgt : Int)) (hd : decode cc pc = .ok (.ifCond .ne off, 3)) (kt : ¬ (x = 0) → J Y Z nL Qf k1 tgt lo rest cs ss n sh rf I L) (kf : x = 0 → J Y Z nL Qf k2 (pc + 3) lo rest cs ss n sh rf I L) : J Y Z nL Qf (if x = 0 then k2 else k1) pc lo (ji x :: rest) cs ss n sh rf I L := by
  intro r hr ls H locs hl hW
  refine lv_if_ne hX.1 hX.2.1 hd ht (fun h => ?_) (fun h => ?_)
  · rw [if_neg h] at hr; exact kt h r hr ls H locs hl hW
  · rw [if_pos h] at hr; exact kf h r hr ls H locs hl hW
theorem J_if_neV {α : Type} {a1 a2 : α} {f : α → Option ρ} {x : Int32} {off : Int} {tgt : Nat} (hX : jOK Y Z own cc nL nm ret fr lw mcX msX) (ht : (pc : Int) + off = (tgt : Int)) (hd : decode cc pc = .ok (.ifCond .ne off, 3)) (kt : ¬ (x = 0) → J Y Z nL Qf (jlet a1 f) tgt lo rest cs ss n sh rf I L) (kf : x = 0 → J Y Z nL Qf (jlet a2 f) (pc + 3) lo rest cs ss n sh rf I L) : J Y Z nL Qf (jlet (if x = 0 then a2 else a1) f) pc lo (ji x :: rest) cs ss n sh rf I L := by
  intro r hr ls H locs hl hW
  refine lv_if_ne hX.1 hX.2.1 hd ht (fun h => ?_) (fun h => ?_)
  · rw [if_neg h] at hr; exact kt h r hr ls H locs hl hW
  · rw [if_pos h] at hr; exact kf h r hr ls H locs hl hW
theorem J_icmp_ne {x y : Int32} {off : Int} {tgt : Nat} {k1 k2 : Option ρ} (hX : jOK Y Z own cc nL nm ret fr lw mcX msX) (ht : (pc : Int) + off = (tgt : Int)) (hd : decode cc pc = .ok (.if_icmp .ne off, 3)) (kt : ¬ (x = y) → J Y Z nL Qf k1 tgt lo rest cs ss n sh rf I L) (kf : x = y → J Y Z nL Qf k2 (pc + 3) lo rest cs ss n sh rf I L) : J Y Z nL Qf (if x = y then k2 else k1) pc lo (ji y :: ji x :: rest) cs ss n sh rf I L := by
  intro r hr ls H locs hl hW
  refine lv_icmp_ne hX.1 hX.2.1 hd ht (fun h => ?_) (fun h => ?_)
  · rw [if_neg h] at hr; exact kt h r hr ls H locs hl hW
  · rw [if_pos h] at hr; exact kf h r hr ls H locs hl hW
theorem J_icmp_neV {α : Type} {a1 a2 : α} {f : α → Option ρ} {x y : Int32} {off : Int} {tgt : Nat} (hX : jOK Y Z own cc nL nm ret fr lw mcX msX) (ht : (pc : Int) + off = (tgt : Int)) (hd : decode cc pc = .ok (.if_icmp .ne off, 3)) (kt : ¬ (x = y) → J Y Z nL Qf (jlet a1 f) tgt lo rest cs ss n sh rf I L) (kf : x = y → J Y Z nL Qf (jlet a2 f) (pc + 3) lo rest cs ss n sh rf I L) : J Y Z nL Qf (jlet (if x = y then a2 else a1) f) pc lo (ji y :: ji x :: rest) cs ss n sh rf I L := by
  intro r hr ls H locs hl hW
  refine lv_icmp_ne hX.1 hX.2.1 hd ht (fun h => ?_) (fun h => ?_)
  · rw [if_neg h] at hr; exact kt h r hr ls H locs hl hW
  · rw [if_pos h] at hr; exact kf h r hr ls H locs hl hW
theorem J_if_eq_t {x : Int32} {off : Int} {tgt : Nat} (hX : jOK Y Z own cc nL nm ret fr lw mcX msX) (ht : (pc : Int) + off = (tgt : Int)) (h0 : x = 0) (hd : decode cc pc = .ok (.ifCond .eq off, 3)) (kk : J Y Z nL Qf k tgt lo rest cs ss n sh rf I L) : J Y Z nL Qf k pc lo (ji x :: rest) cs ss n sh rf I L :=
  fun r hr ls H locs hl hW => lv_if_eq hX.1 hX.2.1 hd ht (fun _ => kk r hr ls H locs hl hW) (fun h => absurd h0 h)
theorem J_if_eq_f {x : Int32} {off : Int} {tgt : Nat} (hX : jOK Y Z own cc nL nm ret fr lw mcX msX) (ht : (pc : Int) + off = (tgt : Int)) (h0 : ¬ (x = 0)) (hd : decode cc pc = .ok (.ifCond .eq off, 3)) (kk : J Y Z nL Qf k (pc + 3) lo rest cs ss n sh rf I L) : J Y Z nL Qf k pc lo (ji x :: rest) cs ss n sh rf I L :=
  fun r hr ls H locs hl hW => lv_if_eq hX.1 hX.2.1 hd ht (fun h => absurd h h0) (fun _ => kk r hr ls H locs hl hW)
theorem J_if_ne_t {x : Int32} {off : Int} {tgt : Nat} (hX : jOK Y Z own cc nL nm ret fr lw mcX msX) (ht : (pc : Int) + off = (tgt : Int)) (h0 : ¬ x = 0) (hd : decode cc pc = .ok (.ifCond .ne off, 3)) (kk : J Y Z nL Qf k tgt lo rest cs ss n sh rf I L) : J Y Z nL Qf k pc lo (ji x :: rest) cs ss n sh rf I L :=
  fun r hr ls H locs hl hW => lv_if_ne hX.1 hX.2.1 hd ht (fun _ => kk r hr ls H locs hl hW) (fun h => absurd h h0)
theorem J_if_ne_f {x : Int32} {off : Int} {tgt : Nat} (hX : jOK Y Z own cc nL nm ret fr lw mcX msX) (ht : (pc : Int) + off = (tgt : Int)) (h0 : ¬ (¬ x = 0)) (hd : decode cc pc = .ok (.ifCond .ne off, 3)) (kk : J Y Z nL Qf k (pc + 3) lo rest cs ss n sh rf I L) : J Y Z nL Qf k pc lo (ji x :: rest) cs ss n sh rf I L :=
  fun r hr ls H locs hl hW => lv_if_ne hX.1 hX.2.1 hd ht (fun h => absurd h h0) (fun _ => kk r hr ls H locs hl hW)
theorem J_if_lt_t {x : Int32} {off : Int} {tgt : Nat} (hX : jOK Y Z own cc nL nm ret fr lw mcX msX) (ht : (pc : Int) + off = (tgt : Int)) (h0 : x < 0) (hd : decode cc pc = .ok (.ifCond .lt off, 3)) (kk : J Y Z nL Qf k tgt lo rest cs ss n sh rf I L) : J Y Z nL Qf k pc lo (ji x :: rest) cs ss n sh rf I L :=
  fun r hr ls H locs hl hW => lv_if_lt hX.1 hX.2.1 hd ht (fun _ => kk r hr ls H locs hl hW) (fun h => absurd h0 h)
theorem J_if_lt_f {x : Int32} {off : Int} {tgt : Nat} (hX : jOK Y Z own cc nL nm ret fr lw mcX msX) (ht : (pc : Int) + off = (tgt : Int)) (h0 : ¬ (x < 0)) (hd : decode cc pc = .ok (.ifCond .lt off, 3)) (kk : J Y Z nL Qf k (pc + 3) lo rest cs ss n sh rf I L) : J Y Z nL Qf k pc lo (ji x :: rest) cs ss n sh rf I L :=
  fun r hr ls H locs hl hW => lv_if_lt hX.1 hX.2.1 hd ht (fun h => absurd h h0) (fun _ => kk r hr ls H locs hl hW)
theorem J_if_ge_t {x : Int32} {off : Int} {tgt : Nat} (hX : jOK Y Z own cc nL nm ret fr lw mcX msX) (ht : (pc : Int) + off = (tgt : Int)) (h0 : 0 ≤ x) (hd : decode cc pc = .ok (.ifCond .ge off, 3)) (kk : J Y Z nL Qf k tgt lo rest cs ss n sh rf I L) : J Y Z nL Qf k pc lo (ji x :: rest) cs ss n sh rf I L :=
  fun r hr ls H locs hl hW => lv_if_ge hX.1 hX.2.1 hd ht (fun _ => kk r hr ls H locs hl hW) (fun h => absurd h0 h)
theorem J_if_ge_f {x : Int32} {off : Int} {tgt : Nat} (hX : jOK Y Z own cc nL nm ret fr lw mcX msX) (ht : (pc : Int) + off = (tgt : Int)) (h0 : ¬ (0 ≤ x)) (hd : decode cc pc = .ok (.ifCond .ge off, 3)) (kk : J Y Z nL Qf k (pc + 3) lo rest cs ss n sh rf I L) : J Y Z nL Qf k pc lo (ji x :: rest) cs ss n sh rf I L :=
  fun r hr ls H locs hl hW => lv_if_ge hX.1 hX.2.1 hd ht (fun h => absurd h h0) (fun _ => kk r hr ls H locs hl hW)
theorem J_if_gt_t {x : Int32} {off : Int} {tgt : Nat} (hX : jOK Y Z own cc nL nm ret fr lw mcX msX) (ht : (pc : Int) + off = (tgt : Int)) (h0 : 0 < x) (hd : decode cc pc = .ok (.ifCond .gt off, 3)) (kk : J Y Z nL Qf k tgt lo rest cs ss n sh rf I L) : J Y Z nL Qf k pc lo (ji x :: rest) cs ss n sh rf I L :=
  fun r hr ls H locs hl hW => lv_if_gt hX.1 hX.2.1 hd ht (fun _ => kk r hr ls H locs hl hW) (fun h => absurd h0 h)
theorem J_if_gt_f {x : Int32} {off : Int} {tgt : Nat} (hX : jOK Y Z own cc nL nm ret fr lw mcX msX) (ht : (pc : Int) + off = (tgt : Int)) (h0 : ¬ (0 < x)) (hd : decode cc pc = .ok (.ifCond .gt off, 3)) (kk : J Y Z nL Qf k (pc + 3) lo rest cs ss n sh rf I L) : J Y Z nL Qf k pc lo (ji x :: rest) cs ss n sh rf I L :=
  fun r hr ls H locs hl hW => lv_if_gt hX.1 hX.2.1 hd ht (fun h => absurd h h0) (fun _ => kk r hr ls H locs hl hW)
theorem J_if_le_t {x : Int32} {off : Int} {tgt : Nat} (hX : jOK Y Z own cc nL nm ret fr lw mcX msX) (ht : (pc : Int) + off = (tgt : Int)) (h0 : x ≤ 0) (hd : decode cc pc = .ok (.ifCond .le off, 3)) (kk : J Y Z nL Qf k tgt lo rest cs ss n sh rf I L) : J Y Z nL Qf k pc lo (ji x :: rest) cs ss n sh rf I L :=
  fun r hr ls H locs hl hW => lv_if_le hX.1 hX.2.1 hd ht (fun _ => kk r hr ls H locs hl hW) (fun h => absurd h0 h)
theorem J_if_le_f {x : Int32} {off : Int} {tgt : Nat} (hX : jOK Y Z own cc nL nm ret fr lw mcX msX) (ht : (pc : Int) + off = (tgt : Int)) (h0 : ¬ (x ≤ 0)) (hd : decode cc pc = .ok (.ifCond .le off, 3)) (kk : J Y Z nL Qf k (pc + 3) lo rest cs ss n sh rf I L) : J Y Z nL Qf k pc lo (ji x :: rest) cs ss n sh rf I L :=
  fun r hr ls H locs hl hW => lv_if_le hX.1 hX.2.1 hd ht (fun h => absurd h h0) (fun _ => kk r hr ls H locs hl hW)
theorem J_icmp_eq_t {x y : Int32} {off : Int} {tgt : Nat} (hX : jOK Y Z own cc nL nm ret fr lw mcX msX) (ht : (pc : Int) + off = (tgt : Int)) (h0 : x = y) (hd : decode cc pc = .ok (.if_icmp .eq off, 3)) (kk : J Y Z nL Qf k tgt lo rest cs ss n sh rf I L) : J Y Z nL Qf k pc lo (ji y :: ji x :: rest) cs ss n sh rf I L :=
  fun r hr ls H locs hl hW => lv_icmp_eq hX.1 hX.2.1 hd ht (fun _ => kk r hr ls H locs hl hW) (fun h => absurd h0 h)
theorem J_icmp_eq_f {x y : Int32} {off : Int} {tgt : Nat} (hX : jOK Y Z own cc nL nm ret fr lw mcX msX) (ht : (pc : Int) + off = (tgt : Int)) (h0 : ¬ (x = y)) (hd : decode cc pc = .ok (.if_icmp .eq off, 3)) (kk : J Y Z nL Qf k (pc + 3) lo rest cs ss n sh rf I L) : J Y Z nL Qf k pc lo (ji y :: ji x :: rest) cs ss n sh rf I L :=
  fun r hr ls H locs hl hW => lv_icmp_eq hX.1 hX.2.1 hd ht (fun h => absurd h h0) (fun _ => kk r hr ls H locs hl hW)
theorem J_icmp_ne_t {x y : Int32} {off : Int} {tgt : Nat} (hX : jOK Y Z own cc nL nm ret fr lw mcX msX) (ht : (pc : Int) + off = (tgt : Int)) (h0 : ¬ x = y) (hd : decode cc pc = .ok (.if_icmp .ne off, 3)) (kk : J Y Z nL Qf k tgt lo rest cs ss n sh rf I L) : J Y Z nL Qf k pc lo (ji y :: ji x :: rest) cs ss n sh rf I L :=
  fun r hr ls H locs hl hW => lv_icmp_ne hX.1 hX.2.1 hd ht (fun _ => kk r hr ls H locs hl hW) (fun h => absurd h h0)
theorem J_icmp_ne_f {x y : Int32} {off : Int} {tgt : Nat} (hX : jOK Y Z own cc nL nm ret fr lw mcX msX) (ht : (pc : Int) + off = (tgt : Int)) (h0 : ¬ (¬ x = y)) (hd : decode cc pc = .ok (.if_icmp .ne off, 3)) (kk : J Y Z nL Qf k (pc + 3) lo rest cs ss n sh rf I L) : J Y Z nL Qf k pc lo (ji y :: ji x :: rest) cs ss n sh rf I L :=
  fun r hr ls H locs hl hW => lv_icmp_ne hX.1 hX.2.1 hd ht (fun h => absurd h h0) (fun _ => kk r hr ls H locs hl hW)
theorem J_icmp_lt_t {x y : Int32} {off : Int} {tgt : Nat} (hX : jOK Y Z own cc nL nm ret fr lw mcX msX) (ht : (pc : Int) + off = (tgt : Int)) (h0 : x < y) (hd : decode cc pc = .ok (.if_icmp .lt off, 3)) (kk : J Y Z nL Qf k tgt lo rest cs ss n sh rf I L) : J Y Z nL Qf k pc lo (ji y :: ji x :: rest) cs ss n sh rf I L :=
  fun r hr ls H locs hl hW => lv_icmp_lt hX.1 hX.2.1 hd ht (fun _ => kk r hr ls H locs hl hW) (fun h => absurd h0 h)
theorem J_icmp_lt_f {x y : Int32} {off : Int} {tgt : Nat} (hX : jOK Y Z own cc nL nm ret fr lw mcX msX) (ht : (pc : Int) + off = (tgt : Int)) (h0 : ¬ (x < y)) (hd : decode cc pc = .ok (.if_icmp .lt off, 3)) (kk : J Y Z nL Qf k (pc + 3) lo rest cs ss n sh rf I L) : J Y Z nL Qf k pc lo (ji y :: ji x :: rest) cs ss n sh rf I L :=
  fun r hr ls H locs hl hW => lv_icmp_lt hX.1 hX.2.1 hd ht (fun h => absurd h h0) (fun _ => kk r hr ls H locs hl hW)
theorem J_icmp_ge_t {x y : Int32} {off : Int} {tgt : Nat} (hX : jOK Y Z own cc nL nm ret fr lw mcX msX) (ht : (pc : Int) + off = (tgt : Int)) (h0 : y ≤ x) (hd : decode cc pc = .ok (.if_icmp .ge off, 3)) (kk : J Y Z nL Qf k tgt lo rest cs ss n sh rf I L) : J Y Z nL Qf k pc lo (ji y :: ji x :: rest) cs ss n sh rf I L :=
  fun r hr ls H locs hl hW => lv_icmp_ge hX.1 hX.2.1 hd ht (fun _ => kk r hr ls H locs hl hW) (fun h => absurd h0 h)
theorem J_icmp_ge_f {x y : Int32} {off : Int} {tgt : Nat} (hX : jOK Y Z own cc nL nm ret fr lw mcX msX) (ht : (pc : Int) + off = (tgt : Int)) (h0 : ¬ (y ≤ x)) (hd : decode cc pc = .ok (.if_icmp .ge off, 3)) (kk : J Y Z nL Qf k (pc + 3) lo rest cs ss n sh rf I L) : J Y Z nL Qf k pc lo (ji y :: ji x :: rest) cs ss n sh rf I L :=
  fun r hr ls H locs hl hW => lv_icmp_ge hX.1 hX.2.1 hd ht (fun h => absurd h h0) (fun _ => kk r hr ls H locs hl hW)
theorem J_icmp_gt_t {x y : Int32} {off : Int} {tgt : Nat} (hX : jOK Y Z own cc nL nm ret fr lw mcX msX) (ht : (pc : Int) + off = (tgt : Int)) (h0 : y < x) (hd : decode cc pc = .ok (.if_icmp .gt off, 3)) (kk : J Y Z nL Qf k tgt lo rest cs ss n sh rf I L) : J Y Z nL Qf k pc lo (ji y :: ji x :: rest) cs ss n sh rf I L :=
  fun r hr ls H locs hl hW => lv_icmp_gt hX.1 hX.2.1 hd ht (fun _ => kk r hr ls H locs hl hW) (fun h => absurd h0 h)
theorem J_icmp_gt_f {x y : Int32} {off : Int} {tgt : Nat} (hX : jOK Y Z own cc nL nm ret fr lw mcX msX) (ht : (pc : Int) + off = (tgt : Int)) (h0 : ¬ (y < x)) (hd : decode cc pc = .ok (.if_icmp .gt off, 3)) (kk : J Y Z nL Qf k (pc + 3) lo rest cs ss n sh rf I L) : J Y Z nL Qf k pc lo (ji y :: ji x :: rest) cs ss n sh rf I L :=
  fun r hr ls H locs hl hW => lv_icmp_gt hX.1 hX.2.1 hd ht (fun h => absurd h h0) (fun _ => kk r hr ls H locs hl hW)
theorem J_icmp_le_t {x y : Int32} {off : Int} {tgt : Nat} (hX : jOK Y Z own cc nL nm ret fr lw mcX msX) (ht : (pc : Int) + off = (tgt : Int)) (h0 : x ≤ y) (hd : decode cc pc = .ok (.if_icmp .le off, 3)) (kk : J Y Z nL Qf k tgt lo rest cs ss n sh rf I L) : J Y Z nL Qf k pc lo (ji y :: ji x :: rest) cs ss n sh rf I L :=
  fun r hr ls H locs hl hW => lv_icmp_le hX.1 hX.2.1 hd ht (fun _ => kk r hr ls H locs hl hW) (fun h => absurd h0 h)
theorem J_icmp_le_f {x y : Int32} {off : Int} {tgt : Nat} (hX : jOK Y Z own cc nL nm ret fr lw mcX msX) (ht : (pc : Int) + off = (tgt : Int)) (h0 : ¬ (x ≤ y)) (hd : decode cc pc = .ok (.if_icmp .le off, 3)) (kk : J Y Z nL Qf k (pc + 3) lo rest cs ss n sh rf I L) : J Y Z nL Qf k pc lo (ji y :: ji x :: rest) cs ss n sh rf I L :=
  fun r hr ls H locs hl hW => lv_icmp_le hX.1 hX.2.1 hd ht (fun h => absurd h h0) (fun _ => kk r hr ls H locs hl hW)
theorem J_ifnull {x : Nat} {off : Int} {tgt : Nat} {k1 k2 : Option ρ} (hX : jOK Y Z own cc nL nm ret fr lw mcX msX) (ht : (pc : Int) + off = (tgt : Int)) (hd : decode cc pc = .ok (.ifnull off, 3)) (kt : x = 0 → J Y Z nL Qf k1 tgt lo rest cs ss n sh rf I L) (kf : ¬ x = 0 → J Y Z nL Qf k2 (pc + 3) lo rest cs ss n sh rf I L) : J Y Z nL Qf (if x = 0 then k1 else k2) pc lo (jr x :: rest) cs ss n sh rf I L := by
  intro r hr ls H locs hl hW
  show W Z.p Y.l Z.e Z.R Z.s Z.m Z.a Z.w Z.meth Z.c H locs cs ss (Qf r) (F0 Z.m pc ls (jref Y.b x :: rest.map (jval Y.b)))
  unfold jref
  by_cases h0 : x = 0
  · rw [if_pos h0] at hr ⊢; exact lv_ifnullN hX.1 hX.2.1 hd ht (kt h0 r hr ls H locs hl hW)
  · rw [if_neg h0] at hr ⊢; exact lv_ifnull hX.1 hX.2.1 hd (kf h0 r hr ls H locs hl hW)
theorem J_ifnonnull {x : Nat} {off : Int} {tgt : Nat} {k1 k2 : Option ρ} (hX : jOK Y Z own cc nL nm ret fr lw mcX msX) (ht : (pc : Int) + off = (tgt : Int)) (hd : decode cc pc = .ok (.ifnonnull off, 3)) (kt : ¬ x = 0 → J Y Z nL Qf k1 tgt lo rest cs ss n sh rf I L) (kf : x = 0 → J Y Z nL Qf k2 (pc + 3) lo rest cs ss n sh rf I L) : J Y Z nL Qf (if x = 0 then k2 else k1) pc lo (jr x :: rest) cs ss n sh rf I L := by
  intro r hr ls H locs hl hW
  show W Z.p Y.l Z.e Z.R Z.s Z.m Z.a Z.w Z.meth Z.c H locs cs ss (Qf r) (F0 Z.m pc ls (jref Y.b x :: rest.map (jval Y.b)))
  unfold jref
  by_cases h0 : x = 0
  · rw [if_pos h0] at hr ⊢; exact lv_ifnonnullN hX.1 hX.2.1 hd (kf h0 r hr ls H locs hl hW)
  · rw [if_neg h0] at hr ⊢; exact lv_ifnonnull hX.1 hX.2.1 hd ht (kt h0 r hr ls H locs hl hW)
theorem J_swOut {dflt a0 a1 : Int} {offs : Array Int} {len tgt : Nat} {x : Int32} (hX : jOK Y Z own cc nL nm ret fr lw mcX msX) (ht : (pc : Int) + dflt = (tgt : Int)) (h : x.toInt < a0 ∨ a1 < x.toInt) (hd : decode cc pc = .ok (.tableswitch dflt a0 a1 offs, len)) (kk : J Y Z nL Qf k tgt lo rest cs ss n sh rf I L) : J Y Z nL Qf k pc lo (ji x :: rest) cs ss n sh rf I L :=
  fun r hr ls H locs hl hW => lv_tableOut hX.1 hX.2.1 hd h ht (kk r hr ls H locs hl hW)
theorem J_swIn {dflt a0 a1 : Int} {offs : Array Int} {len tgt : Nat} {off : Int} {x : Int32} (hX : jOK Y Z own cc nL nm ret fr lw mcX msX) (c : Int32) (hx : x = c) (h1 : ¬ c.toInt < a0) (h2 : ¬ a1 < c.toInt) (ho : offs[(c.toInt - a0).toNat]? = some off) (ht : (pc : Int) + off = (tgt : Int)) (hd : decode cc pc = .ok (.tableswitch dflt a0 a1 offs, len)) (kk : J Y Z nL Qf k tgt lo rest cs ss n sh rf I L) : J Y Z nL Qf k pc lo (ji x :: rest) cs ss n sh rf I L :=
  fun r hr ls H locs hl hW => lv_tableIn hX.1 hX.2.1 hd (by rw [hx]; exact h1) (by rw [hx]; exact h2) (by rw [hx]; exact ho) ht (kk r hr ls H locs hl hW)
end ROWS
