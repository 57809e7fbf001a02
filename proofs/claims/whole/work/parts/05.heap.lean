section HEAPROWS
variable {ρ : Type} {Y : jY} {Z : jZ} {nL : Nat} {Qf : ρ → State → Prop} {k : Option ρ} {pc : Nat} {lo lo' : List (Nat × jV)} {st rest : List jV} {cs ss n : Nat} {sh : jS} {rf : jR} {I : jI} {L : jL} {own nm : String} {cc : ByteArray} {ret : Option FieldType} {fr lw mcX msX : Nat}
theorem jref_nz (b : Nat) {r : Nat} (h : r ≠ 0) : jref b r = .ref (b + r) := by
  unfold jref
  rw [if_neg h]
theorem jW.pos {D : va_G} {tc : Nat → ClassId} {b n : Nat} {sh : jS} {rf : jR} {I : jI} {L : jL} {H : Heap} (h : jW D tc b n sh rf I L H) {r c : Nat} (hs : sh r = c) (hc : c ≠ 0) : r ≠ 0 := by
  have := ((h.1 r).mp (by rw [hs]; exact hc)).1
  omega
theorem jW.obj {D : va_G} {tc : Nat → ClassId} {b n : Nat} {sh : jS} {rf : jR} {I : jI} {L : jL} {H : Heap} (h : jW D tc b n sh rf I L H) {r ci : Nat} (hs : sh r = ci + 1) (hc : ci + 1 < 1000) : (jws tc b n sh rf I L)[r - 1]? = some (b + r, .inr (ci, jfs b ci (rf r) (I r))) := by
  have h1 := h.place (r := r) (by rw [hs]; omega)
  rw [hs, jcell_o hc] at h1
  exact h1
/-- a field read: of class ci, the kf-th -/
theorem J_get {idx kf r ci N : Nat} {C ref : String} {T : u_T} {v : jV} (hX : jOK Y Z own cc nL nm ret fr lw mcX msX) (hc : vwCl[ci]? = some (C, T, N)) (hin : ∀ w ∈ u_ws C T N, w ∈ wsU) (hk : kf < N ∧ kf < jfn ci ∧ ci + 1 < 1000) (hw : Cond.fieldLink own idx ref (T kf).2.1 (T kf).2.2.1 ∈ wsU) (href : (T kf).1 = ref)
    (hs : sh r = ci + 1) (hv : v = if jfr ci kf = true then jr (rf r kf) else ji (I r kf)) (hd : decode cc pc = .ok (.getfield idx, 3)) (kk : J Y Z nL Qf k (pc + 3) lo (v :: rest) cs ss n sh rf I L) : J Y Z nL Qf k pc lo (jr r :: rest) cs ss n sh rf I L := by
  intro r' hr ls H locs hl hW
  have e : jref Y.b r = .ref (Y.b + r) := jref_nz _ (hW.1.pos hs (by omega))
  show W Z.p Y.l Z.e Z.R Z.s Z.m Z.a Z.w Z.meth Z.c H locs cs ss (Qf r') (F0 Z.m pc ls (jref Y.b r :: rest.map (jval Y.b)))
  rw [e]
  refine va_get (D := Y.D) (cl := vwCl) (tys := jtys Y.tc) hX.1 hX.2.1 hX.2.2.2.2.1 hin hX.2.2.2.1 hX.2.2.2.2.2.2.2.2.1 hW.1.P (r - 1) (hW.1.obj hs hk.2.2) hc kf hk.1 (hX.2.2.2.2.1 _ hw) (by rw [href]; exact fun _ h => h) (v := jval Y.b v) ?_ hd (kk r' hr ls H locs hl hW)
  rw [jfs_get hk.2.1, hv]
  split <;> rfl
theorem jput_core {idx kf r ci N : Nat} {C ref : String} {T : u_T} {ty0 : Nat → FieldType} {v : Value} {ty : FieldType} {rf' : Nat → Nat} {I' : Nat → Int32} {Q : State → Prop} {ls : Array Slot} {H : Heap} {locs : List Loc} {rs : List Value} (hX : jOK Y Z own cc nL nm ret fr lw mcX msX) (hc : vwCl[ci]? = some (C, T, N)) (hin : ∀ w ∈ u_ws C T N, w ∈ wsU) (hk : kf < N ∧ kf < jfn ci ∧ ci + 1 < 1000)
    (hty : ∀ k, k < N → parseFieldDescriptor (T k).2.2.1 = some (ty0 k)) (hnm : ∀ a, a < N → ∀ b, b < N → a ≠ b → (T a).2.1 ≠ (T b).2.1) (hw : Cond.fieldLink own idx ref (T kf).2.1 (T kf).2.2.1 ∈ wsU) (href : (T kf).1 = ref) (hfin : (T kf).2.2.2 = false ∨ ((T kf).2.2.2 = true ∧ nm = "<init>" ∧ ref = own)) (hdd : parseFieldDescriptor (T kf).2.2.1 = some ty) (hnv : narrow ty v = v) (hfit : fits ty v = true)
    (hs : sh r = ci + 1) (hset : (jfs Y.b ci (rf r) (I r)).set kf v = jfs Y.b ci rf' I') (hd : decode cc pc = .ok (.putfield idx, 3)) (hW : jWz Y Z locs n sh rf I L H)
    (kk : ∀ H1 locs1, jWz Y Z locs1 n sh (jrow rf r rf') (jrow I r I') L H1 → W Z.p Y.l Z.e Z.R Z.s Z.m Z.a Z.w Z.meth Z.c H1 locs1 cs ss Q (F0 Z.m (pc + 3) ls rs)) : W Z.p Y.l Z.e Z.R Z.s Z.m Z.a Z.w Z.meth Z.c H locs cs ss Q (F0 Z.m pc ls (v :: .ref (Y.b + r) :: rs)) := by
  obtain ⟨hx, hb, -, hown, hts, -, -, hname, hK, -⟩ := hX
  have hap := va_apart (own := own) hts hin ty0 hty hnm hK hc
  have hr0 : sh r ≠ 0 := by omega
  have hat := hW.1.2 r hr0
  rw [hs, jcell_o hk.2.2] at hat
  obtain ⟨rr, h1, cell, q1, q2, q3, q4⟩ := hat
  have hrr : rr = (C, T, N) := Option.some.inj (h1.symm.trans hc)
  subst hrr
  obtain ⟨hS, hfc, kC, hkC, hkind⟩ := hK.1 ci _ hc
  obtain ⟨cf, kfc, fi, f, hi, hsl⟩ := hS kf hk.1
  have hlay := hts _ (hin _ (u_in_lay hk.1))
  have hst := (u_facts hfc hkC (u_lays hts hin hk.1) hi).1
  have hi2 : Z.s.fieldFound? ref (T kf).2.1 (T kf).2.2.1 = some (cf, kfc, fi, f) := by rw [← href]; exact hi
  have fin : ∀ H' : Heap, H'[Y.b + r]? = some (cell.setSlot f.slot v) → H'.size = H.size → (∀ q, q ≠ Y.b + r → H'[q]? = H[q]?) → W Z.p Y.l Z.e Z.R Z.s Z.m Z.a Z.w Z.meth Z.c H' (locs ++ [⟨Y.b + r, f.slot⟩]) cs ss Q (F0 Z.m (pc + 3) ls rs) := by
    intro H' e1 e2 e3
    have hrb := ((hW.1.1 r).mp hr0).1
    refine kk H' _ ⟨hW.1.put (r := r) ?_ e3 (fun a ha => ⟨jrow_ne _ _ ha, jrow_ne _ _ ha, rfl⟩), hW.2.1.put e2 e3 (by show Y.b + 1 ≤ Y.b + r; omega), fun z => by rw [e2]; exact hW.2.2 z⟩
    rw [hs, jcell_o hk.2.2, jrow_self, jrow_self]
    show ∃ r9 : vw_C, vwCl[ci]? = some r9 ∧ t_OB (Y.b + r) (Y.D.1 ci) r9.2.2 (Y.D.2 ci) H' (vp_V (jfs Y.b ci rf' I'))
    rw [← hset]
    rw [hsl] at e1
    exact ⟨_, hc, t_OB.to (V := updV (vp_V _) kf v) ⟨_, e1, q2, q3, t_set q4 hap hk.1 v⟩ (fun j _ => vp_updV_set (by rw [jfs_length]; exact hk.2.1) v j)⟩
  rcases hfin with hfin | ⟨hfin, hnm2, hro⟩
  · unfold u_lay at hlay
    rw [if_neg (by rw [hfin]; decide)] at hlay
    have h6 := u_store hfc hkC hkind hlay hi hdd hnv hfit
    exact W.putK hx hb (f := f) ⟨hown, hts _ hw, ⟨_, _, _, hi2⟩, hst⟩ (by rw [q2]; exact h6) q1 q3 (by rw [hsl]; exact k2_hasslot (q4 kf hk.1)) rfl rfl hd fin
  · unfold u_lay at hlay
    rw [if_pos hfin] at hlay
    have hcf : Z.m.cls = cf := by
      obtain ⟨_, _, c', _, _, _, -, -, hf', -, -, -, hown2, -⟩ := Cond.laysFinal_spec hlay
      have e1 : c' = cf := by have := hi.symm.trans hf'; simp at this; exact this.1.symm
      rw [href, hro] at hown2
      rw [← e1]; exact Option.some.inj (hown.symm.trans hown2)
    have h6 := u_fits hfc hkC hkind (Or.inr hlay) hi hdd hnv hfit
    exact W.putFinK hx hb hown (hts _ hw) hi2 hst hcf (hname.trans hnm2) (by rw [q2]; exact h6) q1 q3 (by rw [hsl]; exact k2_hasslot (q4 kf hk.1)) rfl rfl hd fin
theorem J_puti {idx kf r ci N : Nat} {C ref : String} {T : u_T} {ty0 : Nat → FieldType} {ty : FieldType} {x : Int32} {f : jI → Option ρ} (hX : jOK Y Z own cc nL nm ret fr lw mcX msX) (hc : vwCl[ci]? = some (C, T, N)) (hin : ∀ w ∈ u_ws C T N, w ∈ wsU) (hk : kf < N ∧ kf < jfn ci ∧ ci + 1 < 1000)
    (hty : ∀ k, k < N → parseFieldDescriptor (T k).2.2.1 = some (ty0 k)) (hnm : ∀ a, a < N → ∀ b, b < N → a ≠ b → (T a).2.1 ≠ (T b).2.1) (hw : Cond.fieldLink own idx ref (T kf).2.1 (T kf).2.2.1 ∈ wsU) (href : (T kf).1 = ref) (hfin : (T kf).2.2.2 = false ∨ ((T kf).2.2.2 = true ∧ nm = "<init>" ∧ ref = own)) (hdd : parseFieldDescriptor (T kf).2.2.1 = some ty) (hf : jfr ci kf = false)
    (hnv : narrow ty (.int x) = .int x) (hfit : fits ty (.int x) = true) (hs : sh r = ci + 1) (hd : decode cc pc = .ok (.putfield idx, 3)) (kk : ∀ I1, J Y Z nL Qf (f I1) (pc + 3) lo rest cs ss n sh rf I1 L) : J Y Z nL Qf (jlet (jup I r kf x) f) pc lo (ji x :: jr r :: rest) cs ss n sh rf I L := by
  intro r' hr ls H locs hl hW
  have e : jref Y.b r = .ref (Y.b + r) := jref_nz _ (hW.1.pos hs (by omega))
  show W Z.p Y.l Z.e Z.R Z.s Z.m Z.a Z.w Z.meth Z.c H locs cs ss (Qf r') (F0 Z.m pc ls (.int x :: jref Y.b r :: rest.map (jval Y.b)))
  rw [e]
  refine jput_core hX hc hin hk hty hnm hw href hfin hdd hnv hfit hs (rf' := rf r) (I' := ju1 (I r) kf x) (jfs_setI hf) hd hW (fun H1 locs1 h1 => kk _ r' hr ls H1 locs1 hl ?_)
  have e2 : jrow rf r (rf r) = rf := by
    funext a
    unfold jrow
    split
    · next h => rw [h]
    · rfl
  rw [e2] at h1
  exact h1
theorem J_putr {idx kf r x ci N : Nat} {C ref : String} {T : u_T} {ty0 : Nat → FieldType} {ty : FieldType} {f : jR → Option ρ} (hX : jOK Y Z own cc nL nm ret fr lw mcX msX) (hc : vwCl[ci]? = some (C, T, N)) (hin : ∀ w ∈ u_ws C T N, w ∈ wsU) (hk : kf < N ∧ kf < jfn ci ∧ ci + 1 < 1000)
    (hty : ∀ k, k < N → parseFieldDescriptor (T k).2.2.1 = some (ty0 k)) (hnm : ∀ a, a < N → ∀ b, b < N → a ≠ b → (T a).2.1 ≠ (T b).2.1) (hw : Cond.fieldLink own idx ref (T kf).2.1 (T kf).2.2.1 ∈ wsU) (href : (T kf).1 = ref) (hfin : (T kf).2.2.2 = false ∨ ((T kf).2.2.2 = true ∧ nm = "<init>" ∧ ref = own)) (hdd : parseFieldDescriptor (T kf).2.2.1 = some ty) (hf : jfr ci kf = true)
    (hnv : ∀ a, narrow ty (.ref a) = .ref a) (hfit : ∀ a, fits ty (.ref a) = true) (hs : sh r = ci + 1) (hx0 : sh x ≠ 0) (hd : decode cc pc = .ok (.putfield idx, 3)) (kk : ∀ rf1, J Y Z nL Qf (f rf1) (pc + 3) lo rest cs ss n sh rf1 I L) : J Y Z nL Qf (jlet (jup rf r kf x) f) pc lo (jr x :: jr r :: rest) cs ss n sh rf I L := by
  intro r' hr ls H locs hl hW
  have e : jref Y.b r = .ref (Y.b + r) := jref_nz _ (hW.1.pos hs (by omega))
  have e0 : jref Y.b x = .ref (Y.b + x) := jref_nz _ (hW.1.pos rfl hx0)
  show W Z.p Y.l Z.e Z.R Z.s Z.m Z.a Z.w Z.meth Z.c H locs cs ss (Qf r') (F0 Z.m pc ls (jref Y.b x :: jref Y.b r :: rest.map (jval Y.b)))
  rw [e, e0]
  refine jput_core hX hc hin hk hty hnm hw href hfin hdd (hnv _) (hfit _) hs (rf' := ju1 (rf r) kf x) (I' := I r) (by rw [← e0]; exact jfs_setR hf) hd hW (fun H1 locs1 h1 => kk _ r' hr ls H1 locs1 hl ?_)
  have e2 : jrow I r (I r) = I := by
    funext a
    unfold jrow
    split
    · next h => rw [h]
    · rfl
  rw [e2] at h1
  exact h1
/-- arrays: reads -/
theorem jW.arrI {D : va_G} {tc : Nat → ClassId} {b n : Nat} {sh : jS} {rf : jR} {I : jI} {L : jL} {H : Heap} (h : jW D tc b n sh rf I L H) {r c N : Nat} (hs : sh r = c) (hc : c / 1000 = 1 ∧ c % 1000 = N) : (jws tc b n sh rf I L)[r - 1]? = some (b + r, .inl (tc 0, N, .inl (I r))) := by
  have h1 := h.place (r := r) (by rw [hs]; omega)
  rw [hs, jcell_i hc.1, hc.2] at h1
  exact h1
theorem jW.arrZ {D : va_G} {tc : Nat → ClassId} {b n : Nat} {sh : jS} {rf : jR} {I : jI} {L : jL} {H : Heap} (h : jW D tc b n sh rf I L H) {r c N : Nat} (hs : sh r = c) (hc : c / 1000 = 2 ∧ c % 1000 = N) : (jws tc b n sh rf I L)[r - 1]? = some (b + r, .inl (tc 1, N, .inl (I r))) := by
  have h1 := h.place (r := r) (by rw [hs]; omega)
  rw [hs, jcell_z hc.1, hc.2] at h1
  exact h1
theorem jW.arrL {D : va_G} {tc : Nat → ClassId} {b n : Nat} {sh : jS} {rf : jR} {I : jI} {L : jL} {H : Heap} (h : jW D tc b n sh rf I L H) {r c N : Nat} (hs : sh r = c) (hc : c / 1000 = 3 ∧ c % 1000 = N) : (jws tc b n sh rf I L)[r - 1]? = some (b + r, .inl (tc 2, N, .inr (.inl (L r)))) := by
  have h1 := h.place (r := r) (by rw [hs]; omega)
  rw [hs, jcell_l hc.1, hc.2] at h1
  exact h1
theorem jW.arrQ {D : va_G} {tc : Nat → ClassId} {b n : Nat} {sh : jS} {rf : jR} {I : jI} {L : jL} {H : Heap} (h : jW D tc b n sh rf I L H) {r c N : Nat} (t : Nat) (hs : sh r = c) (hc : c / 1000 = t + 4 ∧ c % 1000 = N) : (jws tc b n sh rf I L)[r - 1]? = some (b + r, .inl (tc (t + 3), N, .inr (.inr (.inr (.inr (jopt b (rf r))))))) := by
  have h1 := h.place (r := r) (by rw [hs]; omega)
  rw [hs, jcell_q t hc.1, hc.2] at h1
  exact h1
theorem J_iald {r c N : Nat} {i : Int32} (hX : jOK Y Z own cc nL nm ret fr lw mcX msX) (hs : sh r = c) (hc : c / 1000 = 1 ∧ c % 1000 = N) (hd : decode cc pc = .ok (.iaload, 1)) (kk : jin i N → J Y Z nL Qf k (pc + 1) lo (ji (I r i.toNatClampNeg) :: rest) cs ss n sh rf I L) : J Y Z nL Qf (if jin i N then k else none) pc lo (ji i :: jr r :: rest) cs ss n sh rf I L := by
  intro r' hr ls H locs hl hW
  by_cases h0 : jin i N
  · rw [if_pos h0] at hr
    show W Z.p Y.l Z.e Z.R Z.s Z.m Z.a Z.w Z.meth Z.c H locs cs ss (Qf r') (F0 Z.m pc ls (.int i :: jref Y.b r :: rest.map (jval Y.b)))
    rw [jref_nz _ (hW.1.pos hs (by omega))]
    exact va_iald (D := Y.D) (cl := vwCl) (tys := jtys Y.tc) hX.1 hX.2.1 hX.2.2.2.2.2.2.2.2.1 hW.1.P (r - 1) 0 (hW.1.arrI hs hc) rfl (jin_vp h0) hd (kk h0 r' hr ls H locs hl hW)
  · rw [if_neg h0] at hr; cases hr
theorem J_zald {r c N : Nat} {i : Int32} (hX : jOK Y Z own cc nL nm ret fr lw mcX msX) (hs : sh r = c) (hc : c / 1000 = 2 ∧ c % 1000 = N) (hd : decode cc pc = .ok (.baload, 1)) (kk : jin i N → J Y Z nL Qf k (pc + 1) lo (ji (I r i.toNatClampNeg) :: rest) cs ss n sh rf I L) : J Y Z nL Qf (if jin i N then k else none) pc lo (ji i :: jr r :: rest) cs ss n sh rf I L := by
  intro r' hr ls H locs hl hW
  by_cases h0 : jin i N
  · rw [if_pos h0] at hr
    show W Z.p Y.l Z.e Z.R Z.s Z.m Z.a Z.w Z.meth Z.c H locs cs ss (Qf r') (F0 Z.m pc ls (.int i :: jref Y.b r :: rest.map (jval Y.b)))
    rw [jref_nz _ (hW.1.pos hs (by omega))]
    exact va_zald (D := Y.D) (cl := vwCl) (tys := jtys Y.tc) hX.1 hX.2.1 hX.2.2.2.2.2.2.2.2.1 hW.1.P (r - 1) 1 (hW.1.arrZ hs hc) rfl (jin_vp h0) hd (kk h0 r' hr ls H locs hl hW)
  · rw [if_neg h0] at hr; cases hr
theorem J_lald {r c N : Nat} {i : Int32} (hX : jOK Y Z own cc nL nm ret fr lw mcX msX) (hs : sh r = c) (hc : c / 1000 = 3 ∧ c % 1000 = N) (hd : decode cc pc = .ok (.laload, 1)) (kk : jin i N → J Y Z nL Qf k (pc + 1) lo (jl (L r i.toNatClampNeg) :: rest) cs ss n sh rf I L) : J Y Z nL Qf (if jin i N then k else none) pc lo (ji i :: jr r :: rest) cs ss n sh rf I L := by
  intro r' hr ls H locs hl hW
  by_cases h0 : jin i N
  · rw [if_pos h0] at hr
    show W Z.p Y.l Z.e Z.R Z.s Z.m Z.a Z.w Z.meth Z.c H locs cs ss (Qf r') (F0 Z.m pc ls (.int i :: jref Y.b r :: rest.map (jval Y.b)))
    rw [jref_nz _ (hW.1.pos hs (by omega))]
    exact va_lald (D := Y.D) (cl := vwCl) (tys := jtys Y.tc) hX.1 hX.2.1 hX.2.2.2.2.2.2.2.2.1 hW.1.P (r - 1) 2 (hW.1.arrL hs hc) rfl (jin_vp h0) hd (kk h0 r' hr ls H locs hl hW)
  · rw [if_neg h0] at hr; cases hr
theorem jopt_rf (b : Nat) (rf : Nat → Nat) (k : Nat) : va_rf (jopt b rf k) = jref b (rf k) := by
  unfold jopt jref
  split <;> rfl
theorem J_aald {r c N : Nat} (t : Nat) {i : Int32} {Cn : String} (hX : jOK Y Z own cc nL nm ret fr lw mcX msX) (hs : sh r = c) (hc : c / 1000 = t + 4 ∧ c % 1000 = N) (ht : (jtys Y.tc)[t + 3]? = some (Y.tc (t + 3), .object Cn)) (hd : decode cc pc = .ok (.aaload, 1)) (kk : jin i N → J Y Z nL Qf k (pc + 1) lo (jr (rf r i.toNatClampNeg) :: rest) cs ss n sh rf I L) : J Y Z nL Qf (if jin i N then k else none) pc lo (ji i :: jr r :: rest) cs ss n sh rf I L := by
  intro r' hr ls H locs hl hW
  by_cases h0 : jin i N
  · rw [if_pos h0] at hr
    show W Z.p Y.l Z.e Z.R Z.s Z.m Z.a Z.w Z.meth Z.c H locs cs ss (Qf r') (F0 Z.m pc ls (.int i :: jref Y.b r :: rest.map (jval Y.b)))
    rw [jref_nz _ (hW.1.pos hs (by omega))]
    refine va_aldq (D := Y.D) (cl := vwCl) (tys := jtys Y.tc) hX.1 hX.2.1 hX.2.2.2.2.2.2.2.2.1 hW.1.P (r - 1) (t + 3) (hW.1.arrQ t hs hc) ht (jin_vp h0) hd ?_
    rw [jopt_rf]
    exact kk h0 r' hr ls H locs hl hW
  · rw [if_neg h0] at hr; cases hr
theorem J_alen {r c : Nat} {v : Int32} (hX : jOK Y Z own cc nL nm ret fr lw mcX msX) (hs : sh r = c) (hc : 1 ≤ c / 1000 ∧ c / 1000 ≤ 5 ∧ Int32.ofNat (c % 1000) = v) (hd : decode cc pc = .ok (.arraylength, 1)) (kk : J Y Z nL Qf k (pc + 1) lo (ji v :: rest) cs ss n sh rf I L) : J Y Z nL Qf k pc lo (jr r :: rest) cs ss n sh rf I L := by
  intro r' hr ls H locs hl hW
  show W Z.p Y.l Z.e Z.R Z.s Z.m Z.a Z.w Z.meth Z.c H locs cs ss (Qf r') (F0 Z.m pc ls (jref Y.b r :: rest.map (jval Y.b)))
  rw [jref_nz _ (hW.1.pos hs (by omega))]
  have h5 : c / 1000 = 1 ∨ c / 1000 = 2 ∨ c / 1000 = 3 ∨ c / 1000 = 4 ∨ c / 1000 = 5 := by omega
  have hK := hX.2.2.2.2.2.2.2.2.1
  rcases h5 with h5 | h5 | h5 | h5 | h5
  · exact va_alen (D := Y.D) (cl := vwCl) (tys := jtys Y.tc) hX.1 hX.2.1 hK hW.1.P (r - 1) 0 (hW.1.arrI hs ⟨h5, rfl⟩) rfl hc.2.2 hd (kk r' hr ls H locs hl hW)
  · exact va_alen (D := Y.D) (cl := vwCl) (tys := jtys Y.tc) hX.1 hX.2.1 hK hW.1.P (r - 1) 1 (hW.1.arrZ hs ⟨h5, rfl⟩) rfl hc.2.2 hd (kk r' hr ls H locs hl hW)
  · exact va_alen (D := Y.D) (cl := vwCl) (tys := jtys Y.tc) hX.1 hX.2.1 hK hW.1.P (r - 1) 2 (hW.1.arrL hs ⟨h5, rfl⟩) rfl hc.2.2 hd (kk r' hr ls H locs hl hW)
  · exact va_alen (D := Y.D) (cl := vwCl) (tys := jtys Y.tc) hX.1 hX.2.1 hK hW.1.P (r - 1) 3 (hW.1.arrQ 0 hs ⟨h5, rfl⟩) rfl hc.2.2 hd (kk r' hr ls H locs hl hW)
  · exact va_alen (D := Y.D) (cl := vwCl) (tys := jtys Y.tc) hX.1 hX.2.1 hK hW.1.P (r - 1) 4 (hW.1.arrQ 1 hs ⟨h5, rfl⟩) rfl hc.2.2 hd (kk r' hr ls H locs hl hW)
/-- arrays: writes -/
theorem jrow_rf (f : Nat → Nat → Nat) (r : Nat) : jrow f r (f r) = f := by
  funext a
  unfold jrow
  split
  · next h => rw [h]
  · rfl
theorem J_iast {r c N : Nat} {i x : Int32} {f : jI → Option ρ} (hX : jOK Y Z own cc nL nm ret fr lw mcX msX) (hs : sh r = c) (hc : c / 1000 = 1 ∧ c % 1000 = N) (hd : decode cc pc = .ok (.iastore, 1)) (kk : jin i N → ∀ I1, J Y Z nL Qf (f I1) (pc + 1) lo rest cs ss n sh rf I1 L) : J Y Z nL Qf (if jin i N then jlet (jup I r i.toNatClampNeg x) f else none) pc lo (ji x :: ji i :: jr r :: rest) cs ss n sh rf I L := by
  intro r' hr ls H locs hl hW
  by_cases h0 : jin i N
  · rw [if_pos h0] at hr
    show W Z.p Y.l Z.e Z.R Z.s Z.m Z.a Z.w Z.meth Z.c H locs cs ss (Qf r') (F0 Z.m pc ls (.int x :: .int i :: jref Y.b r :: rest.map (jval Y.b)))
    rw [jref_nz _ (hW.1.pos hs (by omega))]
    have hr0 : sh r ≠ 0 := by omega
    have hat := hW.1.2 r hr0
    rw [hs, jcell_i hc.1, hc.2] at hat
    have hat : H[Y.b + r]? = some (vp_cell (Y.tc 0) (N, .inl (I r))) := hat
    have hrb := ((hW.1.1 r).mp hr0).1
    refine W.iast hX.1 hX.2.1 hat ((hX.2.2.2.2.2.2.2.2.1.2 0 _ rfl).1 N (fun j => .int (I r j))) (fun q => by cases q) (by show ¬ (i < 0 ∨ (arrV _ _ _).slots.size ≤ _); rw [arrV_size]; exact jin_vp h0) rfl rfl hd fun H1 e z oq => ?_
    refine kk h0 _ r' hr ls H1 _ hl ⟨hW.1.put (r := r) ?_ oq (fun a ha => ⟨rfl, jup_ne _ _ ha, rfl⟩), hW.2.1.put z oq (by show Y.b + 1 ≤ Y.b + r; omega), fun zz => by rw [z]; exact hW.2.2 zz⟩
    rw [hs, jcell_i hc.1, hc.2, jup_self]
    show H1[Y.b + r]? = some (vp_cell _ _)
    rw [e, vp_cell_i, vp_cell_i, arrV_store]
    congr 2
    funext q
    by_cases hq : q = i.toNatClampNeg
    · subst hq
      simp [updV, ju1]
    · simp [updV, ju1, hq]
  · rw [if_neg h0] at hr; cases hr
def jnz (x : Int32) : Int32 := vp_nar .boolean x
theorem J_zast {r c N : Nat} {i x : Int32} {f : jI → Option ρ} (hX : jOK Y Z own cc nL nm ret fr lw mcX msX) (hs : sh r = c) (hc : c / 1000 = 2 ∧ c % 1000 = N) (hd : decode cc pc = .ok (.bastore, 1)) (kk : jin i N → ∀ I1, J Y Z nL Qf (f I1) (pc + 1) lo rest cs ss n sh rf I1 L) : J Y Z nL Qf (if jin i N then jlet (jup I r i.toNatClampNeg (jnz x)) f else none) pc lo (ji x :: ji i :: jr r :: rest) cs ss n sh rf I L := by
  intro r' hr ls H locs hl hW
  by_cases h0 : jin i N
  · rw [if_pos h0] at hr
    show W Z.p Y.l Z.e Z.R Z.s Z.m Z.a Z.w Z.meth Z.c H locs cs ss (Qf r') (F0 Z.m pc ls (.int x :: .int i :: jref Y.b r :: rest.map (jval Y.b)))
    rw [jref_nz _ (hW.1.pos hs (by omega))]
    have hr0 : sh r ≠ 0 := by omega
    have hat := hW.1.2 r hr0
    rw [hs, jcell_z hc.1, hc.2] at hat
    have hat : H[Y.b + r]? = some (vp_cell (Y.tc 1) (N, .inl (I r))) := hat
    have hrb := ((hW.1.1 r).mp hr0).1
    refine W.zast hX.1 hX.2.1 hat ((hX.2.2.2.2.2.2.2.2.1.2 1 _ rfl).1 N (fun j => .int (I r j))) (fun q => by cases q) (by show ¬ (i < 0 ∨ (arrV _ _ _).slots.size ≤ _); rw [arrV_size]; exact jin_vp h0) rfl rfl hd fun H1 e z oq => ?_
    refine kk h0 _ r' hr ls H1 _ hl ⟨hW.1.put (r := r) ?_ oq (fun a ha => ⟨rfl, jup_ne _ _ ha, rfl⟩), hW.2.1.put z oq (by show Y.b + 1 ≤ Y.b + r; omega), fun zz => by rw [z]; exact hW.2.2 zz⟩
    rw [hs, jcell_z hc.1, hc.2, jup_self]
    show H1[Y.b + r]? = some (vp_cell _ _)
    rw [e, vp_cell_i, vp_cell_i, arrV_store]
    congr 2
    funext q
    by_cases hq : q = i.toNatClampNeg
    · subst hq
      simp [updV, ju1, jnz, vp_nar]
      try rfl
    · simp [updV, ju1, hq]
  · rw [if_neg h0] at hr; cases hr
theorem J_last {r c N : Nat} {i : Int32} {x : Int64} {f : jL → Option ρ} (hX : jOK Y Z own cc nL nm ret fr lw mcX msX) (hs : sh r = c) (hc : c / 1000 = 3 ∧ c % 1000 = N) (hd : decode cc pc = .ok (.lastore, 1)) (kk : jin i N → ∀ L1, J Y Z nL Qf (f L1) (pc + 1) lo rest cs ss n sh rf I L1) : J Y Z nL Qf (if jin i N then jlet (jup L r i.toNatClampNeg x) f else none) pc lo (jl x :: ji i :: jr r :: rest) cs ss n sh rf I L := by
  intro r' hr ls H locs hl hW
  by_cases h0 : jin i N
  · rw [if_pos h0] at hr
    show W Z.p Y.l Z.e Z.R Z.s Z.m Z.a Z.w Z.meth Z.c H locs cs ss (Qf r') (F0 Z.m pc ls (.long x :: .int i :: jref Y.b r :: rest.map (jval Y.b)))
    rw [jref_nz _ (hW.1.pos hs (by omega))]
    have hr0 : sh r ≠ 0 := by omega
    have hat := hW.1.2 r hr0
    rw [hs, jcell_l hc.1, hc.2] at hat
    have hat : H[Y.b + r]? = some (vp_cell (Y.tc 2) (N, .inr (.inl (L r)))) := hat
    have hrb := ((hW.1.1 r).mp hr0).1
    refine W.last hX.1 hX.2.1 hat ((hX.2.2.2.2.2.2.2.2.1.2 2 _ rfl).1 N (fun j => .long (L r j))) (fun q => by cases q) (by show ¬ (i < 0 ∨ (arrV _ _ _).slots.size ≤ _); rw [arrV_size]; exact jin_vp h0) rfl rfl hd fun H1 e z oq => ?_
    refine kk h0 _ r' hr ls H1 _ hl ⟨hW.1.put (r := r) ?_ oq (fun a ha => ⟨rfl, rfl, jup_ne _ _ ha⟩), hW.2.1.put z oq (by show Y.b + 1 ≤ Y.b + r; omega), fun zz => by rw [z]; exact hW.2.2 zz⟩
    rw [hs, jcell_l hc.1, hc.2, jup_self]
    show H1[Y.b + r]? = some (vp_cell _ _)
    rw [e, vp_cell_l, vp_cell_l, arrV_store]
    congr 2
    funext q
    by_cases hq : q = i.toNatClampNeg
    · subst hq
      simp [updV, ju1]
    · simp [updV, ju1, hq]
  · rw [if_neg h0] at hr; cases hr
end HEAPROWS
