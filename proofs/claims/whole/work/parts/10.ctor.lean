section CROWS
variable {ρ : Type} {Y : jY} {Z : jZ} {nL : Nat} {Qf : ρ → State → Prop} {k : Option ρ} {pc : Nat} {lo lo' : List (Nat × jV)} {st rest : List jV} {cs ss n : Nat} {sh : jS} {rf : jR} {I : jI} {L : jL} {own nm : String} {cc : ByteArray} {ret : Option FieldType} {fr lw mcX msX : Nat}
theorem jup_big {f : jR} {r k0 v : Nat} (h : ∀ a k, 20 ≤ k → f a k = 0) (hk : k0 < 20) : ∀ a k, 20 ≤ k → jup f r k0 v a k = 0 := by
  intro a k hk2
  unfold jup jrow
  split
  · next e => unfold ju1; rw [if_neg (by omega)]; subst e; exact h _ _ hk2
  · exact h _ _ hk2
theorem jup_at {α : Type} (f : Nat → Nat → α) (r k : Nat) (v : α) : jup f r k v r k = v := by simp [jup, jrow, ju1]
theorem jup_ot {α : Type} (f : Nat → Nat → α) (r : Nat) {k : Nat} (v : α) {j : Nat} (h : j ≠ k) : jup f r k v r j = f r j := by simp [jup, jrow, ju1, h]
theorem J_eqr {x y : Nat} (h : x = y) (kk : J Y Z nL Qf k pc lo (jr y :: rest) cs ss n sh rf I L) : J Y Z nL Qf k pc lo (jr x :: rest) cs ss n sh rf I L := by
  subst h; exact kk
theorem jrun_c {mc ms n' : Nat} {sh' : jS} {rf' : jR} {I' : jI} {L' : jL} (hr : jRunAt Y Z nL pc lo st rest cs ss n sh rf I L mc ms none n' sh' rf' I' L') (kk : J Y Z nL Qf k (pc + 3) lo rest (cs + mc) (ss + ms) n' sh' rf' I' L') : J Y Z nL Qf k pc lo st cs ss n sh rf I L := jrun_go hr kk
theorem J_iastC {r c N : Nat} {j : Nat} {i x : Int32} (hX : jOK Y Z own cc nL nm ret fr lw mcX msX) (hs : sh r = c) (hc : c / 1000 = 1 ∧ c % 1000 = N) (hi : jin i N) (hj : i.toNatClampNeg = j) (hd : decode cc pc = .ok (.iastore, 1)) (kk : J Y Z nL Qf k (pc + 1) lo rest cs ss n sh rf (jup I r j x) L) : J Y Z nL Qf k pc lo (ji x :: ji i :: jr r :: rest) cs ss n sh rf I L := by
  subst hj
  intro r' hr ls H locs hl hW
  show W Z.p Y.l Z.e Z.R Z.s Z.m Z.a Z.w Z.meth Z.c H locs cs ss (Qf r') (F0 Z.m pc ls (.int x :: .int i :: jref Y.b r :: rest.map (jval Y.b)))
  rw [jref_nz _ (hW.1.pos hs (by omega))]
  have hr0 : sh r ≠ 0 := by omega
  have hat := hW.1.2 r hr0
  rw [hs, jcell_i hc.1, hc.2] at hat
  have hat : H[Y.b + r]? = some (vp_cell (Y.tc 0) (N, .inl (I r))) := hat
  have hrb := ((hW.1.1 r).mp hr0).1
  refine W.iast hX.1 hX.2.1 hat ((hX.2.2.2.2.2.2.2.2.1.2 0 _ rfl).1 N (fun j => .int (I r j))) (fun q => by cases q) (by show ¬ (i < 0 ∨ (arrV _ _ _).slots.size ≤ _); rw [arrV_size]; exact jin_vp hi) rfl rfl hd fun H1 e z oq => ?_
  refine kk r' hr ls H1 _ hl ⟨hW.1.put (r := r) ?_ oq (fun a ha => ⟨rfl, jup_ne _ _ ha, rfl⟩), hW.2.1.put z oq (by show Y.b + 1 ≤ Y.b + r; omega), fun zz => by rw [z]; exact hW.2.2 zz⟩
  rw [hs, jcell_i hc.1, hc.2, jup_self]
  show H1[Y.b + r]? = some (vp_cell _ _)
  rw [e, vp_cell_i, vp_cell_i, arrV_store]
  congr 2
  funext q
  by_cases hq : q = i.toNatClampNeg
  · subst hq
    simp [updV, ju1]
  · simp [updV, ju1, hq]
theorem J_aastC {r c N t x ci j : Nat} {i : Int32} {q : vw_C} (hX : jOK Y Z own cc nL nm ret fr lw mcX msX) (hs : sh r = c) (hc : c / 1000 = t + 4 ∧ c % 1000 = N) (hx0 : sh x = ci + 1) (hci : ci + 1 < 1000) (hcl : vwCl[ci]? = some q) (ht : (jtys Y.tc)[t + 3]? = some (Y.tc (t + 3), .object q.1)) (hi : jin i N) (hj : i.toNatClampNeg = j) (hd : decode cc pc = .ok (.aastore, 1))
    (kk : J Y Z nL Qf k (pc + 1) lo rest cs ss n sh (jup rf r j x) I L) : J Y Z nL Qf k pc lo (jr x :: ji i :: jr r :: rest) cs ss n sh rf I L := by
  subst hj
  exact J_aast hX hs hc hx0 hci hcl ht hi hd kk
theorem J_putiC {idx kf r ci N : Nat} {C ref : String} {T : u_T} {ty0 : Nat → FieldType} {ty : FieldType} {x : Int32} (hX : jOK Y Z own cc nL nm ret fr lw mcX msX) (hc : vwCl[ci]? = some (C, T, N)) (hin : ∀ w ∈ u_ws C T N, w ∈ wsU) (hk : kf < N ∧ kf < jfn ci ∧ ci + 1 < 1000)
    (hty : ∀ k, k < N → parseFieldDescriptor (T k).2.2.1 = some (ty0 k)) (hnm : ∀ a, a < N → ∀ b, b < N → a ≠ b → (T a).2.1 ≠ (T b).2.1) (hw : Cond.fieldLink own idx ref (T kf).2.1 (T kf).2.2.1 ∈ wsU) (href : (T kf).1 = ref) (hfin : (T kf).2.2.2 = false ∨ ((T kf).2.2.2 = true ∧ nm = "<init>" ∧ ref = own)) (hdd : parseFieldDescriptor (T kf).2.2.1 = some ty) (hf : jfr ci kf = false)
    (hnv : narrow ty (.int x) = .int x) (hfit : fits ty (.int x) = true) (hs : sh r = ci + 1) (hd : decode cc pc = .ok (.putfield idx, 3)) (kk : J Y Z nL Qf k (pc + 3) lo rest cs ss n sh rf (jup I r kf x) L) : J Y Z nL Qf k pc lo (ji x :: jr r :: rest) cs ss n sh rf I L := by
  intro r' hr ls H locs hl hW
  have e : jref Y.b r = .ref (Y.b + r) := jref_nz _ (hW.1.pos hs (by omega))
  show W Z.p Y.l Z.e Z.R Z.s Z.m Z.a Z.w Z.meth Z.c H locs cs ss (Qf r') (F0 Z.m pc ls (.int x :: jref Y.b r :: rest.map (jval Y.b)))
  rw [e]
  refine jput_core hX hc hin hk hty hnm hw href hfin hdd hnv hfit hs (rf' := rf r) (I' := ju1 (I r) kf x) (jfs_setI hf) hd hW (fun H1 locs1 h1 => kk r' hr ls H1 locs1 hl ?_)
  rw [jrow_rf] at h1
  exact h1
theorem J_putrC {idx kf r x ci N : Nat} {C ref : String} {T : u_T} {ty0 : Nat → FieldType} {ty : FieldType} (hX : jOK Y Z own cc nL nm ret fr lw mcX msX) (hc : vwCl[ci]? = some (C, T, N)) (hin : ∀ w ∈ u_ws C T N, w ∈ wsU) (hk : kf < N ∧ kf < jfn ci ∧ ci + 1 < 1000)
    (hty : ∀ k, k < N → parseFieldDescriptor (T k).2.2.1 = some (ty0 k)) (hnm : ∀ a, a < N → ∀ b, b < N → a ≠ b → (T a).2.1 ≠ (T b).2.1) (hw : Cond.fieldLink own idx ref (T kf).2.1 (T kf).2.2.1 ∈ wsU) (href : (T kf).1 = ref) (hfin : (T kf).2.2.2 = false ∨ ((T kf).2.2.2 = true ∧ nm = "<init>" ∧ ref = own)) (hdd : parseFieldDescriptor (T kf).2.2.1 = some ty) (hf : jfr ci kf = true)
    (hnv : ∀ a, narrow ty (.ref a) = .ref a) (hfit : ∀ a, fits ty (.ref a) = true) (hs : sh r = ci + 1) (hx0 : sh x ≠ 0) (hd : decode cc pc = .ok (.putfield idx, 3)) (kk : J Y Z nL Qf k (pc + 3) lo rest cs ss n sh (jup rf r kf x) I L) : J Y Z nL Qf k pc lo (jr x :: jr r :: rest) cs ss n sh rf I L := by
  intro r' hr ls H locs hl hW
  have e : jref Y.b r = .ref (Y.b + r) := jref_nz _ (hW.1.pos hs (by omega))
  have e0 : jref Y.b x = .ref (Y.b + x) := jref_nz _ (hW.1.pos rfl hx0)
  show W Z.p Y.l Z.e Z.R Z.s Z.m Z.a Z.w Z.meth Z.c H locs cs ss (Qf r') (F0 Z.m pc ls (jref Y.b x :: jref Y.b r :: rest.map (jval Y.b)))
  rw [e, e0]
  refine jput_core hX hc hin hk hty hnm hw href hfin hdd (hnv _) (hfit _) hs (rf' := ju1 (rf r) kf x) (I' := I r) (by rw [← e0]; exact jfs_setR hf) hd hW (fun H1 locs1 h1 => kk r' hr ls H1 locs1 hl ?_)
  rw [jrow_rfI] at h1
  exact h1
end CROWS
section CSITES
variable {ρ : Type} {Y : jY} {Z : jZ} {nL : Nat} {Qf : ρ → State → Prop} {k : Option ρ} {pc : Nat} {lo lo' : List (Nat × jV)} {st rest : List jV} {cs ss n : Nat} {sh : jS} {rf : jR} {I : jI} {L : jL} {own nm : String} {cc : ByteArray} {ret : Option FieldType} {fr lw mcX msX : Nat}
theorem p_X1_9 {r x : Nat} {f : jR → Option ρ} (hX : jOK Y Z RX1 cc nL "<init>" ret fr lw mcX msX) (hs : sh r = 2) (hx : sh x ≠ 0) (hd : decode cc pc = .ok (.putfield 9, 3)) (kk : ∀ rf1, J Y Z nL Qf (f rf1) (pc + 3) lo rest cs ss n sh rf1 I L) : J Y Z nL Qf (jlet (jup rf r 0 x) f) pc lo (jr x :: jr r :: rest) cs ss n sh rf I L :=
  J_putr (ci := 1) (kf := 0) (T := TX1) (N := 5) (ty0 := tyX1) (ty := tyX1 0) hX rfl inX1 (by decide +kernel) tyX1_ok nmX1 (jm 122 (by decide +kernel) (by decide +kernel)) rfl (Or.inr ⟨rfl, rfl, rfl⟩) (by decide +kernel) (by decide +kernel) (fun _ => rfl) (fun _ => rfl) hs hx hd kk
theorem p_X1_15 {r x : Nat} {f : jR → Option ρ} (hX : jOK Y Z RX1 cc nL "<init>" ret fr lw mcX msX) (hs : sh r = 2) (hx : sh x ≠ 0) (hd : decode cc pc = .ok (.putfield 15, 3)) (kk : ∀ rf1, J Y Z nL Qf (f rf1) (pc + 3) lo rest cs ss n sh rf1 I L) : J Y Z nL Qf (jlet (jup rf r 1 x) f) pc lo (jr x :: jr r :: rest) cs ss n sh rf I L :=
  J_putr (ci := 1) (kf := 1) (T := TX1) (N := 5) (ty0 := tyX1) (ty := tyX1 1) hX rfl inX1 (by decide +kernel) tyX1_ok nmX1 (jm 123 (by decide +kernel) (by decide +kernel)) rfl (Or.inr ⟨rfl, rfl, rfl⟩) (by decide +kernel) (by decide +kernel) (fun _ => rfl) (fun _ => rfl) hs hx hd kk
theorem p_X1_18 {r x : Nat} {f : jR → Option ρ} (hX : jOK Y Z RX1 cc nL "<init>" ret fr lw mcX msX) (hs : sh r = 2) (hx : sh x ≠ 0) (hd : decode cc pc = .ok (.putfield 18, 3)) (kk : ∀ rf1, J Y Z nL Qf (f rf1) (pc + 3) lo rest cs ss n sh rf1 I L) : J Y Z nL Qf (jlet (jup rf r 2 x) f) pc lo (jr x :: jr r :: rest) cs ss n sh rf I L :=
  J_putr (ci := 1) (kf := 2) (T := TX1) (N := 5) (ty0 := tyX1) (ty := tyX1 2) hX rfl inX1 (by decide +kernel) tyX1_ok nmX1 (jm 124 (by decide +kernel) (by decide +kernel)) rfl (Or.inr ⟨rfl, rfl, rfl⟩) (by decide +kernel) (by decide +kernel) (fun _ => rfl) (fun _ => rfl) hs hx hd kk
theorem p_X1_21 {r x : Nat} {f : jR → Option ρ} (hX : jOK Y Z RX1 cc nL "<init>" ret fr lw mcX msX) (hs : sh r = 2) (hx : sh x ≠ 0) (hd : decode cc pc = .ok (.putfield 21, 3)) (kk : ∀ rf1, J Y Z nL Qf (f rf1) (pc + 3) lo rest cs ss n sh rf1 I L) : J Y Z nL Qf (jlet (jup rf r 3 x) f) pc lo (jr x :: jr r :: rest) cs ss n sh rf I L :=
  J_putr (ci := 1) (kf := 3) (T := TX1) (N := 5) (ty0 := tyX1) (ty := tyX1 3) hX rfl inX1 (by decide +kernel) tyX1_ok nmX1 (jm 125 (by decide +kernel) (by decide +kernel)) rfl (Or.inr ⟨rfl, rfl, rfl⟩) (by decide +kernel) (by decide +kernel) (fun _ => rfl) (fun _ => rfl) hs hx hd kk
theorem p_X1_24 {r x : Nat} {f : jR → Option ρ} (hX : jOK Y Z RX1 cc nL "<init>" ret fr lw mcX msX) (hs : sh r = 2) (hx : sh x ≠ 0) (hd : decode cc pc = .ok (.putfield 24, 3)) (kk : ∀ rf1, J Y Z nL Qf (f rf1) (pc + 3) lo rest cs ss n sh rf1 I L) : J Y Z nL Qf (jlet (jup rf r 4 x) f) pc lo (jr x :: jr r :: rest) cs ss n sh rf I L :=
  J_putr (ci := 1) (kf := 4) (T := TX1) (N := 5) (ty0 := tyX1) (ty := tyX1 4) hX rfl inX1 (by decide +kernel) tyX1_ok nmX1 (jm 126 (by decide +kernel) (by decide +kernel)) rfl (Or.inr ⟨rfl, rfl, rfl⟩) (by decide +kernel) (by decide +kernel) (fun _ => rfl) (fun _ => rfl) hs hx hd kk
theorem p_X2_9 {r x : Nat} {f : jR → Option ρ} (hX : jOK Y Z RX2 cc nL "<init>" ret fr lw mcX msX) (hs : sh r = 3) (hx : sh x ≠ 0) (hd : decode cc pc = .ok (.putfield 9, 3)) (kk : ∀ rf1, J Y Z nL Qf (f rf1) (pc + 3) lo rest cs ss n sh rf1 I L) : J Y Z nL Qf (jlet (jup rf r 11 x) f) pc lo (jr x :: jr r :: rest) cs ss n sh rf I L :=
  J_putr (ci := 2) (kf := 11) (T := TX2) (N := 19) (ty0 := tyX2) (ty := tyX2 11) hX rfl inX2 (by decide +kernel) tyX2_ok nmX2 (jm 163 (by decide +kernel) (by decide +kernel)) rfl (Or.inr ⟨rfl, rfl, rfl⟩) (by decide +kernel) (by decide +kernel) (fun _ => rfl) (fun _ => rfl) hs hx hd kk
theorem p_X2_15 {r x : Nat} {f : jR → Option ρ} (hX : jOK Y Z RX2 cc nL "<init>" ret fr lw mcX msX) (hs : sh r = 3) (hx : sh x ≠ 0) (hd : decode cc pc = .ok (.putfield 15, 3)) (kk : ∀ rf1, J Y Z nL Qf (f rf1) (pc + 3) lo rest cs ss n sh rf1 I L) : J Y Z nL Qf (jlet (jup rf r 12 x) f) pc lo (jr x :: jr r :: rest) cs ss n sh rf I L :=
  J_putr (ci := 2) (kf := 12) (T := TX2) (N := 19) (ty0 := tyX2) (ty := tyX2 12) hX rfl inX2 (by decide +kernel) tyX2_ok nmX2 (jm 164 (by decide +kernel) (by decide +kernel)) rfl (Or.inr ⟨rfl, rfl, rfl⟩) (by decide +kernel) (by decide +kernel) (fun _ => rfl) (fun _ => rfl) hs hx hd kk
theorem p_X2_18 {r x : Nat} {f : jR → Option ρ} (hX : jOK Y Z RX2 cc nL "<init>" ret fr lw mcX msX) (hs : sh r = 3) (hx : sh x ≠ 0) (hd : decode cc pc = .ok (.putfield 18, 3)) (kk : ∀ rf1, J Y Z nL Qf (f rf1) (pc + 3) lo rest cs ss n sh rf1 I L) : J Y Z nL Qf (jlet (jup rf r 13 x) f) pc lo (jr x :: jr r :: rest) cs ss n sh rf I L :=
  J_putr (ci := 2) (kf := 13) (T := TX2) (N := 19) (ty0 := tyX2) (ty := tyX2 13) hX rfl inX2 (by decide +kernel) tyX2_ok nmX2 (jm 165 (by decide +kernel) (by decide +kernel)) rfl (Or.inr ⟨rfl, rfl, rfl⟩) (by decide +kernel) (by decide +kernel) (fun _ => rfl) (fun _ => rfl) hs hx hd kk
theorem p_X2_22 {r x : Nat} {f : jR → Option ρ} (hX : jOK Y Z RX2 cc nL "<init>" ret fr lw mcX msX) (hs : sh r = 3) (hx : sh x ≠ 0) (hd : decode cc pc = .ok (.putfield 22, 3)) (kk : ∀ rf1, J Y Z nL Qf (f rf1) (pc + 3) lo rest cs ss n sh rf1 I L) : J Y Z nL Qf (jlet (jup rf r 14 x) f) pc lo (jr x :: jr r :: rest) cs ss n sh rf I L :=
  J_putr (ci := 2) (kf := 14) (T := TX2) (N := 19) (ty0 := tyX2) (ty := tyX2 14) hX rfl inX2 (by decide +kernel) tyX2_ok nmX2 (jm 166 (by decide +kernel) (by decide +kernel)) rfl (Or.inr ⟨rfl, rfl, rfl⟩) (by decide +kernel) (by decide +kernel) (fun _ => rfl) (fun _ => rfl) hs hx hd kk
theorem p_X2_25 {r x : Nat} {f : jR → Option ρ} (hX : jOK Y Z RX2 cc nL "<init>" ret fr lw mcX msX) (hs : sh r = 3) (hx : sh x ≠ 0) (hd : decode cc pc = .ok (.putfield 25, 3)) (kk : ∀ rf1, J Y Z nL Qf (f rf1) (pc + 3) lo rest cs ss n sh rf1 I L) : J Y Z nL Qf (jlet (jup rf r 15 x) f) pc lo (jr x :: jr r :: rest) cs ss n sh rf I L :=
  J_putr (ci := 2) (kf := 15) (T := TX2) (N := 19) (ty0 := tyX2) (ty := tyX2 15) hX rfl inX2 (by decide +kernel) tyX2_ok nmX2 (jm 167 (by decide +kernel) (by decide +kernel)) rfl (Or.inr ⟨rfl, rfl, rfl⟩) (by decide +kernel) (by decide +kernel) (fun _ => rfl) (fun _ => rfl) hs hx hd kk
theorem p_X2_28 {r x : Nat} {f : jR → Option ρ} (hX : jOK Y Z RX2 cc nL "<init>" ret fr lw mcX msX) (hs : sh r = 3) (hx : sh x ≠ 0) (hd : decode cc pc = .ok (.putfield 28, 3)) (kk : ∀ rf1, J Y Z nL Qf (f rf1) (pc + 3) lo rest cs ss n sh rf1 I L) : J Y Z nL Qf (jlet (jup rf r 16 x) f) pc lo (jr x :: jr r :: rest) cs ss n sh rf I L :=
  J_putr (ci := 2) (kf := 16) (T := TX2) (N := 19) (ty0 := tyX2) (ty := tyX2 16) hX rfl inX2 (by decide +kernel) tyX2_ok nmX2 (jm 168 (by decide +kernel) (by decide +kernel)) rfl (Or.inr ⟨rfl, rfl, rfl⟩) (by decide +kernel) (by decide +kernel) (fun _ => rfl) (fun _ => rfl) hs hx hd kk
theorem p_X2_31 {r x : Nat} {f : jR → Option ρ} (hX : jOK Y Z RX2 cc nL "<init>" ret fr lw mcX msX) (hs : sh r = 3) (hx : sh x ≠ 0) (hd : decode cc pc = .ok (.putfield 31, 3)) (kk : ∀ rf1, J Y Z nL Qf (f rf1) (pc + 3) lo rest cs ss n sh rf1 I L) : J Y Z nL Qf (jlet (jup rf r 17 x) f) pc lo (jr x :: jr r :: rest) cs ss n sh rf I L :=
  J_putr (ci := 2) (kf := 17) (T := TX2) (N := 19) (ty0 := tyX2) (ty := tyX2 17) hX rfl inX2 (by decide +kernel) tyX2_ok nmX2 (jm 169 (by decide +kernel) (by decide +kernel)) rfl (Or.inr ⟨rfl, rfl, rfl⟩) (by decide +kernel) (by decide +kernel) (fun _ => rfl) (fun _ => rfl) hs hx hd kk
theorem p_X2_34 {r x : Nat} {f : jR → Option ρ} (hX : jOK Y Z RX2 cc nL "<init>" ret fr lw mcX msX) (hs : sh r = 3) (hx : sh x ≠ 0) (hd : decode cc pc = .ok (.putfield 34, 3)) (kk : ∀ rf1, J Y Z nL Qf (f rf1) (pc + 3) lo rest cs ss n sh rf1 I L) : J Y Z nL Qf (jlet (jup rf r 18 x) f) pc lo (jr x :: jr r :: rest) cs ss n sh rf I L :=
  J_putr (ci := 2) (kf := 18) (T := TX2) (N := 19) (ty0 := tyX2) (ty := tyX2 18) hX rfl inX2 (by decide +kernel) tyX2_ok nmX2 (jm 170 (by decide +kernel) (by decide +kernel)) rfl (Or.inr ⟨rfl, rfl, rfl⟩) (by decide +kernel) (by decide +kernel) (fun _ => rfl) (fun _ => rfl) hs hx hd kk
theorem p_X4_11 {r x : Nat} {f : jR → Option ρ} (hX : jOK Y Z RX4 cc nL "<init>" ret fr lw mcX msX) (hs : sh r = 5) (hx : sh x ≠ 0) (hd : decode cc pc = .ok (.putfield 11, 3)) (kk : ∀ rf1, J Y Z nL Qf (f rf1) (pc + 3) lo rest cs ss n sh rf1 I L) : J Y Z nL Qf (jlet (jup rf r 0 x) f) pc lo (jr x :: jr r :: rest) cs ss n sh rf I L :=
  J_putr (ci := 4) (kf := 0) (T := TX4) (N := 18) (ty0 := tyX4) (ty := tyX4 0) hX rfl inX4 (by decide +kernel) tyX4_ok nmX4 (jm 211 (by decide +kernel) (by decide +kernel)) rfl (Or.inr ⟨rfl, rfl, rfl⟩) (by decide +kernel) (by decide +kernel) (fun _ => rfl) (fun _ => rfl) hs hx hd kk
theorem p_X4_17 {r x : Nat} {f : jR → Option ρ} (hX : jOK Y Z RX4 cc nL "<init>" ret fr lw mcX msX) (hs : sh r = 5) (hx : sh x ≠ 0) (hd : decode cc pc = .ok (.putfield 17, 3)) (kk : ∀ rf1, J Y Z nL Qf (f rf1) (pc + 3) lo rest cs ss n sh rf1 I L) : J Y Z nL Qf (jlet (jup rf r 2 x) f) pc lo (jr x :: jr r :: rest) cs ss n sh rf I L :=
  J_putr (ci := 4) (kf := 2) (T := TX4) (N := 18) (ty0 := tyX4) (ty := tyX4 2) hX rfl inX4 (by decide +kernel) tyX4_ok nmX4 (jm 214 (by decide +kernel) (by decide +kernel)) rfl (Or.inr ⟨rfl, rfl, rfl⟩) (by decide +kernel) (by decide +kernel) (fun _ => rfl) (fun _ => rfl) hs hx hd kk
theorem s_X4_30 : jSiteIN RX4 30 yX0_init "PageLevels" cX0_init 1 0 := ⟨⟨List.mem_filter.mpr ⟨List.mem_of_getElem? (i := 31) (by decide +kernel), rfl⟩, (jm 104 (by decide +kernel) (by decide +kernel)), (jm 75 (by decide +kernel) (by decide +kernel)), (jm 105 (by decide +kernel) (by decide +kernel))⟩, rfl, by decide +kernel, by decide +kernel, by decide +kernel⟩
theorem p_X4_31 {r x : Nat} {f : jR → Option ρ} (hX : jOK Y Z RX4 cc nL "<init>" ret fr lw mcX msX) (hs : sh r = 5) (hx : sh x ≠ 0) (hd : decode cc pc = .ok (.putfield 31, 3)) (kk : ∀ rf1, J Y Z nL Qf (f rf1) (pc + 3) lo rest cs ss n sh rf1 I L) : J Y Z nL Qf (jlet (jup rf r 14 x) f) pc lo (jr x :: jr r :: rest) cs ss n sh rf I L :=
  J_putr (ci := 4) (kf := 14) (T := TX4) (N := 18) (ty0 := tyX4) (ty := tyX4 14) hX rfl inX4 (by decide +kernel) tyX4_ok nmX4 (jm 235 (by decide +kernel) (by decide +kernel)) rfl (Or.inr ⟨rfl, rfl, rfl⟩) (by decide +kernel) (by decide +kernel) (fun _ => rfl) (fun _ => rfl) hs hx hd kk
theorem s_X4_37 : jSiteIN RX4 37 yX1_init "PageLevels" cX1_init 1 0 := ⟨⟨List.mem_filter.mpr ⟨List.mem_of_getElem? (i := 46) (by decide +kernel), rfl⟩, (jm 119 (by decide +kernel) (by decide +kernel)), (jm 76 (by decide +kernel) (by decide +kernel)), (jm 120 (by decide +kernel) (by decide +kernel))⟩, rfl, by decide +kernel, by decide +kernel, by decide +kernel⟩
theorem p_X4_38 {r x : Nat} {f : jR → Option ρ} (hX : jOK Y Z RX4 cc nL "<init>" ret fr lw mcX msX) (hs : sh r = 5) (hx : sh x ≠ 0) (hd : decode cc pc = .ok (.putfield 38, 3)) (kk : ∀ rf1, J Y Z nL Qf (f rf1) (pc + 3) lo rest cs ss n sh rf1 I L) : J Y Z nL Qf (jlet (jup rf r 15 x) f) pc lo (jr x :: jr r :: rest) cs ss n sh rf I L :=
  J_putr (ci := 4) (kf := 15) (T := TX4) (N := 18) (ty0 := tyX4) (ty := tyX4 15) hX rfl inX4 (by decide +kernel) tyX4_ok nmX4 (jm 237 (by decide +kernel) (by decide +kernel)) rfl (Or.inr ⟨rfl, rfl, rfl⟩) (by decide +kernel) (by decide +kernel) (fun _ => rfl) (fun _ => rfl) hs hx hd kk
theorem s_X4_42 : jSiteIN RX4 42 yX2_init "PageLevels" cX2_init 1 0 := ⟨⟨List.mem_filter.mpr ⟨List.mem_of_getElem? (i := 67) (by decide +kernel), rfl⟩, (jm 140 (by decide +kernel) (by decide +kernel)), (jm 77 (by decide +kernel) (by decide +kernel)), (jm 141 (by decide +kernel) (by decide +kernel))⟩, rfl, by decide +kernel, by decide +kernel, by decide +kernel⟩
theorem p_X5_11 {r x : Nat} {f : jR → Option ρ} (hX : jOK Y Z RX5 cc nL "<init>" ret fr lw mcX msX) (hs : sh r = 6) (hx : sh x ≠ 0) (hd : decode cc pc = .ok (.putfield 11, 3)) (kk : ∀ rf1, J Y Z nL Qf (f rf1) (pc + 3) lo rest cs ss n sh rf1 I L) : J Y Z nL Qf (jlet (jup rf r 2 x) f) pc lo (jr x :: jr r :: rest) cs ss n sh rf I L :=
  J_putr (ci := 5) (kf := 2) (T := TX5) (N := 8) (ty0 := tyX5) (ty := tyX5 2) hX rfl inX5 (by decide +kernel) tyX5_ok nmX5 (jm 290 (by decide +kernel) (by decide +kernel)) rfl (Or.inr ⟨rfl, rfl, rfl⟩) (by decide +kernel) (by decide +kernel) (fun _ => rfl) (fun _ => rfl) hs hx hd kk
theorem p_X5_15 {r x : Nat} {f : jR → Option ρ} (hX : jOK Y Z RX5 cc nL "<init>" ret fr lw mcX msX) (hs : sh r = 6) (hx : sh x ≠ 0) (hd : decode cc pc = .ok (.putfield 15, 3)) (kk : ∀ rf1, J Y Z nL Qf (f rf1) (pc + 3) lo rest cs ss n sh rf1 I L) : J Y Z nL Qf (jlet (jup rf r 3 x) f) pc lo (jr x :: jr r :: rest) cs ss n sh rf I L :=
  J_putr (ci := 5) (kf := 3) (T := TX5) (N := 8) (ty0 := tyX5) (ty := tyX5 3) hX rfl inX5 (by decide +kernel) tyX5_ok nmX5 (jm 291 (by decide +kernel) (by decide +kernel)) rfl (Or.inr ⟨rfl, rfl, rfl⟩) (by decide +kernel) (by decide +kernel) (fun _ => rfl) (fun _ => rfl) hs hx hd kk
theorem p_X5_18 {r x : Nat} {f : jR → Option ρ} (hX : jOK Y Z RX5 cc nL "<init>" ret fr lw mcX msX) (hs : sh r = 6) (hx : sh x ≠ 0) (hd : decode cc pc = .ok (.putfield 18, 3)) (kk : ∀ rf1, J Y Z nL Qf (f rf1) (pc + 3) lo rest cs ss n sh rf1 I L) : J Y Z nL Qf (jlet (jup rf r 4 x) f) pc lo (jr x :: jr r :: rest) cs ss n sh rf I L :=
  J_putr (ci := 5) (kf := 4) (T := TX5) (N := 8) (ty0 := tyX5) (ty := tyX5 4) hX rfl inX5 (by decide +kernel) tyX5_ok nmX5 (jm 292 (by decide +kernel) (by decide +kernel)) rfl (Or.inr ⟨rfl, rfl, rfl⟩) (by decide +kernel) (by decide +kernel) (fun _ => rfl) (fun _ => rfl) hs hx hd kk
theorem p_X5_21 {r x : Nat} {f : jR → Option ρ} (hX : jOK Y Z RX5 cc nL "<init>" ret fr lw mcX msX) (hs : sh r = 6) (hx : sh x ≠ 0) (hd : decode cc pc = .ok (.putfield 21, 3)) (kk : ∀ rf1, J Y Z nL Qf (f rf1) (pc + 3) lo rest cs ss n sh rf1 I L) : J Y Z nL Qf (jlet (jup rf r 5 x) f) pc lo (jr x :: jr r :: rest) cs ss n sh rf I L :=
  J_putr (ci := 5) (kf := 5) (T := TX5) (N := 8) (ty0 := tyX5) (ty := tyX5 5) hX rfl inX5 (by decide +kernel) tyX5_ok nmX5 (jm 293 (by decide +kernel) (by decide +kernel)) rfl (Or.inr ⟨rfl, rfl, rfl⟩) (by decide +kernel) (by decide +kernel) (fun _ => rfl) (fun _ => rfl) hs hx hd kk
theorem p_X3_18 {r x : Nat} {f : jR → Option ρ} (hX : jOK Y Z RX3 cc nL "<init>" ret fr lw mcX msX) (hs : sh r = 4) (hx : sh x ≠ 0) (hd : decode cc pc = .ok (.putfield 18, 3)) (kk : ∀ rf1, J Y Z nL Qf (f rf1) (pc + 3) lo rest cs ss n sh rf1 I L) : J Y Z nL Qf (jlet (jup rf r 3 x) f) pc lo (jr x :: jr r :: rest) cs ss n sh rf I L :=
  J_putr (ci := 3) (kf := 3) (T := TX3) (N := 4) (ty0 := tyX3) (ty := tyX3 3) hX rfl inX3 (by decide +kernel) tyX3_ok nmX3 (jm 325 (by decide +kernel) (by decide +kernel)) rfl (Or.inr ⟨rfl, rfl, rfl⟩) (by decide +kernel) (by decide +kernel) (fun _ => rfl) (fun _ => rfl) hs hx hd kk
theorem s_X6_9 : jSiteI RX6 9 yX4_init cX4_init 2 0 := ⟨⟨(jm 95 (by decide +kernel) (by decide +kernel)), (jm 96 (by decide +kernel) (by decide +kernel)), (jm 74 (by decide +kernel) (by decide +kernel)), (jm 97 (by decide +kernel) (by decide +kernel))⟩, rfl, by decide +kernel, by decide +kernel, by decide +kernel⟩
theorem p_X6_10 {r x : Nat} {f : jR → Option ρ} (hX : jOK Y Z RX6 cc nL "<init>" ret fr lw mcX msX) (hs : sh r = 7) (hx : sh x ≠ 0) (hd : decode cc pc = .ok (.putfield 10, 3)) (kk : ∀ rf1, J Y Z nL Qf (f rf1) (pc + 3) lo rest cs ss n sh rf1 I L) : J Y Z nL Qf (jlet (jup rf r 0 x) f) pc lo (jr x :: jr r :: rest) cs ss n sh rf I L :=
  J_putr (ci := 6) (kf := 0) (T := TX6) (N := 8) (ty0 := tyX6) (ty := tyX6 0) hX rfl inX6 (by decide +kernel) tyX6_ok nmX6 (jm 337 (by decide +kernel) (by decide +kernel)) rfl (Or.inr ⟨rfl, rfl, rfl⟩) (by decide +kernel) (by decide +kernel) (fun _ => rfl) (fun _ => rfl) hs hx hd kk
theorem p_X6_16 {r x : Nat} {f : jR → Option ρ} (hX : jOK Y Z RX6 cc nL "<init>" ret fr lw mcX msX) (hs : sh r = 7) (hx : sh x ≠ 0) (hd : decode cc pc = .ok (.putfield 16, 3)) (kk : ∀ rf1, J Y Z nL Qf (f rf1) (pc + 3) lo rest cs ss n sh rf1 I L) : J Y Z nL Qf (jlet (jup rf r 1 x) f) pc lo (jr x :: jr r :: rest) cs ss n sh rf I L :=
  J_putr (ci := 6) (kf := 1) (T := TX6) (N := 8) (ty0 := tyX6) (ty := tyX6 1) hX rfl inX6 (by decide +kernel) tyX6_ok nmX6 (jm 338 (by decide +kernel) (by decide +kernel)) rfl (Or.inr ⟨rfl, rfl, rfl⟩) (by decide +kernel) (by decide +kernel) (fun _ => rfl) (fun _ => rfl) hs hx hd kk
theorem p_X6_19 {r x : Nat} {f : jR → Option ρ} (hX : jOK Y Z RX6 cc nL "<init>" ret fr lw mcX msX) (hs : sh r = 7) (hx : sh x ≠ 0) (hd : decode cc pc = .ok (.putfield 19, 3)) (kk : ∀ rf1, J Y Z nL Qf (f rf1) (pc + 3) lo rest cs ss n sh rf1 I L) : J Y Z nL Qf (jlet (jup rf r 2 x) f) pc lo (jr x :: jr r :: rest) cs ss n sh rf I L :=
  J_putr (ci := 6) (kf := 2) (T := TX6) (N := 8) (ty0 := tyX6) (ty := tyX6 2) hX rfl inX6 (by decide +kernel) tyX6_ok nmX6 (jm 339 (by decide +kernel) (by decide +kernel)) rfl (Or.inr ⟨rfl, rfl, rfl⟩) (by decide +kernel) (by decide +kernel) (fun _ => rfl) (fun _ => rfl) hs hx hd kk
theorem s_X6_24 : jSiteIN RX6 24 yX5_init "PageLevels" cX5_init 1 0 := ⟨⟨List.mem_filter.mpr ⟨List.mem_of_getElem? (i := 210) (by decide +kernel), rfl⟩, (jm 283 (by decide +kernel) (by decide +kernel)), (jm 78 (by decide +kernel) (by decide +kernel)), (jm 284 (by decide +kernel) (by decide +kernel))⟩, rfl, by decide +kernel, by decide +kernel, by decide +kernel⟩
theorem p_X6_25 {r x : Nat} {f : jR → Option ρ} (hX : jOK Y Z RX6 cc nL "<init>" ret fr lw mcX msX) (hs : sh r = 7) (hx : sh x ≠ 0) (hd : decode cc pc = .ok (.putfield 25, 3)) (kk : ∀ rf1, J Y Z nL Qf (f rf1) (pc + 3) lo rest cs ss n sh rf1 I L) : J Y Z nL Qf (jlet (jup rf r 4 x) f) pc lo (jr x :: jr r :: rest) cs ss n sh rf I L :=
  J_putr (ci := 6) (kf := 4) (T := TX6) (N := 8) (ty0 := tyX6) (ty := tyX6 4) hX rfl inX6 (by decide +kernel) tyX6_ok nmX6 (jm 341 (by decide +kernel) (by decide +kernel)) rfl (Or.inr ⟨rfl, rfl, rfl⟩) (by decide +kernel) (by decide +kernel) (fun _ => rfl) (fun _ => rfl) hs hx hd kk
theorem p_X6_31 {r x : Nat} {f : jR → Option ρ} (hX : jOK Y Z RX6 cc nL "<init>" ret fr lw mcX msX) (hs : sh r = 7) (hx : sh x ≠ 0) (hd : decode cc pc = .ok (.putfield 31, 3)) (kk : ∀ rf1, J Y Z nL Qf (f rf1) (pc + 3) lo rest cs ss n sh rf1 I L) : J Y Z nL Qf (jlet (jup rf r 5 x) f) pc lo (jr x :: jr r :: rest) cs ss n sh rf I L :=
  J_putr (ci := 6) (kf := 5) (T := TX6) (N := 8) (ty0 := tyX6) (ty := tyX6 5) hX rfl inX6 (by decide +kernel) tyX6_ok nmX6 (jm 342 (by decide +kernel) (by decide +kernel)) rfl (Or.inr ⟨rfl, rfl, rfl⟩) (by decide +kernel) (by decide +kernel) (fun _ => rfl) (fun _ => rfl) hs hx hd kk
theorem p_X6_35 {r x : Nat} {f : jR → Option ρ} (hX : jOK Y Z RX6 cc nL "<init>" ret fr lw mcX msX) (hs : sh r = 7) (hx : sh x ≠ 0) (hd : decode cc pc = .ok (.putfield 35, 3)) (kk : ∀ rf1, J Y Z nL Qf (f rf1) (pc + 3) lo rest cs ss n sh rf1 I L) : J Y Z nL Qf (jlet (jup rf r 6 x) f) pc lo (jr x :: jr r :: rest) cs ss n sh rf I L :=
  J_putr (ci := 6) (kf := 6) (T := TX6) (N := 8) (ty0 := tyX6) (ty := tyX6 6) hX rfl inX6 (by decide +kernel) tyX6_ok nmX6 (jm 343 (by decide +kernel) (by decide +kernel)) rfl (Or.inr ⟨rfl, rfl, rfl⟩) (by decide +kernel) (by decide +kernel) (fun _ => rfl) (fun _ => rfl) hs hx hd kk
theorem p_X6_39 {r x : Nat} {f : jR → Option ρ} (hX : jOK Y Z RX6 cc nL "<init>" ret fr lw mcX msX) (hs : sh r = 7) (hx : sh x ≠ 0) (hd : decode cc pc = .ok (.putfield 39, 3)) (kk : ∀ rf1, J Y Z nL Qf (f rf1) (pc + 3) lo rest cs ss n sh rf1 I L) : J Y Z nL Qf (jlet (jup rf r 7 x) f) pc lo (jr x :: jr r :: rest) cs ss n sh rf I L :=
  J_putr (ci := 6) (kf := 7) (T := TX6) (N := 8) (ty0 := tyX6) (ty := tyX6 7) hX rfl inX6 (by decide +kernel) tyX6_ok nmX6 (jm 344 (by decide +kernel) (by decide +kernel)) rfl (Or.inr ⟨rfl, rfl, rfl⟩) (by decide +kernel) (by decide +kernel) (fun _ => rfl) (fun _ => rfl) hs hx hd kk
theorem s_X6_42 : jSiteIN RX6 42 yX3_init "PageLevels" cX3_init 1 0 := ⟨⟨List.mem_filter.mpr ⟨List.mem_of_getElem? (i := 244) (by decide +kernel), rfl⟩, (jm 317 (by decide +kernel) (by decide +kernel)), (jm 79 (by decide +kernel) (by decide +kernel)), (jm 318 (by decide +kernel) (by decide +kernel))⟩, rfl, by decide +kernel, by decide +kernel, by decide +kernel⟩
theorem p_X7_7 {r x : Nat} {f : jR → Option ρ} (hX : jOK Y Z RX7 cc nL "<init>" ret fr lw mcX msX) (hs : sh r = 8) (hx : sh x ≠ 0) (hd : decode cc pc = .ok (.putfield 7, 3)) (kk : ∀ rf1, J Y Z nL Qf (f rf1) (pc + 3) lo rest cs ss n sh rf1 I L) : J Y Z nL Qf (jlet (jup rf r 0 x) f) pc lo (jr x :: jr r :: rest) cs ss n sh rf I L :=
  J_putr (ci := 7) (kf := 0) (T := TX7) (N := 20) (ty0 := tyX7) (ty := tyX7 0) hX rfl inX7 (by decide +kernel) tyX7_ok nmX7 (jm 961 (by decide +kernel) (by decide +kernel)) rfl (Or.inr ⟨rfl, rfl, rfl⟩) (by decide +kernel) (by decide +kernel) (fun _ => rfl) (fun _ => rfl) hs hx hd kk
theorem p_X7_13 {r x : Nat} {f : jR → Option ρ} (hX : jOK Y Z RX7 cc nL "<init>" ret fr lw mcX msX) (hs : sh r = 8) (hx : sh x ≠ 0) (hd : decode cc pc = .ok (.putfield 13, 3)) (kk : ∀ rf1, J Y Z nL Qf (f rf1) (pc + 3) lo rest cs ss n sh rf1 I L) : J Y Z nL Qf (jlet (jup rf r 1 x) f) pc lo (jr x :: jr r :: rest) cs ss n sh rf I L :=
  J_putr (ci := 7) (kf := 1) (T := TX7) (N := 20) (ty0 := tyX7) (ty := tyX7 1) hX rfl inX7 (by decide +kernel) tyX7_ok nmX7 (jm 962 (by decide +kernel) (by decide +kernel)) rfl (Or.inr ⟨rfl, rfl, rfl⟩) (by decide +kernel) (by decide +kernel) (fun _ => rfl) (fun _ => rfl) hs hx hd kk
theorem p_X7_16 {r x : Nat} {f : jR → Option ρ} (hX : jOK Y Z RX7 cc nL "<init>" ret fr lw mcX msX) (hs : sh r = 8) (hx : sh x ≠ 0) (hd : decode cc pc = .ok (.putfield 16, 3)) (kk : ∀ rf1, J Y Z nL Qf (f rf1) (pc + 3) lo rest cs ss n sh rf1 I L) : J Y Z nL Qf (jlet (jup rf r 2 x) f) pc lo (jr x :: jr r :: rest) cs ss n sh rf I L :=
  J_putr (ci := 7) (kf := 2) (T := TX7) (N := 20) (ty0 := tyX7) (ty := tyX7 2) hX rfl inX7 (by decide +kernel) tyX7_ok nmX7 (jm 963 (by decide +kernel) (by decide +kernel)) rfl (Or.inr ⟨rfl, rfl, rfl⟩) (by decide +kernel) (by decide +kernel) (fun _ => rfl) (fun _ => rfl) hs hx hd kk
theorem p_X7_19 {r x : Nat} {f : jR → Option ρ} (hX : jOK Y Z RX7 cc nL "<init>" ret fr lw mcX msX) (hs : sh r = 8) (hx : sh x ≠ 0) (hd : decode cc pc = .ok (.putfield 19, 3)) (kk : ∀ rf1, J Y Z nL Qf (f rf1) (pc + 3) lo rest cs ss n sh rf1 I L) : J Y Z nL Qf (jlet (jup rf r 4 x) f) pc lo (jr x :: jr r :: rest) cs ss n sh rf I L :=
  J_putr (ci := 7) (kf := 4) (T := TX7) (N := 20) (ty0 := tyX7) (ty := tyX7 4) hX rfl inX7 (by decide +kernel) tyX7_ok nmX7 (jm 965 (by decide +kernel) (by decide +kernel)) rfl (Or.inr ⟨rfl, rfl, rfl⟩) (by decide +kernel) (by decide +kernel) (fun _ => rfl) (fun _ => rfl) hs hx hd kk
theorem p_X7_22 {r x : Nat} {f : jR → Option ρ} (hX : jOK Y Z RX7 cc nL "<init>" ret fr lw mcX msX) (hs : sh r = 8) (hx : sh x ≠ 0) (hd : decode cc pc = .ok (.putfield 22, 3)) (kk : ∀ rf1, J Y Z nL Qf (f rf1) (pc + 3) lo rest cs ss n sh rf1 I L) : J Y Z nL Qf (jlet (jup rf r 7 x) f) pc lo (jr x :: jr r :: rest) cs ss n sh rf I L :=
  J_putr (ci := 7) (kf := 7) (T := TX7) (N := 20) (ty0 := tyX7) (ty := tyX7 7) hX rfl inX7 (by decide +kernel) tyX7_ok nmX7 (jm 968 (by decide +kernel) (by decide +kernel)) rfl (Or.inr ⟨rfl, rfl, rfl⟩) (by decide +kernel) (by decide +kernel) (fun _ => rfl) (fun _ => rfl) hs hx hd kk
theorem p_X7_25 {r x : Nat} {f : jR → Option ρ} (hX : jOK Y Z RX7 cc nL "<init>" ret fr lw mcX msX) (hs : sh r = 8) (hx : sh x ≠ 0) (hd : decode cc pc = .ok (.putfield 25, 3)) (kk : ∀ rf1, J Y Z nL Qf (f rf1) (pc + 3) lo rest cs ss n sh rf1 I L) : J Y Z nL Qf (jlet (jup rf r 11 x) f) pc lo (jr x :: jr r :: rest) cs ss n sh rf I L :=
  J_putr (ci := 7) (kf := 11) (T := TX7) (N := 20) (ty0 := tyX7) (ty := tyX7 11) hX rfl inX7 (by decide +kernel) tyX7_ok nmX7 (jm 972 (by decide +kernel) (by decide +kernel)) rfl (Or.inr ⟨rfl, rfl, rfl⟩) (by decide +kernel) (by decide +kernel) (fun _ => rfl) (fun _ => rfl) hs hx hd kk
theorem p_X7_28 {r x : Nat} {f : jR → Option ρ} (hX : jOK Y Z RX7 cc nL "<init>" ret fr lw mcX msX) (hs : sh r = 8) (hx : sh x ≠ 0) (hd : decode cc pc = .ok (.putfield 28, 3)) (kk : ∀ rf1, J Y Z nL Qf (f rf1) (pc + 3) lo rest cs ss n sh rf1 I L) : J Y Z nL Qf (jlet (jup rf r 12 x) f) pc lo (jr x :: jr r :: rest) cs ss n sh rf I L :=
  J_putr (ci := 7) (kf := 12) (T := TX7) (N := 20) (ty0 := tyX7) (ty := tyX7 12) hX rfl inX7 (by decide +kernel) tyX7_ok nmX7 (jm 973 (by decide +kernel) (by decide +kernel)) rfl (Or.inr ⟨rfl, rfl, rfl⟩) (by decide +kernel) (by decide +kernel) (fun _ => rfl) (fun _ => rfl) hs hx hd kk
theorem p_X7_31 {r x : Nat} {f : jR → Option ρ} (hX : jOK Y Z RX7 cc nL "<init>" ret fr lw mcX msX) (hs : sh r = 8) (hx : sh x ≠ 0) (hd : decode cc pc = .ok (.putfield 31, 3)) (kk : ∀ rf1, J Y Z nL Qf (f rf1) (pc + 3) lo rest cs ss n sh rf1 I L) : J Y Z nL Qf (jlet (jup rf r 13 x) f) pc lo (jr x :: jr r :: rest) cs ss n sh rf I L :=
  J_putr (ci := 7) (kf := 13) (T := TX7) (N := 20) (ty0 := tyX7) (ty := tyX7 13) hX rfl inX7 (by decide +kernel) tyX7_ok nmX7 (jm 974 (by decide +kernel) (by decide +kernel)) rfl (Or.inr ⟨rfl, rfl, rfl⟩) (by decide +kernel) (by decide +kernel) (fun _ => rfl) (fun _ => rfl) hs hx hd kk
theorem p_X7_35 {r x : Nat} {f : jR → Option ρ} (hX : jOK Y Z RX7 cc nL "<init>" ret fr lw mcX msX) (hs : sh r = 8) (hx : sh x ≠ 0) (hd : decode cc pc = .ok (.putfield 35, 3)) (kk : ∀ rf1, J Y Z nL Qf (f rf1) (pc + 3) lo rest cs ss n sh rf1 I L) : J Y Z nL Qf (jlet (jup rf r 14 x) f) pc lo (jr x :: jr r :: rest) cs ss n sh rf I L :=
  J_putr (ci := 7) (kf := 14) (T := TX7) (N := 20) (ty0 := tyX7) (ty := tyX7 14) hX rfl inX7 (by decide +kernel) tyX7_ok nmX7 (jm 975 (by decide +kernel) (by decide +kernel)) rfl (Or.inr ⟨rfl, rfl, rfl⟩) (by decide +kernel) (by decide +kernel) (fun _ => rfl) (fun _ => rfl) hs hx hd kk
theorem p_X7_38 {r x : Nat} {f : jR → Option ρ} (hX : jOK Y Z RX7 cc nL "<init>" ret fr lw mcX msX) (hs : sh r = 8) (hx : sh x ≠ 0) (hd : decode cc pc = .ok (.putfield 38, 3)) (kk : ∀ rf1, J Y Z nL Qf (f rf1) (pc + 3) lo rest cs ss n sh rf1 I L) : J Y Z nL Qf (jlet (jup rf r 15 x) f) pc lo (jr x :: jr r :: rest) cs ss n sh rf I L :=
  J_putr (ci := 7) (kf := 15) (T := TX7) (N := 20) (ty0 := tyX7) (ty := tyX7 15) hX rfl inX7 (by decide +kernel) tyX7_ok nmX7 (jm 976 (by decide +kernel) (by decide +kernel)) rfl (Or.inr ⟨rfl, rfl, rfl⟩) (by decide +kernel) (by decide +kernel) (fun _ => rfl) (fun _ => rfl) hs hx hd kk
theorem p_X7_42 {r x : Nat} {f : jR → Option ρ} (hX : jOK Y Z RX7 cc nL "<init>" ret fr lw mcX msX) (hs : sh r = 8) (hx : sh x ≠ 0) (hd : decode cc pc = .ok (.putfield 42, 3)) (kk : ∀ rf1, J Y Z nL Qf (f rf1) (pc + 3) lo rest cs ss n sh rf1 I L) : J Y Z nL Qf (jlet (jup rf r 19 x) f) pc lo (jr x :: jr r :: rest) cs ss n sh rf I L :=
  J_putr (ci := 7) (kf := 19) (T := TX7) (N := 20) (ty0 := tyX7) (ty := tyX7 19) hX rfl inX7 (by decide +kernel) tyX7_ok nmX7 (jm 980 (by decide +kernel) (by decide +kernel)) rfl (Or.inr ⟨rfl, rfl, rfl⟩) (by decide +kernel) (by decide +kernel) (fun _ => rfl) (fun _ => rfl) hs hx hd kk
theorem pi_X0_9 {r : Nat} {x : Int32} (hX : jOK Y Z RX0 cc nL nm ret fr lw mcX msX) (hs : sh r = 1) (hd : decode cc pc = .ok (.putfield 9, 3)) (kk : J Y Z nL Qf k (pc + 3) lo rest cs ss n sh rf (jup I r 0 x) L) : J Y Z nL Qf k pc lo (ji x :: jr r :: rest) cs ss n sh rf I L :=
  J_putiC (ci := 0) (kf := 0) (T := TX0) (N := 2) (ty0 := tyX0) (ty := .int) hX rfl inX0 (by decide +kernel) tyX0_ok nmX0 (jm 107 (by decide +kernel) (by decide +kernel)) rfl (Or.inl rfl) (by decide +kernel) (by decide +kernel) rfl rfl hs hd kk
theorem pi_X0_15 {r : Nat} {x : Int32} (hX : jOK Y Z RX0 cc nL nm ret fr lw mcX msX) (hs : sh r = 1) (hd : decode cc pc = .ok (.putfield 15, 3)) (kk : J Y Z nL Qf k (pc + 3) lo rest cs ss n sh rf (jup I r 1 x) L) : J Y Z nL Qf k pc lo (ji x :: jr r :: rest) cs ss n sh rf I L :=
  J_putiC (ci := 0) (kf := 1) (T := TX0) (N := 2) (ty0 := tyX0) (ty := .int) hX rfl inX0 (by decide +kernel) tyX0_ok nmX0 (jm 109 (by decide +kernel) (by decide +kernel)) rfl (Or.inl rfl) (by decide +kernel) (by decide +kernel) rfl rfl hs hd kk
theorem pi_X2_68 {r : Nat} {x : Int32} (hX : jOK Y Z RX2 cc nL nm ret fr lw mcX msX) (hs : sh r = 3) (hd : decode cc pc = .ok (.putfield 68, 3)) (kk : J Y Z nL Qf k (pc + 3) lo rest cs ss n sh rf (jup I r 3 x) L) : J Y Z nL Qf k pc lo (ji x :: jr r :: rest) cs ss n sh rf I L :=
  J_putiC (ci := 2) (kf := 3) (T := TX2) (N := 19) (ty0 := tyX2) (ty := .int) hX rfl inX2 (by decide +kernel) tyX2_ok nmX2 (jm 151 (by decide +kernel) (by decide +kernel)) rfl (Or.inl rfl) (by decide +kernel) (by decide +kernel) rfl rfl hs hd kk
theorem pi_X2_71 {r : Nat} {x : Int32} (hX : jOK Y Z RX2 cc nL nm ret fr lw mcX msX) (hs : sh r = 3) (hd : decode cc pc = .ok (.putfield 71, 3)) (kk : J Y Z nL Qf k (pc + 3) lo rest cs ss n sh rf (jup I r 10 x) L) : J Y Z nL Qf k pc lo (ji x :: jr r :: rest) cs ss n sh rf I L :=
  J_putiC (ci := 2) (kf := 10) (T := TX2) (N := 19) (ty0 := tyX2) (ty := .int) hX rfl inX2 (by decide +kernel) tyX2_ok nmX2 (jm 162 (by decide +kernel) (by decide +kernel)) rfl (Or.inl rfl) (by decide +kernel) (by decide +kernel) rfl rfl hs hd kk
theorem pi_X2_37 {r : Nat} {x : Int32} (hX : jOK Y Z RX2 cc nL nm ret fr lw mcX msX) (hs : sh r = 3) (hd : decode cc pc = .ok (.putfield 37, 3)) (kk : J Y Z nL Qf k (pc + 3) lo rest cs ss n sh rf (jup I r 0 x) L) : J Y Z nL Qf k pc lo (ji x :: jr r :: rest) cs ss n sh rf I L :=
  J_putiC (ci := 2) (kf := 0) (T := TX2) (N := 19) (ty0 := tyX2) (ty := .int) hX rfl inX2 (by decide +kernel) tyX2_ok nmX2 (jm 143 (by decide +kernel) (by decide +kernel)) rfl (Or.inl rfl) (by decide +kernel) (by decide +kernel) rfl rfl hs hd kk
theorem pi_X2_41 {r : Nat} {x : Int32} (hX : jOK Y Z RX2 cc nL nm ret fr lw mcX msX) (hs : sh r = 3) (hd : decode cc pc = .ok (.putfield 41, 3)) (kk : J Y Z nL Qf k (pc + 3) lo rest cs ss n sh rf (jup I r 1 x) L) : J Y Z nL Qf k pc lo (ji x :: jr r :: rest) cs ss n sh rf I L :=
  J_putiC (ci := 2) (kf := 1) (T := TX2) (N := 19) (ty0 := tyX2) (ty := .int) hX rfl inX2 (by decide +kernel) tyX2_ok nmX2 (jm 146 (by decide +kernel) (by decide +kernel)) rfl (Or.inl rfl) (by decide +kernel) (by decide +kernel) rfl rfl hs hd kk
theorem pi_X2_44 {r : Nat} {x : Int32} (hX : jOK Y Z RX2 cc nL nm ret fr lw mcX msX) (hs : sh r = 3) (hd : decode cc pc = .ok (.putfield 44, 3)) (kk : J Y Z nL Qf k (pc + 3) lo rest cs ss n sh rf (jup I r 2 x) L) : J Y Z nL Qf k pc lo (ji x :: jr r :: rest) cs ss n sh rf I L :=
  J_putiC (ci := 2) (kf := 2) (T := TX2) (N := 19) (ty0 := tyX2) (ty := .int) hX rfl inX2 (by decide +kernel) tyX2_ok nmX2 (jm 148 (by decide +kernel) (by decide +kernel)) rfl (Or.inl rfl) (by decide +kernel) (by decide +kernel) rfl rfl hs hd kk
theorem pi_X2_47 {r : Nat} {x : Int32} (hX : jOK Y Z RX2 cc nL nm ret fr lw mcX msX) (hs : sh r = 3) (hd : decode cc pc = .ok (.putfield 47, 3)) (kk : J Y Z nL Qf k (pc + 3) lo rest cs ss n sh rf (jup I r 4 x) L) : J Y Z nL Qf k pc lo (ji x :: jr r :: rest) cs ss n sh rf I L :=
  J_putiC (ci := 2) (kf := 4) (T := TX2) (N := 19) (ty0 := tyX2) (ty := .int) hX rfl inX2 (by decide +kernel) tyX2_ok nmX2 (jm 152 (by decide +kernel) (by decide +kernel)) rfl (Or.inl rfl) (by decide +kernel) (by decide +kernel) rfl rfl hs hd kk
theorem pi_X2_50 {r : Nat} {x : Int32} (hX : jOK Y Z RX2 cc nL nm ret fr lw mcX msX) (hs : sh r = 3) (hd : decode cc pc = .ok (.putfield 50, 3)) (kk : J Y Z nL Qf k (pc + 3) lo rest cs ss n sh rf (jup I r 5 x) L) : J Y Z nL Qf k pc lo (ji x :: jr r :: rest) cs ss n sh rf I L :=
  J_putiC (ci := 2) (kf := 5) (T := TX2) (N := 19) (ty0 := tyX2) (ty := .int) hX rfl inX2 (by decide +kernel) tyX2_ok nmX2 (jm 154 (by decide +kernel) (by decide +kernel)) rfl (Or.inl rfl) (by decide +kernel) (by decide +kernel) rfl rfl hs hd kk
theorem pi_X2_53 {r : Nat} {x : Int32} (hX : jOK Y Z RX2 cc nL nm ret fr lw mcX msX) (hs : sh r = 3) (hd : decode cc pc = .ok (.putfield 53, 3)) (kk : J Y Z nL Qf k (pc + 3) lo rest cs ss n sh rf (jup I r 6 x) L) : J Y Z nL Qf k pc lo (ji x :: jr r :: rest) cs ss n sh rf I L :=
  J_putiC (ci := 2) (kf := 6) (T := TX2) (N := 19) (ty0 := tyX2) (ty := .int) hX rfl inX2 (by decide +kernel) tyX2_ok nmX2 (jm 156 (by decide +kernel) (by decide +kernel)) rfl (Or.inl rfl) (by decide +kernel) (by decide +kernel) rfl rfl hs hd kk
theorem pi_X2_56 {r : Nat} {x : Int32} (hX : jOK Y Z RX2 cc nL nm ret fr lw mcX msX) (hs : sh r = 3) (hd : decode cc pc = .ok (.putfield 56, 3)) (kk : J Y Z nL Qf k (pc + 3) lo rest cs ss n sh rf (jup I r 7 x) L) : J Y Z nL Qf k pc lo (ji x :: jr r :: rest) cs ss n sh rf I L :=
  J_putiC (ci := 2) (kf := 7) (T := TX2) (N := 19) (ty0 := tyX2) (ty := .int) hX rfl inX2 (by decide +kernel) tyX2_ok nmX2 (jm 158 (by decide +kernel) (by decide +kernel)) rfl (Or.inl rfl) (by decide +kernel) (by decide +kernel) rfl rfl hs hd kk
theorem pi_X2_59 {r : Nat} {x : Int32} (hX : jOK Y Z RX2 cc nL nm ret fr lw mcX msX) (hs : sh r = 3) (hd : decode cc pc = .ok (.putfield 59, 3)) (kk : J Y Z nL Qf k (pc + 3) lo rest cs ss n sh rf (jup I r 8 x) L) : J Y Z nL Qf k pc lo (ji x :: jr r :: rest) cs ss n sh rf I L :=
  J_putiC (ci := 2) (kf := 8) (T := TX2) (N := 19) (ty0 := tyX2) (ty := .int) hX rfl inX2 (by decide +kernel) tyX2_ok nmX2 (jm 159 (by decide +kernel) (by decide +kernel)) rfl (Or.inl rfl) (by decide +kernel) (by decide +kernel) rfl rfl hs hd kk
theorem pi_X2_62 {r : Nat} {x : Int32} (hX : jOK Y Z RX2 cc nL nm ret fr lw mcX msX) (hs : sh r = 3) (hd : decode cc pc = .ok (.putfield 62, 3)) (kk : J Y Z nL Qf k (pc + 3) lo rest cs ss n sh rf (jup I r 9 x) L) : J Y Z nL Qf k pc lo (ji x :: jr r :: rest) cs ss n sh rf I L :=
  J_putiC (ci := 2) (kf := 9) (T := TX2) (N := 19) (ty0 := tyX2) (ty := .int) hX rfl inX2 (by decide +kernel) tyX2_ok nmX2 (jm 161 (by decide +kernel) (by decide +kernel)) rfl (Or.inl rfl) (by decide +kernel) (by decide +kernel) rfl rfl hs hd kk
theorem pi_X3_9 {r : Nat} {x : Int32} (hX : jOK Y Z RX3 cc nL nm ret fr lw mcX msX) (hs : sh r = 4) (hd : decode cc pc = .ok (.putfield 9, 3)) (kk : J Y Z nL Qf k (pc + 3) lo rest cs ss n sh rf (jup I r 0 x) L) : J Y Z nL Qf k pc lo (ji x :: jr r :: rest) cs ss n sh rf I L :=
  J_putiC (ci := 3) (kf := 0) (T := TX3) (N := 4) (ty0 := tyX3) (ty := .int) hX rfl inX3 (by decide +kernel) tyX3_ok nmX3 (jm 320 (by decide +kernel) (by decide +kernel)) rfl (Or.inl rfl) (by decide +kernel) (by decide +kernel) rfl rfl hs hd kk
theorem pi_X3_15 {r : Nat} {x : Int32} (hX : jOK Y Z RX3 cc nL nm ret fr lw mcX msX) (hs : sh r = 4) (hd : decode cc pc = .ok (.putfield 15, 3)) (kk : J Y Z nL Qf k (pc + 3) lo rest cs ss n sh rf (jup I r 1 x) L) : J Y Z nL Qf k pc lo (ji x :: jr r :: rest) cs ss n sh rf I L :=
  J_putiC (ci := 3) (kf := 1) (T := TX3) (N := 4) (ty0 := tyX3) (ty := .int) hX rfl inX3 (by decide +kernel) tyX3_ok nmX3 (jm 322 (by decide +kernel) (by decide +kernel)) rfl (Or.inl rfl) (by decide +kernel) (by decide +kernel) rfl rfl hs hd kk
theorem pi_X3_22 {r : Nat} {x : Int32} (hX : jOK Y Z RX3 cc nL nm ret fr lw mcX msX) (hs : sh r = 4) (hd : decode cc pc = .ok (.putfield 22, 3)) (kk : J Y Z nL Qf k (pc + 3) lo rest cs ss n sh rf (jup I r 2 x) L) : J Y Z nL Qf k pc lo (ji x :: jr r :: rest) cs ss n sh rf I L :=
  J_putiC (ci := 3) (kf := 2) (T := TX3) (N := 4) (ty0 := tyX3) (ty := .int) hX rfl inX3 (by decide +kernel) tyX3_ok nmX3 (jm 324 (by decide +kernel) (by decide +kernel)) rfl (Or.inl rfl) (by decide +kernel) (by decide +kernel) rfl rfl hs hd kk
theorem pi_X4_43 {r : Nat} {x : Int32} (hX : jOK Y Z RX4 cc nL nm ret fr lw mcX msX) (hs : sh r = 5) (hd : decode cc pc = .ok (.putfield 43, 3)) (kk : J Y Z nL Qf k (pc + 3) lo rest cs ss n sh rf (jup I r 1 x) L) : J Y Z nL Qf k pc lo (ji x :: jr r :: rest) cs ss n sh rf I L :=
  J_putiC (ci := 4) (kf := 1) (T := TX4) (N := 18) (ty0 := tyX4) (ty := .int) hX rfl inX4 (by decide +kernel) tyX4_ok nmX4 (jm 212 (by decide +kernel) (by decide +kernel)) rfl (Or.inl rfl) (by decide +kernel) (by decide +kernel) rfl rfl hs hd kk
theorem pi_X4_21 {r : Nat} {x : Int32} (hX : jOK Y Z RX4 cc nL nm ret fr lw mcX msX) (hs : sh r = 5) (hd : decode cc pc = .ok (.putfield 21, 3)) (kk : J Y Z nL Qf k (pc + 3) lo rest cs ss n sh rf (jup I r 3 x) L) : J Y Z nL Qf k pc lo (ji x :: jr r :: rest) cs ss n sh rf I L :=
  J_putiC (ci := 4) (kf := 3) (T := TX4) (N := 18) (ty0 := tyX4) (ty := .int) hX rfl inX4 (by decide +kernel) tyX4_ok nmX4 (jm 215 (by decide +kernel) (by decide +kernel)) rfl (Or.inl rfl) (by decide +kernel) (by decide +kernel) rfl rfl hs hd kk
theorem pi_X4_60 {r : Nat} {x : Int32} (hX : jOK Y Z RX4 cc nL nm ret fr lw mcX msX) (hs : sh r = 5) (hd : decode cc pc = .ok (.putfield 60, 3)) (kk : J Y Z nL Qf k (pc + 3) lo rest cs ss n sh rf (jup I r 4 x) L) : J Y Z nL Qf k pc lo (ji x :: jr r :: rest) cs ss n sh rf I L :=
  J_putiC (ci := 4) (kf := 4) (T := TX4) (N := 18) (ty0 := tyX4) (ty := .int) hX rfl inX4 (by decide +kernel) tyX4_ok nmX4 (jm 217 (by decide +kernel) (by decide +kernel)) rfl (Or.inl rfl) (by decide +kernel) (by decide +kernel) rfl rfl hs hd kk
theorem pi_X4_63 {r : Nat} {x : Int32} (hX : jOK Y Z RX4 cc nL nm ret fr lw mcX msX) (hs : sh r = 5) (hd : decode cc pc = .ok (.putfield 63, 3)) (kk : J Y Z nL Qf k (pc + 3) lo rest cs ss n sh rf (jup I r 5 x) L) : J Y Z nL Qf k pc lo (ji x :: jr r :: rest) cs ss n sh rf I L :=
  J_putiC (ci := 4) (kf := 5) (T := TX4) (N := 18) (ty0 := tyX4) (ty := .int) hX rfl inX4 (by decide +kernel) tyX4_ok nmX4 (jm 219 (by decide +kernel) (by decide +kernel)) rfl (Or.inl rfl) (by decide +kernel) (by decide +kernel) rfl rfl hs hd kk
theorem pi_X4_66 {r : Nat} {x : Int32} (hX : jOK Y Z RX4 cc nL nm ret fr lw mcX msX) (hs : sh r = 5) (hd : decode cc pc = .ok (.putfield 66, 3)) (kk : J Y Z nL Qf k (pc + 3) lo rest cs ss n sh rf (jup I r 6 x) L) : J Y Z nL Qf k pc lo (ji x :: jr r :: rest) cs ss n sh rf I L :=
  J_putiC (ci := 4) (kf := 6) (T := TX4) (N := 18) (ty0 := tyX4) (ty := .int) hX rfl inX4 (by decide +kernel) tyX4_ok nmX4 (jm 221 (by decide +kernel) (by decide +kernel)) rfl (Or.inl rfl) (by decide +kernel) (by decide +kernel) rfl rfl hs hd kk
theorem pi_X4_69 {r : Nat} {x : Int32} (hX : jOK Y Z RX4 cc nL nm ret fr lw mcX msX) (hs : sh r = 5) (hd : decode cc pc = .ok (.putfield 69, 3)) (kk : J Y Z nL Qf k (pc + 3) lo rest cs ss n sh rf (jup I r 7 x) L) : J Y Z nL Qf k pc lo (ji x :: jr r :: rest) cs ss n sh rf I L :=
  J_putiC (ci := 4) (kf := 7) (T := TX4) (N := 18) (ty0 := tyX4) (ty := .int) hX rfl inX4 (by decide +kernel) tyX4_ok nmX4 (jm 223 (by decide +kernel) (by decide +kernel)) rfl (Or.inl rfl) (by decide +kernel) (by decide +kernel) rfl rfl hs hd kk
theorem pi_X4_72 {r : Nat} {x : Int32} (hX : jOK Y Z RX4 cc nL nm ret fr lw mcX msX) (hs : sh r = 5) (hd : decode cc pc = .ok (.putfield 72, 3)) (kk : J Y Z nL Qf k (pc + 3) lo rest cs ss n sh rf (jup I r 8 x) L) : J Y Z nL Qf k pc lo (ji x :: jr r :: rest) cs ss n sh rf I L :=
  J_putiC (ci := 4) (kf := 8) (T := TX4) (N := 18) (ty0 := tyX4) (ty := .int) hX rfl inX4 (by decide +kernel) tyX4_ok nmX4 (jm 225 (by decide +kernel) (by decide +kernel)) rfl (Or.inl rfl) (by decide +kernel) (by decide +kernel) rfl rfl hs hd kk
theorem pi_X4_25 {r : Nat} {x : Int32} (hX : jOK Y Z RX4 cc nL nm ret fr lw mcX msX) (hs : sh r = 5) (hd : decode cc pc = .ok (.putfield 25, 3)) (kk : J Y Z nL Qf k (pc + 3) lo rest cs ss n sh rf (jup I r 9 x) L) : J Y Z nL Qf k pc lo (ji x :: jr r :: rest) cs ss n sh rf I L :=
  J_putiC (ci := 4) (kf := 9) (T := TX4) (N := 18) (ty0 := tyX4) (ty := .int) hX rfl inX4 (by decide +kernel) tyX4_ok nmX4 (jm 227 (by decide +kernel) (by decide +kernel)) rfl (Or.inl rfl) (by decide +kernel) (by decide +kernel) rfl rfl hs hd kk
theorem pi_X4_75 {r : Nat} {x : Int32} (hX : jOK Y Z RX4 cc nL nm ret fr lw mcX msX) (hs : sh r = 5) (hd : decode cc pc = .ok (.putfield 75, 3)) (kk : J Y Z nL Qf k (pc + 3) lo rest cs ss n sh rf (jup I r 10 x) L) : J Y Z nL Qf k pc lo (ji x :: jr r :: rest) cs ss n sh rf I L :=
  J_putiC (ci := 4) (kf := 10) (T := TX4) (N := 18) (ty0 := tyX4) (ty := .int) hX rfl inX4 (by decide +kernel) tyX4_ok nmX4 (jm 228 (by decide +kernel) (by decide +kernel)) rfl (Or.inl rfl) (by decide +kernel) (by decide +kernel) rfl rfl hs hd kk
theorem pi_X4_78 {r : Nat} {x : Int32} (hX : jOK Y Z RX4 cc nL nm ret fr lw mcX msX) (hs : sh r = 5) (hd : decode cc pc = .ok (.putfield 78, 3)) (kk : J Y Z nL Qf k (pc + 3) lo rest cs ss n sh rf (jup I r 11 x) L) : J Y Z nL Qf k pc lo (ji x :: jr r :: rest) cs ss n sh rf I L :=
  J_putiC (ci := 4) (kf := 11) (T := TX4) (N := 18) (ty0 := tyX4) (ty := .int) hX rfl inX4 (by decide +kernel) tyX4_ok nmX4 (jm 230 (by decide +kernel) (by decide +kernel)) rfl (Or.inl rfl) (by decide +kernel) (by decide +kernel) rfl rfl hs hd kk
theorem pi_X4_81 {r : Nat} {x : Int32} (hX : jOK Y Z RX4 cc nL nm ret fr lw mcX msX) (hs : sh r = 5) (hd : decode cc pc = .ok (.putfield 81, 3)) (kk : J Y Z nL Qf k (pc + 3) lo rest cs ss n sh rf (jup I r 12 x) L) : J Y Z nL Qf k pc lo (ji x :: jr r :: rest) cs ss n sh rf I L :=
  J_putiC (ci := 4) (kf := 12) (T := TX4) (N := 18) (ty0 := tyX4) (ty := .int) hX rfl inX4 (by decide +kernel) tyX4_ok nmX4 (jm 232 (by decide +kernel) (by decide +kernel)) rfl (Or.inl rfl) (by decide +kernel) (by decide +kernel) rfl rfl hs hd kk
theorem pi_X4_84 {r : Nat} {x : Int32} (hX : jOK Y Z RX4 cc nL nm ret fr lw mcX msX) (hs : sh r = 5) (hd : decode cc pc = .ok (.putfield 84, 3)) (kk : J Y Z nL Qf k (pc + 3) lo rest cs ss n sh rf (jup I r 13 x) L) : J Y Z nL Qf k pc lo (ji x :: jr r :: rest) cs ss n sh rf I L :=
  J_putiC (ci := 4) (kf := 13) (T := TX4) (N := 18) (ty0 := tyX4) (ty := .int) hX rfl inX4 (by decide +kernel) tyX4_ok nmX4 (jm 234 (by decide +kernel) (by decide +kernel)) rfl (Or.inl rfl) (by decide +kernel) (by decide +kernel) rfl rfl hs hd kk
theorem pi_X4_116 {r : Nat} {x : Int32} (hX : jOK Y Z RX4 cc nL nm ret fr lw mcX msX) (hs : sh r = 5) (hd : decode cc pc = .ok (.putfield 116, 3)) (kk : J Y Z nL Qf k (pc + 3) lo rest cs ss n sh rf (jup I r 16 x) L) : J Y Z nL Qf k pc lo (ji x :: jr r :: rest) cs ss n sh rf I L :=
  J_putiC (ci := 4) (kf := 16) (T := TX4) (N := 18) (ty0 := tyX4) (ty := .int) hX rfl inX4 (by decide +kernel) tyX4_ok nmX4 (jm 239 (by decide +kernel) (by decide +kernel)) rfl (Or.inl rfl) (by decide +kernel) (by decide +kernel) rfl rfl hs hd kk
theorem pi_X4_105 {r : Nat} {x : Int32} (hX : jOK Y Z RX4 cc nL nm ret fr lw mcX msX) (hs : sh r = 5) (hd : decode cc pc = .ok (.putfield 105, 3)) (kk : J Y Z nL Qf k (pc + 3) lo rest cs ss n sh rf (jup I r 17 x) L) : J Y Z nL Qf k pc lo (ji x :: jr r :: rest) cs ss n sh rf I L :=
  J_putiC (ci := 4) (kf := 17) (T := TX4) (N := 18) (ty0 := tyX4) (ty := .int) hX rfl inX4 (by decide +kernel) tyX4_ok nmX4 (jm 241 (by decide +kernel) (by decide +kernel)) rfl (Or.inl rfl) (by decide +kernel) (by decide +kernel) rfl rfl hs hd kk
theorem pi_X4_147 {r : Nat} {x : Int32} (hX : jOK Y Z RX4 cc nL nm ret fr lw mcX msX) (hs : sh r = 3) (hd : decode cc pc = .ok (.putfield 147, 3)) (kk : J Y Z nL Qf k (pc + 3) lo rest cs ss n sh rf (jup I r 6 x) L) : J Y Z nL Qf k pc lo (ji x :: jr r :: rest) cs ss n sh rf I L :=
  J_putiC (ci := 2) (kf := 6) (T := TX2) (N := 19) (ty0 := tyX2) (ty := .int) hX rfl inX2 (by decide +kernel) tyX2_ok nmX2 (jm 157 (by decide +kernel) (by decide +kernel)) rfl (Or.inl rfl) (by decide +kernel) (by decide +kernel) rfl rfl hs hd kk
theorem pi_X4_138 {r : Nat} {x : Int32} (hX : jOK Y Z RX4 cc nL nm ret fr lw mcX msX) (hs : sh r = 3) (hd : decode cc pc = .ok (.putfield 138, 3)) (kk : J Y Z nL Qf k (pc + 3) lo rest cs ss n sh rf (jup I r 5 x) L) : J Y Z nL Qf k pc lo (ji x :: jr r :: rest) cs ss n sh rf I L :=
  J_putiC (ci := 2) (kf := 5) (T := TX2) (N := 19) (ty0 := tyX2) (ty := .int) hX rfl inX2 (by decide +kernel) tyX2_ok nmX2 (jm 155 (by decide +kernel) (by decide +kernel)) rfl (Or.inl rfl) (by decide +kernel) (by decide +kernel) rfl rfl hs hd kk
theorem pi_X4_196 {r : Nat} {x : Int32} (hX : jOK Y Z RX4 cc nL nm ret fr lw mcX msX) (hs : sh r = 3) (hd : decode cc pc = .ok (.putfield 196, 3)) (kk : J Y Z nL Qf k (pc + 3) lo rest cs ss n sh rf (jup I r 4 x) L) : J Y Z nL Qf k pc lo (ji x :: jr r :: rest) cs ss n sh rf I L :=
  J_putiC (ci := 2) (kf := 4) (T := TX2) (N := 19) (ty0 := tyX2) (ty := .int) hX rfl inX2 (by decide +kernel) tyX2_ok nmX2 (jm 153 (by decide +kernel) (by decide +kernel)) rfl (Or.inl rfl) (by decide +kernel) (by decide +kernel) rfl rfl hs hd kk
theorem pi_X4_216 {r : Nat} {x : Int32} (hX : jOK Y Z RX4 cc nL nm ret fr lw mcX msX) (hs : sh r = 3) (hd : decode cc pc = .ok (.putfield 216, 3)) (kk : J Y Z nL Qf k (pc + 3) lo rest cs ss n sh rf (jup I r 8 x) L) : J Y Z nL Qf k pc lo (ji x :: jr r :: rest) cs ss n sh rf I L :=
  J_putiC (ci := 2) (kf := 8) (T := TX2) (N := 19) (ty0 := tyX2) (ty := .int) hX rfl inX2 (by decide +kernel) tyX2_ok nmX2 (jm 160 (by decide +kernel) (by decide +kernel)) rfl (Or.inl rfl) (by decide +kernel) (by decide +kernel) rfl rfl hs hd kk
theorem pi_X5_24 {r : Nat} {x : Int32} (hX : jOK Y Z RX5 cc nL nm ret fr lw mcX msX) (hs : sh r = 6) (hd : decode cc pc = .ok (.putfield 24, 3)) (kk : J Y Z nL Qf k (pc + 3) lo rest cs ss n sh rf (jup I r 0 x) L) : J Y Z nL Qf k pc lo (ji x :: jr r :: rest) cs ss n sh rf I L :=
  J_putiC (ci := 5) (kf := 0) (T := TX5) (N := 8) (ty0 := tyX5) (ty := .int) hX rfl inX5 (by decide +kernel) tyX5_ok nmX5 (jm 286 (by decide +kernel) (by decide +kernel)) rfl (Or.inl rfl) (by decide +kernel) (by decide +kernel) rfl rfl hs hd kk
theorem pi_X5_54 {r : Nat} {x : Int32} (hX : jOK Y Z RX5 cc nL nm ret fr lw mcX msX) (hs : sh r = 6) (hd : decode cc pc = .ok (.putfield 54, 3)) (kk : J Y Z nL Qf k (pc + 3) lo rest cs ss n sh rf (jup I r 7 x) L) : J Y Z nL Qf k pc lo (ji x :: jr r :: rest) cs ss n sh rf I L :=
  J_putiC (ci := 5) (kf := 7) (T := TX5) (N := 8) (ty0 := tyX5) (ty := .int) hX rfl inX5 (by decide +kernel) tyX5_ok nmX5 (jm 295 (by decide +kernel) (by decide +kernel)) rfl (Or.inl rfl) (by decide +kernel) (by decide +kernel) rfl rfl hs hd kk
theorem pi_X5_32 {r : Nat} {x : Int32} (hX : jOK Y Z RX5 cc nL nm ret fr lw mcX msX) (hs : sh r = 6) (hd : decode cc pc = .ok (.putfield 32, 3)) (kk : J Y Z nL Qf k (pc + 3) lo rest cs ss n sh rf (jup I r 6 x) L) : J Y Z nL Qf k pc lo (ji x :: jr r :: rest) cs ss n sh rf I L :=
  J_putiC (ci := 5) (kf := 6) (T := TX5) (N := 8) (ty0 := tyX5) (ty := .int) hX rfl inX5 (by decide +kernel) tyX5_ok nmX5 (jm 294 (by decide +kernel) (by decide +kernel)) rfl (Or.inl rfl) (by decide +kernel) (by decide +kernel) rfl rfl hs hd kk
theorem pi_X5_35 {r : Nat} {x : Int32} (hX : jOK Y Z RX5 cc nL nm ret fr lw mcX msX) (hs : sh r = 6) (hd : decode cc pc = .ok (.putfield 35, 3)) (kk : J Y Z nL Qf k (pc + 3) lo rest cs ss n sh rf (jup I r 1 x) L) : J Y Z nL Qf k pc lo (ji x :: jr r :: rest) cs ss n sh rf I L :=
  J_putiC (ci := 5) (kf := 1) (T := TX5) (N := 8) (ty0 := tyX5) (ty := .int) hX rfl inX5 (by decide +kernel) tyX5_ok nmX5 (jm 288 (by decide +kernel) (by decide +kernel)) rfl (Or.inl rfl) (by decide +kernel) (by decide +kernel) rfl rfl hs hd kk
theorem pi_X6_134 {r : Nat} {x : Int32} (hX : jOK Y Z RX6 cc nL nm ret fr lw mcX msX) (hs : sh r = 6) (hd : decode cc pc = .ok (.putfield 134, 3)) (kk : J Y Z nL Qf k (pc + 3) lo rest cs ss n sh rf (jup I r 0 x) L) : J Y Z nL Qf k pc lo (ji x :: jr r :: rest) cs ss n sh rf I L :=
  J_putiC (ci := 5) (kf := 0) (T := TX5) (N := 8) (ty0 := tyX5) (ty := .int) hX rfl inX5 (by decide +kernel) tyX5_ok nmX5 (jm 287 (by decide +kernel) (by decide +kernel)) rfl (Or.inl rfl) (by decide +kernel) (by decide +kernel) rfl rfl hs hd kk
theorem pi_X6_162 {r : Nat} {x : Int32} (hX : jOK Y Z RX6 cc nL nm ret fr lw mcX msX) (hs : sh r = 5) (hd : decode cc pc = .ok (.putfield 162, 3)) (kk : J Y Z nL Qf k (pc + 3) lo rest cs ss n sh rf (jup I r 6 x) L) : J Y Z nL Qf k pc lo (ji x :: jr r :: rest) cs ss n sh rf I L :=
  J_putiC (ci := 4) (kf := 6) (T := TX4) (N := 18) (ty0 := tyX4) (ty := .int) hX rfl inX4 (by decide +kernel) tyX4_ok nmX4 (jm 222 (by decide +kernel) (by decide +kernel)) rfl (Or.inl rfl) (by decide +kernel) (by decide +kernel) rfl rfl hs hd kk
theorem pi_X6_103 {r : Nat} {x : Int32} (hX : jOK Y Z RX6 cc nL nm ret fr lw mcX msX) (hs : sh r = 5) (hd : decode cc pc = .ok (.putfield 103, 3)) (kk : J Y Z nL Qf k (pc + 3) lo rest cs ss n sh rf (jup I r 1 x) L) : J Y Z nL Qf k pc lo (ji x :: jr r :: rest) cs ss n sh rf I L :=
  J_putiC (ci := 4) (kf := 1) (T := TX4) (N := 18) (ty0 := tyX4) (ty := .int) hX rfl inX4 (by decide +kernel) tyX4_ok nmX4 (jm 213 (by decide +kernel) (by decide +kernel)) rfl (Or.inl rfl) (by decide +kernel) (by decide +kernel) rfl rfl hs hd kk
theorem pi_X6_178 {r : Nat} {x : Int32} (hX : jOK Y Z RX6 cc nL nm ret fr lw mcX msX) (hs : sh r = 5) (hd : decode cc pc = .ok (.putfield 178, 3)) (kk : J Y Z nL Qf k (pc + 3) lo rest cs ss n sh rf (jup I r 5 x) L) : J Y Z nL Qf k pc lo (ji x :: jr r :: rest) cs ss n sh rf I L :=
  J_putiC (ci := 4) (kf := 5) (T := TX4) (N := 18) (ty0 := tyX4) (ty := .int) hX rfl inX4 (by decide +kernel) tyX4_ok nmX4 (jm 220 (by decide +kernel) (by decide +kernel)) rfl (Or.inl rfl) (by decide +kernel) (by decide +kernel) rfl rfl hs hd kk
theorem pi_X6_175 {r : Nat} {x : Int32} (hX : jOK Y Z RX6 cc nL nm ret fr lw mcX msX) (hs : sh r = 5) (hd : decode cc pc = .ok (.putfield 175, 3)) (kk : J Y Z nL Qf k (pc + 3) lo rest cs ss n sh rf (jup I r 4 x) L) : J Y Z nL Qf k pc lo (ji x :: jr r :: rest) cs ss n sh rf I L :=
  J_putiC (ci := 4) (kf := 4) (T := TX4) (N := 18) (ty0 := tyX4) (ty := .int) hX rfl inX4 (by decide +kernel) tyX4_ok nmX4 (jm 218 (by decide +kernel) (by decide +kernel)) rfl (Or.inl rfl) (by decide +kernel) (by decide +kernel) rfl rfl hs hd kk
theorem pi_X6_181 {r : Nat} {x : Int32} (hX : jOK Y Z RX6 cc nL nm ret fr lw mcX msX) (hs : sh r = 5) (hd : decode cc pc = .ok (.putfield 181, 3)) (kk : J Y Z nL Qf k (pc + 3) lo rest cs ss n sh rf (jup I r 3 x) L) : J Y Z nL Qf k pc lo (ji x :: jr r :: rest) cs ss n sh rf I L :=
  J_putiC (ci := 4) (kf := 3) (T := TX4) (N := 18) (ty0 := tyX4) (ty := .int) hX rfl inX4 (by decide +kernel) tyX4_ok nmX4 (jm 216 (by decide +kernel) (by decide +kernel)) rfl (Or.inl rfl) (by decide +kernel) (by decide +kernel) rfl rfl hs hd kk
theorem pi_X6_117 {r : Nat} {x : Int32} (hX : jOK Y Z RX6 cc nL nm ret fr lw mcX msX) (hs : sh r = 3) (hd : decode cc pc = .ok (.putfield 117, 3)) (kk : J Y Z nL Qf k (pc + 3) lo rest cs ss n sh rf (jup I r 2 x) L) : J Y Z nL Qf k pc lo (ji x :: jr r :: rest) cs ss n sh rf I L :=
  J_putiC (ci := 2) (kf := 2) (T := TX2) (N := 19) (ty0 := tyX2) (ty := .int) hX rfl inX2 (by decide +kernel) tyX2_ok nmX2 (jm 149 (by decide +kernel) (by decide +kernel)) rfl (Or.inl rfl) (by decide +kernel) (by decide +kernel) rfl rfl hs hd kk
theorem pi_X6_202 {r : Nat} {x : Int32} (hX : jOK Y Z RX6 cc nL nm ret fr lw mcX msX) (hs : sh r = 3) (hd : decode cc pc = .ok (.putfield 202, 3)) (kk : J Y Z nL Qf k (pc + 3) lo rest cs ss n sh rf (jup I r 0 x) L) : J Y Z nL Qf k pc lo (ji x :: jr r :: rest) cs ss n sh rf I L :=
  J_putiC (ci := 2) (kf := 0) (T := TX2) (N := 19) (ty0 := tyX2) (ty := .int) hX rfl inX2 (by decide +kernel) tyX2_ok nmX2 (jm 145 (by decide +kernel) (by decide +kernel)) rfl (Or.inl rfl) (by decide +kernel) (by decide +kernel) rfl rfl hs hd kk
theorem pi_X6_305 {r : Nat} {x : Int32} (hX : jOK Y Z RX6 cc nL nm ret fr lw mcX msX) (hs : sh r = 1) (hd : decode cc pc = .ok (.putfield 305, 3)) (kk : J Y Z nL Qf k (pc + 3) lo rest cs ss n sh rf (jup I r 0 x) L) : J Y Z nL Qf k pc lo (ji x :: jr r :: rest) cs ss n sh rf I L :=
  J_putiC (ci := 0) (kf := 0) (T := TX0) (N := 2) (ty0 := tyX0) (ty := .int) hX rfl inX0 (by decide +kernel) tyX0_ok nmX0 (jm 108 (by decide +kernel) (by decide +kernel)) rfl (Or.inl rfl) (by decide +kernel) (by decide +kernel) rfl rfl hs hd kk
theorem pi_X6_308 {r : Nat} {x : Int32} (hX : jOK Y Z RX6 cc nL nm ret fr lw mcX msX) (hs : sh r = 7) (hv : x = 0 ∨ x = 1) (hd : decode cc pc = .ok (.putfield 308, 3)) (kk : J Y Z nL Qf k (pc + 3) lo rest cs ss n sh rf (jup I r 3 x) L) : J Y Z nL Qf k pc lo (ji x :: jr r :: rest) cs ss n sh rf I L :=
  J_putiC (ci := 6) (kf := 3) (T := TX6) (N := 8) (ty0 := tyX6) (ty := .boolean) hX rfl inX6 (by decide +kernel) tyX6_ok nmX6 (jm 340 (by decide +kernel) (by decide +kernel)) rfl (Or.inl rfl) (by decide +kernel) (by decide +kernel) (jz_nar hv) (jz_fit hv) hs hd kk
theorem pi_X7_94 {r : Nat} {x : Int32} (hX : jOK Y Z RX7 cc nL nm ret fr lw mcX msX) (hs : sh r = 8) (hd : decode cc pc = .ok (.putfield 94, 3)) (kk : J Y Z nL Qf k (pc + 3) lo rest cs ss n sh rf (jup I r 5 x) L) : J Y Z nL Qf k pc lo (ji x :: jr r :: rest) cs ss n sh rf I L :=
  J_putiC (ci := 7) (kf := 5) (T := TX7) (N := 20) (ty0 := tyX7) (ty := .int) hX rfl inX7 (by decide +kernel) tyX7_ok nmX7 (jm 966 (by decide +kernel) (by decide +kernel)) rfl (Or.inl rfl) (by decide +kernel) (by decide +kernel) rfl rfl hs hd kk
theorem pi_X7_98 {r : Nat} {x : Int32} (hX : jOK Y Z RX7 cc nL nm ret fr lw mcX msX) (hs : sh r = 8) (hd : decode cc pc = .ok (.putfield 98, 3)) (kk : J Y Z nL Qf k (pc + 3) lo rest cs ss n sh rf (jup I r 6 x) L) : J Y Z nL Qf k pc lo (ji x :: jr r :: rest) cs ss n sh rf I L :=
  J_putiC (ci := 7) (kf := 6) (T := TX7) (N := 20) (ty0 := tyX7) (ty := .int) hX rfl inX7 (by decide +kernel) tyX7_ok nmX7 (jm 967 (by decide +kernel) (by decide +kernel)) rfl (Or.inl rfl) (by decide +kernel) (by decide +kernel) rfl rfl hs hd kk
theorem pi_X7_156 {r : Nat} {x : Int32} (hX : jOK Y Z RX7 cc nL nm ret fr lw mcX msX) (hs : sh r = 8) (hd : decode cc pc = .ok (.putfield 156, 3)) (kk : J Y Z nL Qf k (pc + 3) lo rest cs ss n sh rf (jup I r 8 x) L) : J Y Z nL Qf k pc lo (ji x :: jr r :: rest) cs ss n sh rf I L :=
  J_putiC (ci := 7) (kf := 8) (T := TX7) (N := 20) (ty0 := tyX7) (ty := .int) hX rfl inX7 (by decide +kernel) tyX7_ok nmX7 (jm 969 (by decide +kernel) (by decide +kernel)) rfl (Or.inl rfl) (by decide +kernel) (by decide +kernel) rfl rfl hs hd kk
theorem pi_X7_162 {r : Nat} {x : Int32} (hX : jOK Y Z RX7 cc nL nm ret fr lw mcX msX) (hs : sh r = 8) (hd : decode cc pc = .ok (.putfield 162, 3)) (kk : J Y Z nL Qf k (pc + 3) lo rest cs ss n sh rf (jup I r 10 x) L) : J Y Z nL Qf k pc lo (ji x :: jr r :: rest) cs ss n sh rf I L :=
  J_putiC (ci := 7) (kf := 10) (T := TX7) (N := 20) (ty0 := tyX7) (ty := .int) hX rfl inX7 (by decide +kernel) tyX7_ok nmX7 (jm 971 (by decide +kernel) (by decide +kernel)) rfl (Or.inl rfl) (by decide +kernel) (by decide +kernel) rfl rfl hs hd kk
theorem pi_X7_159 {r : Nat} {x : Int32} (hX : jOK Y Z RX7 cc nL nm ret fr lw mcX msX) (hs : sh r = 8) (hd : decode cc pc = .ok (.putfield 159, 3)) (kk : J Y Z nL Qf k (pc + 3) lo rest cs ss n sh rf (jup I r 9 x) L) : J Y Z nL Qf k pc lo (ji x :: jr r :: rest) cs ss n sh rf I L :=
  J_putiC (ci := 7) (kf := 9) (T := TX7) (N := 20) (ty0 := tyX7) (ty := .int) hX rfl inX7 (by decide +kernel) tyX7_ok nmX7 (jm 970 (by decide +kernel) (by decide +kernel)) rfl (Or.inl rfl) (by decide +kernel) (by decide +kernel) rfl rfl hs hd kk
theorem pi_X7_224 {r : Nat} {x : Int32} (hX : jOK Y Z RX7 cc nL nm ret fr lw mcX msX) (hs : sh r = 8) (hd : decode cc pc = .ok (.putfield 224, 3)) (kk : J Y Z nL Qf k (pc + 3) lo rest cs ss n sh rf (jup I r 16 x) L) : J Y Z nL Qf k pc lo (ji x :: jr r :: rest) cs ss n sh rf I L :=
  J_putiC (ci := 7) (kf := 16) (T := TX7) (N := 20) (ty0 := tyX7) (ty := .int) hX rfl inX7 (by decide +kernel) tyX7_ok nmX7 (jm 977 (by decide +kernel) (by decide +kernel)) rfl (Or.inl rfl) (by decide +kernel) (by decide +kernel) rfl rfl hs hd kk
theorem pi_X7_227 {r : Nat} {x : Int32} (hX : jOK Y Z RX7 cc nL nm ret fr lw mcX msX) (hs : sh r = 8) (hd : decode cc pc = .ok (.putfield 227, 3)) (kk : J Y Z nL Qf k (pc + 3) lo rest cs ss n sh rf (jup I r 17 x) L) : J Y Z nL Qf k pc lo (ji x :: jr r :: rest) cs ss n sh rf I L :=
  J_putiC (ci := 7) (kf := 17) (T := TX7) (N := 20) (ty0 := tyX7) (ty := .int) hX rfl inX7 (by decide +kernel) tyX7_ok nmX7 (jm 978 (by decide +kernel) (by decide +kernel)) rfl (Or.inl rfl) (by decide +kernel) (by decide +kernel) rfl rfl hs hd kk
theorem pi_X7_230 {r : Nat} {x : Int32} (hX : jOK Y Z RX7 cc nL nm ret fr lw mcX msX) (hs : sh r = 8) (hd : decode cc pc = .ok (.putfield 230, 3)) (kk : J Y Z nL Qf k (pc + 3) lo rest cs ss n sh rf (jup I r 18 x) L) : J Y Z nL Qf k pc lo (ji x :: jr r :: rest) cs ss n sh rf I L :=
  J_putiC (ci := 7) (kf := 18) (T := TX7) (N := 20) (ty0 := tyX7) (ty := .int) hX rfl inX7 (by decide +kernel) tyX7_ok nmX7 (jm 979 (by decide +kernel) (by decide +kernel)) rfl (Or.inl rfl) (by decide +kernel) (by decide +kernel) rfl rfl hs hd kk
theorem pi_X7_260 {r : Nat} {x : Int32} (hX : jOK Y Z RX7 cc nL nm ret fr lw mcX msX) (hs : sh r = 8) (hv : x = 0 ∨ x = 1) (hd : decode cc pc = .ok (.putfield 260, 3)) (kk : J Y Z nL Qf k (pc + 3) lo rest cs ss n sh rf (jup I r 3 x) L) : J Y Z nL Qf k pc lo (ji x :: jr r :: rest) cs ss n sh rf I L :=
  J_putiC (ci := 7) (kf := 3) (T := TX7) (N := 20) (ty0 := tyX7) (ty := .boolean) hX rfl inX7 (by decide +kernel) tyX7_ok nmX7 (jm 964 (by decide +kernel) (by decide +kernel)) rfl (Or.inl rfl) (by decide +kernel) (by decide +kernel) (jz_nar hv) (jz_fit hv) hs hd kk
theorem pr_X1_9 {r x : Nat} (hX : jOK Y Z RX1 cc nL "<init>" ret fr lw mcX msX) (hs : sh r = 2) (hx : sh x ≠ 0) (hd : decode cc pc = .ok (.putfield 9, 3)) (kk : J Y Z nL Qf k (pc + 3) lo rest cs ss n sh (jup rf r 0 x) I L) : J Y Z nL Qf k pc lo (jr x :: jr r :: rest) cs ss n sh rf I L :=
  J_putrC (ci := 1) (kf := 0) (T := TX1) (N := 5) (ty0 := tyX1) (ty := tyX1 0) hX rfl inX1 (by decide +kernel) tyX1_ok nmX1 (jm 122 (by decide +kernel) (by decide +kernel)) rfl (Or.inr ⟨rfl, rfl, rfl⟩) (by decide +kernel) (by decide +kernel) (fun _ => rfl) (fun _ => rfl) hs hx hd kk
theorem pr_X1_15 {r x : Nat} (hX : jOK Y Z RX1 cc nL "<init>" ret fr lw mcX msX) (hs : sh r = 2) (hx : sh x ≠ 0) (hd : decode cc pc = .ok (.putfield 15, 3)) (kk : J Y Z nL Qf k (pc + 3) lo rest cs ss n sh (jup rf r 1 x) I L) : J Y Z nL Qf k pc lo (jr x :: jr r :: rest) cs ss n sh rf I L :=
  J_putrC (ci := 1) (kf := 1) (T := TX1) (N := 5) (ty0 := tyX1) (ty := tyX1 1) hX rfl inX1 (by decide +kernel) tyX1_ok nmX1 (jm 123 (by decide +kernel) (by decide +kernel)) rfl (Or.inr ⟨rfl, rfl, rfl⟩) (by decide +kernel) (by decide +kernel) (fun _ => rfl) (fun _ => rfl) hs hx hd kk
theorem pr_X1_18 {r x : Nat} (hX : jOK Y Z RX1 cc nL "<init>" ret fr lw mcX msX) (hs : sh r = 2) (hx : sh x ≠ 0) (hd : decode cc pc = .ok (.putfield 18, 3)) (kk : J Y Z nL Qf k (pc + 3) lo rest cs ss n sh (jup rf r 2 x) I L) : J Y Z nL Qf k pc lo (jr x :: jr r :: rest) cs ss n sh rf I L :=
  J_putrC (ci := 1) (kf := 2) (T := TX1) (N := 5) (ty0 := tyX1) (ty := tyX1 2) hX rfl inX1 (by decide +kernel) tyX1_ok nmX1 (jm 124 (by decide +kernel) (by decide +kernel)) rfl (Or.inr ⟨rfl, rfl, rfl⟩) (by decide +kernel) (by decide +kernel) (fun _ => rfl) (fun _ => rfl) hs hx hd kk
theorem pr_X1_21 {r x : Nat} (hX : jOK Y Z RX1 cc nL "<init>" ret fr lw mcX msX) (hs : sh r = 2) (hx : sh x ≠ 0) (hd : decode cc pc = .ok (.putfield 21, 3)) (kk : J Y Z nL Qf k (pc + 3) lo rest cs ss n sh (jup rf r 3 x) I L) : J Y Z nL Qf k pc lo (jr x :: jr r :: rest) cs ss n sh rf I L :=
  J_putrC (ci := 1) (kf := 3) (T := TX1) (N := 5) (ty0 := tyX1) (ty := tyX1 3) hX rfl inX1 (by decide +kernel) tyX1_ok nmX1 (jm 125 (by decide +kernel) (by decide +kernel)) rfl (Or.inr ⟨rfl, rfl, rfl⟩) (by decide +kernel) (by decide +kernel) (fun _ => rfl) (fun _ => rfl) hs hx hd kk
theorem pr_X1_24 {r x : Nat} (hX : jOK Y Z RX1 cc nL "<init>" ret fr lw mcX msX) (hs : sh r = 2) (hx : sh x ≠ 0) (hd : decode cc pc = .ok (.putfield 24, 3)) (kk : J Y Z nL Qf k (pc + 3) lo rest cs ss n sh (jup rf r 4 x) I L) : J Y Z nL Qf k pc lo (jr x :: jr r :: rest) cs ss n sh rf I L :=
  J_putrC (ci := 1) (kf := 4) (T := TX1) (N := 5) (ty0 := tyX1) (ty := tyX1 4) hX rfl inX1 (by decide +kernel) tyX1_ok nmX1 (jm 126 (by decide +kernel) (by decide +kernel)) rfl (Or.inr ⟨rfl, rfl, rfl⟩) (by decide +kernel) (by decide +kernel) (fun _ => rfl) (fun _ => rfl) hs hx hd kk
theorem pr_X2_9 {r x : Nat} (hX : jOK Y Z RX2 cc nL "<init>" ret fr lw mcX msX) (hs : sh r = 3) (hx : sh x ≠ 0) (hd : decode cc pc = .ok (.putfield 9, 3)) (kk : J Y Z nL Qf k (pc + 3) lo rest cs ss n sh (jup rf r 11 x) I L) : J Y Z nL Qf k pc lo (jr x :: jr r :: rest) cs ss n sh rf I L :=
  J_putrC (ci := 2) (kf := 11) (T := TX2) (N := 19) (ty0 := tyX2) (ty := tyX2 11) hX rfl inX2 (by decide +kernel) tyX2_ok nmX2 (jm 163 (by decide +kernel) (by decide +kernel)) rfl (Or.inr ⟨rfl, rfl, rfl⟩) (by decide +kernel) (by decide +kernel) (fun _ => rfl) (fun _ => rfl) hs hx hd kk
theorem pr_X2_15 {r x : Nat} (hX : jOK Y Z RX2 cc nL "<init>" ret fr lw mcX msX) (hs : sh r = 3) (hx : sh x ≠ 0) (hd : decode cc pc = .ok (.putfield 15, 3)) (kk : J Y Z nL Qf k (pc + 3) lo rest cs ss n sh (jup rf r 12 x) I L) : J Y Z nL Qf k pc lo (jr x :: jr r :: rest) cs ss n sh rf I L :=
  J_putrC (ci := 2) (kf := 12) (T := TX2) (N := 19) (ty0 := tyX2) (ty := tyX2 12) hX rfl inX2 (by decide +kernel) tyX2_ok nmX2 (jm 164 (by decide +kernel) (by decide +kernel)) rfl (Or.inr ⟨rfl, rfl, rfl⟩) (by decide +kernel) (by decide +kernel) (fun _ => rfl) (fun _ => rfl) hs hx hd kk
theorem pr_X2_18 {r x : Nat} (hX : jOK Y Z RX2 cc nL "<init>" ret fr lw mcX msX) (hs : sh r = 3) (hx : sh x ≠ 0) (hd : decode cc pc = .ok (.putfield 18, 3)) (kk : J Y Z nL Qf k (pc + 3) lo rest cs ss n sh (jup rf r 13 x) I L) : J Y Z nL Qf k pc lo (jr x :: jr r :: rest) cs ss n sh rf I L :=
  J_putrC (ci := 2) (kf := 13) (T := TX2) (N := 19) (ty0 := tyX2) (ty := tyX2 13) hX rfl inX2 (by decide +kernel) tyX2_ok nmX2 (jm 165 (by decide +kernel) (by decide +kernel)) rfl (Or.inr ⟨rfl, rfl, rfl⟩) (by decide +kernel) (by decide +kernel) (fun _ => rfl) (fun _ => rfl) hs hx hd kk
theorem pr_X2_22 {r x : Nat} (hX : jOK Y Z RX2 cc nL "<init>" ret fr lw mcX msX) (hs : sh r = 3) (hx : sh x ≠ 0) (hd : decode cc pc = .ok (.putfield 22, 3)) (kk : J Y Z nL Qf k (pc + 3) lo rest cs ss n sh (jup rf r 14 x) I L) : J Y Z nL Qf k pc lo (jr x :: jr r :: rest) cs ss n sh rf I L :=
  J_putrC (ci := 2) (kf := 14) (T := TX2) (N := 19) (ty0 := tyX2) (ty := tyX2 14) hX rfl inX2 (by decide +kernel) tyX2_ok nmX2 (jm 166 (by decide +kernel) (by decide +kernel)) rfl (Or.inr ⟨rfl, rfl, rfl⟩) (by decide +kernel) (by decide +kernel) (fun _ => rfl) (fun _ => rfl) hs hx hd kk
theorem pr_X2_25 {r x : Nat} (hX : jOK Y Z RX2 cc nL "<init>" ret fr lw mcX msX) (hs : sh r = 3) (hx : sh x ≠ 0) (hd : decode cc pc = .ok (.putfield 25, 3)) (kk : J Y Z nL Qf k (pc + 3) lo rest cs ss n sh (jup rf r 15 x) I L) : J Y Z nL Qf k pc lo (jr x :: jr r :: rest) cs ss n sh rf I L :=
  J_putrC (ci := 2) (kf := 15) (T := TX2) (N := 19) (ty0 := tyX2) (ty := tyX2 15) hX rfl inX2 (by decide +kernel) tyX2_ok nmX2 (jm 167 (by decide +kernel) (by decide +kernel)) rfl (Or.inr ⟨rfl, rfl, rfl⟩) (by decide +kernel) (by decide +kernel) (fun _ => rfl) (fun _ => rfl) hs hx hd kk
theorem pr_X2_28 {r x : Nat} (hX : jOK Y Z RX2 cc nL "<init>" ret fr lw mcX msX) (hs : sh r = 3) (hx : sh x ≠ 0) (hd : decode cc pc = .ok (.putfield 28, 3)) (kk : J Y Z nL Qf k (pc + 3) lo rest cs ss n sh (jup rf r 16 x) I L) : J Y Z nL Qf k pc lo (jr x :: jr r :: rest) cs ss n sh rf I L :=
  J_putrC (ci := 2) (kf := 16) (T := TX2) (N := 19) (ty0 := tyX2) (ty := tyX2 16) hX rfl inX2 (by decide +kernel) tyX2_ok nmX2 (jm 168 (by decide +kernel) (by decide +kernel)) rfl (Or.inr ⟨rfl, rfl, rfl⟩) (by decide +kernel) (by decide +kernel) (fun _ => rfl) (fun _ => rfl) hs hx hd kk
theorem pr_X2_31 {r x : Nat} (hX : jOK Y Z RX2 cc nL "<init>" ret fr lw mcX msX) (hs : sh r = 3) (hx : sh x ≠ 0) (hd : decode cc pc = .ok (.putfield 31, 3)) (kk : J Y Z nL Qf k (pc + 3) lo rest cs ss n sh (jup rf r 17 x) I L) : J Y Z nL Qf k pc lo (jr x :: jr r :: rest) cs ss n sh rf I L :=
  J_putrC (ci := 2) (kf := 17) (T := TX2) (N := 19) (ty0 := tyX2) (ty := tyX2 17) hX rfl inX2 (by decide +kernel) tyX2_ok nmX2 (jm 169 (by decide +kernel) (by decide +kernel)) rfl (Or.inr ⟨rfl, rfl, rfl⟩) (by decide +kernel) (by decide +kernel) (fun _ => rfl) (fun _ => rfl) hs hx hd kk
theorem pr_X2_34 {r x : Nat} (hX : jOK Y Z RX2 cc nL "<init>" ret fr lw mcX msX) (hs : sh r = 3) (hx : sh x ≠ 0) (hd : decode cc pc = .ok (.putfield 34, 3)) (kk : J Y Z nL Qf k (pc + 3) lo rest cs ss n sh (jup rf r 18 x) I L) : J Y Z nL Qf k pc lo (jr x :: jr r :: rest) cs ss n sh rf I L :=
  J_putrC (ci := 2) (kf := 18) (T := TX2) (N := 19) (ty0 := tyX2) (ty := tyX2 18) hX rfl inX2 (by decide +kernel) tyX2_ok nmX2 (jm 170 (by decide +kernel) (by decide +kernel)) rfl (Or.inr ⟨rfl, rfl, rfl⟩) (by decide +kernel) (by decide +kernel) (fun _ => rfl) (fun _ => rfl) hs hx hd kk
theorem pr_X4_11 {r x : Nat} (hX : jOK Y Z RX4 cc nL "<init>" ret fr lw mcX msX) (hs : sh r = 5) (hx : sh x ≠ 0) (hd : decode cc pc = .ok (.putfield 11, 3)) (kk : J Y Z nL Qf k (pc + 3) lo rest cs ss n sh (jup rf r 0 x) I L) : J Y Z nL Qf k pc lo (jr x :: jr r :: rest) cs ss n sh rf I L :=
  J_putrC (ci := 4) (kf := 0) (T := TX4) (N := 18) (ty0 := tyX4) (ty := tyX4 0) hX rfl inX4 (by decide +kernel) tyX4_ok nmX4 (jm 211 (by decide +kernel) (by decide +kernel)) rfl (Or.inr ⟨rfl, rfl, rfl⟩) (by decide +kernel) (by decide +kernel) (fun _ => rfl) (fun _ => rfl) hs hx hd kk
theorem pr_X4_17 {r x : Nat} (hX : jOK Y Z RX4 cc nL "<init>" ret fr lw mcX msX) (hs : sh r = 5) (hx : sh x ≠ 0) (hd : decode cc pc = .ok (.putfield 17, 3)) (kk : J Y Z nL Qf k (pc + 3) lo rest cs ss n sh (jup rf r 2 x) I L) : J Y Z nL Qf k pc lo (jr x :: jr r :: rest) cs ss n sh rf I L :=
  J_putrC (ci := 4) (kf := 2) (T := TX4) (N := 18) (ty0 := tyX4) (ty := tyX4 2) hX rfl inX4 (by decide +kernel) tyX4_ok nmX4 (jm 214 (by decide +kernel) (by decide +kernel)) rfl (Or.inr ⟨rfl, rfl, rfl⟩) (by decide +kernel) (by decide +kernel) (fun _ => rfl) (fun _ => rfl) hs hx hd kk
theorem pr_X4_31 {r x : Nat} (hX : jOK Y Z RX4 cc nL "<init>" ret fr lw mcX msX) (hs : sh r = 5) (hx : sh x ≠ 0) (hd : decode cc pc = .ok (.putfield 31, 3)) (kk : J Y Z nL Qf k (pc + 3) lo rest cs ss n sh (jup rf r 14 x) I L) : J Y Z nL Qf k pc lo (jr x :: jr r :: rest) cs ss n sh rf I L :=
  J_putrC (ci := 4) (kf := 14) (T := TX4) (N := 18) (ty0 := tyX4) (ty := tyX4 14) hX rfl inX4 (by decide +kernel) tyX4_ok nmX4 (jm 235 (by decide +kernel) (by decide +kernel)) rfl (Or.inr ⟨rfl, rfl, rfl⟩) (by decide +kernel) (by decide +kernel) (fun _ => rfl) (fun _ => rfl) hs hx hd kk
theorem pr_X4_38 {r x : Nat} (hX : jOK Y Z RX4 cc nL "<init>" ret fr lw mcX msX) (hs : sh r = 5) (hx : sh x ≠ 0) (hd : decode cc pc = .ok (.putfield 38, 3)) (kk : J Y Z nL Qf k (pc + 3) lo rest cs ss n sh (jup rf r 15 x) I L) : J Y Z nL Qf k pc lo (jr x :: jr r :: rest) cs ss n sh rf I L :=
  J_putrC (ci := 4) (kf := 15) (T := TX4) (N := 18) (ty0 := tyX4) (ty := tyX4 15) hX rfl inX4 (by decide +kernel) tyX4_ok nmX4 (jm 237 (by decide +kernel) (by decide +kernel)) rfl (Or.inr ⟨rfl, rfl, rfl⟩) (by decide +kernel) (by decide +kernel) (fun _ => rfl) (fun _ => rfl) hs hx hd kk
theorem pr_X5_11 {r x : Nat} (hX : jOK Y Z RX5 cc nL "<init>" ret fr lw mcX msX) (hs : sh r = 6) (hx : sh x ≠ 0) (hd : decode cc pc = .ok (.putfield 11, 3)) (kk : J Y Z nL Qf k (pc + 3) lo rest cs ss n sh (jup rf r 2 x) I L) : J Y Z nL Qf k pc lo (jr x :: jr r :: rest) cs ss n sh rf I L :=
  J_putrC (ci := 5) (kf := 2) (T := TX5) (N := 8) (ty0 := tyX5) (ty := tyX5 2) hX rfl inX5 (by decide +kernel) tyX5_ok nmX5 (jm 290 (by decide +kernel) (by decide +kernel)) rfl (Or.inr ⟨rfl, rfl, rfl⟩) (by decide +kernel) (by decide +kernel) (fun _ => rfl) (fun _ => rfl) hs hx hd kk
theorem pr_X5_15 {r x : Nat} (hX : jOK Y Z RX5 cc nL "<init>" ret fr lw mcX msX) (hs : sh r = 6) (hx : sh x ≠ 0) (hd : decode cc pc = .ok (.putfield 15, 3)) (kk : J Y Z nL Qf k (pc + 3) lo rest cs ss n sh (jup rf r 3 x) I L) : J Y Z nL Qf k pc lo (jr x :: jr r :: rest) cs ss n sh rf I L :=
  J_putrC (ci := 5) (kf := 3) (T := TX5) (N := 8) (ty0 := tyX5) (ty := tyX5 3) hX rfl inX5 (by decide +kernel) tyX5_ok nmX5 (jm 291 (by decide +kernel) (by decide +kernel)) rfl (Or.inr ⟨rfl, rfl, rfl⟩) (by decide +kernel) (by decide +kernel) (fun _ => rfl) (fun _ => rfl) hs hx hd kk
theorem pr_X5_18 {r x : Nat} (hX : jOK Y Z RX5 cc nL "<init>" ret fr lw mcX msX) (hs : sh r = 6) (hx : sh x ≠ 0) (hd : decode cc pc = .ok (.putfield 18, 3)) (kk : J Y Z nL Qf k (pc + 3) lo rest cs ss n sh (jup rf r 4 x) I L) : J Y Z nL Qf k pc lo (jr x :: jr r :: rest) cs ss n sh rf I L :=
  J_putrC (ci := 5) (kf := 4) (T := TX5) (N := 8) (ty0 := tyX5) (ty := tyX5 4) hX rfl inX5 (by decide +kernel) tyX5_ok nmX5 (jm 292 (by decide +kernel) (by decide +kernel)) rfl (Or.inr ⟨rfl, rfl, rfl⟩) (by decide +kernel) (by decide +kernel) (fun _ => rfl) (fun _ => rfl) hs hx hd kk
theorem pr_X5_21 {r x : Nat} (hX : jOK Y Z RX5 cc nL "<init>" ret fr lw mcX msX) (hs : sh r = 6) (hx : sh x ≠ 0) (hd : decode cc pc = .ok (.putfield 21, 3)) (kk : J Y Z nL Qf k (pc + 3) lo rest cs ss n sh (jup rf r 5 x) I L) : J Y Z nL Qf k pc lo (jr x :: jr r :: rest) cs ss n sh rf I L :=
  J_putrC (ci := 5) (kf := 5) (T := TX5) (N := 8) (ty0 := tyX5) (ty := tyX5 5) hX rfl inX5 (by decide +kernel) tyX5_ok nmX5 (jm 293 (by decide +kernel) (by decide +kernel)) rfl (Or.inr ⟨rfl, rfl, rfl⟩) (by decide +kernel) (by decide +kernel) (fun _ => rfl) (fun _ => rfl) hs hx hd kk
theorem pr_X3_18 {r x : Nat} (hX : jOK Y Z RX3 cc nL "<init>" ret fr lw mcX msX) (hs : sh r = 4) (hx : sh x ≠ 0) (hd : decode cc pc = .ok (.putfield 18, 3)) (kk : J Y Z nL Qf k (pc + 3) lo rest cs ss n sh (jup rf r 3 x) I L) : J Y Z nL Qf k pc lo (jr x :: jr r :: rest) cs ss n sh rf I L :=
  J_putrC (ci := 3) (kf := 3) (T := TX3) (N := 4) (ty0 := tyX3) (ty := tyX3 3) hX rfl inX3 (by decide +kernel) tyX3_ok nmX3 (jm 325 (by decide +kernel) (by decide +kernel)) rfl (Or.inr ⟨rfl, rfl, rfl⟩) (by decide +kernel) (by decide +kernel) (fun _ => rfl) (fun _ => rfl) hs hx hd kk
theorem pr_X6_10 {r x : Nat} (hX : jOK Y Z RX6 cc nL "<init>" ret fr lw mcX msX) (hs : sh r = 7) (hx : sh x ≠ 0) (hd : decode cc pc = .ok (.putfield 10, 3)) (kk : J Y Z nL Qf k (pc + 3) lo rest cs ss n sh (jup rf r 0 x) I L) : J Y Z nL Qf k pc lo (jr x :: jr r :: rest) cs ss n sh rf I L :=
  J_putrC (ci := 6) (kf := 0) (T := TX6) (N := 8) (ty0 := tyX6) (ty := tyX6 0) hX rfl inX6 (by decide +kernel) tyX6_ok nmX6 (jm 337 (by decide +kernel) (by decide +kernel)) rfl (Or.inr ⟨rfl, rfl, rfl⟩) (by decide +kernel) (by decide +kernel) (fun _ => rfl) (fun _ => rfl) hs hx hd kk
theorem pr_X6_16 {r x : Nat} (hX : jOK Y Z RX6 cc nL "<init>" ret fr lw mcX msX) (hs : sh r = 7) (hx : sh x ≠ 0) (hd : decode cc pc = .ok (.putfield 16, 3)) (kk : J Y Z nL Qf k (pc + 3) lo rest cs ss n sh (jup rf r 1 x) I L) : J Y Z nL Qf k pc lo (jr x :: jr r :: rest) cs ss n sh rf I L :=
  J_putrC (ci := 6) (kf := 1) (T := TX6) (N := 8) (ty0 := tyX6) (ty := tyX6 1) hX rfl inX6 (by decide +kernel) tyX6_ok nmX6 (jm 338 (by decide +kernel) (by decide +kernel)) rfl (Or.inr ⟨rfl, rfl, rfl⟩) (by decide +kernel) (by decide +kernel) (fun _ => rfl) (fun _ => rfl) hs hx hd kk
theorem pr_X6_19 {r x : Nat} (hX : jOK Y Z RX6 cc nL "<init>" ret fr lw mcX msX) (hs : sh r = 7) (hx : sh x ≠ 0) (hd : decode cc pc = .ok (.putfield 19, 3)) (kk : J Y Z nL Qf k (pc + 3) lo rest cs ss n sh (jup rf r 2 x) I L) : J Y Z nL Qf k pc lo (jr x :: jr r :: rest) cs ss n sh rf I L :=
  J_putrC (ci := 6) (kf := 2) (T := TX6) (N := 8) (ty0 := tyX6) (ty := tyX6 2) hX rfl inX6 (by decide +kernel) tyX6_ok nmX6 (jm 339 (by decide +kernel) (by decide +kernel)) rfl (Or.inr ⟨rfl, rfl, rfl⟩) (by decide +kernel) (by decide +kernel) (fun _ => rfl) (fun _ => rfl) hs hx hd kk
theorem pr_X6_25 {r x : Nat} (hX : jOK Y Z RX6 cc nL "<init>" ret fr lw mcX msX) (hs : sh r = 7) (hx : sh x ≠ 0) (hd : decode cc pc = .ok (.putfield 25, 3)) (kk : J Y Z nL Qf k (pc + 3) lo rest cs ss n sh (jup rf r 4 x) I L) : J Y Z nL Qf k pc lo (jr x :: jr r :: rest) cs ss n sh rf I L :=
  J_putrC (ci := 6) (kf := 4) (T := TX6) (N := 8) (ty0 := tyX6) (ty := tyX6 4) hX rfl inX6 (by decide +kernel) tyX6_ok nmX6 (jm 341 (by decide +kernel) (by decide +kernel)) rfl (Or.inr ⟨rfl, rfl, rfl⟩) (by decide +kernel) (by decide +kernel) (fun _ => rfl) (fun _ => rfl) hs hx hd kk
theorem pr_X6_31 {r x : Nat} (hX : jOK Y Z RX6 cc nL "<init>" ret fr lw mcX msX) (hs : sh r = 7) (hx : sh x ≠ 0) (hd : decode cc pc = .ok (.putfield 31, 3)) (kk : J Y Z nL Qf k (pc + 3) lo rest cs ss n sh (jup rf r 5 x) I L) : J Y Z nL Qf k pc lo (jr x :: jr r :: rest) cs ss n sh rf I L :=
  J_putrC (ci := 6) (kf := 5) (T := TX6) (N := 8) (ty0 := tyX6) (ty := tyX6 5) hX rfl inX6 (by decide +kernel) tyX6_ok nmX6 (jm 342 (by decide +kernel) (by decide +kernel)) rfl (Or.inr ⟨rfl, rfl, rfl⟩) (by decide +kernel) (by decide +kernel) (fun _ => rfl) (fun _ => rfl) hs hx hd kk
theorem pr_X6_35 {r x : Nat} (hX : jOK Y Z RX6 cc nL "<init>" ret fr lw mcX msX) (hs : sh r = 7) (hx : sh x ≠ 0) (hd : decode cc pc = .ok (.putfield 35, 3)) (kk : J Y Z nL Qf k (pc + 3) lo rest cs ss n sh (jup rf r 6 x) I L) : J Y Z nL Qf k pc lo (jr x :: jr r :: rest) cs ss n sh rf I L :=
  J_putrC (ci := 6) (kf := 6) (T := TX6) (N := 8) (ty0 := tyX6) (ty := tyX6 6) hX rfl inX6 (by decide +kernel) tyX6_ok nmX6 (jm 343 (by decide +kernel) (by decide +kernel)) rfl (Or.inr ⟨rfl, rfl, rfl⟩) (by decide +kernel) (by decide +kernel) (fun _ => rfl) (fun _ => rfl) hs hx hd kk
theorem pr_X6_39 {r x : Nat} (hX : jOK Y Z RX6 cc nL "<init>" ret fr lw mcX msX) (hs : sh r = 7) (hx : sh x ≠ 0) (hd : decode cc pc = .ok (.putfield 39, 3)) (kk : J Y Z nL Qf k (pc + 3) lo rest cs ss n sh (jup rf r 7 x) I L) : J Y Z nL Qf k pc lo (jr x :: jr r :: rest) cs ss n sh rf I L :=
  J_putrC (ci := 6) (kf := 7) (T := TX6) (N := 8) (ty0 := tyX6) (ty := tyX6 7) hX rfl inX6 (by decide +kernel) tyX6_ok nmX6 (jm 344 (by decide +kernel) (by decide +kernel)) rfl (Or.inr ⟨rfl, rfl, rfl⟩) (by decide +kernel) (by decide +kernel) (fun _ => rfl) (fun _ => rfl) hs hx hd kk
theorem pr_X7_7 {r x : Nat} (hX : jOK Y Z RX7 cc nL "<init>" ret fr lw mcX msX) (hs : sh r = 8) (hx : sh x ≠ 0) (hd : decode cc pc = .ok (.putfield 7, 3)) (kk : J Y Z nL Qf k (pc + 3) lo rest cs ss n sh (jup rf r 0 x) I L) : J Y Z nL Qf k pc lo (jr x :: jr r :: rest) cs ss n sh rf I L :=
  J_putrC (ci := 7) (kf := 0) (T := TX7) (N := 20) (ty0 := tyX7) (ty := tyX7 0) hX rfl inX7 (by decide +kernel) tyX7_ok nmX7 (jm 961 (by decide +kernel) (by decide +kernel)) rfl (Or.inr ⟨rfl, rfl, rfl⟩) (by decide +kernel) (by decide +kernel) (fun _ => rfl) (fun _ => rfl) hs hx hd kk
theorem pr_X7_13 {r x : Nat} (hX : jOK Y Z RX7 cc nL "<init>" ret fr lw mcX msX) (hs : sh r = 8) (hx : sh x ≠ 0) (hd : decode cc pc = .ok (.putfield 13, 3)) (kk : J Y Z nL Qf k (pc + 3) lo rest cs ss n sh (jup rf r 1 x) I L) : J Y Z nL Qf k pc lo (jr x :: jr r :: rest) cs ss n sh rf I L :=
  J_putrC (ci := 7) (kf := 1) (T := TX7) (N := 20) (ty0 := tyX7) (ty := tyX7 1) hX rfl inX7 (by decide +kernel) tyX7_ok nmX7 (jm 962 (by decide +kernel) (by decide +kernel)) rfl (Or.inr ⟨rfl, rfl, rfl⟩) (by decide +kernel) (by decide +kernel) (fun _ => rfl) (fun _ => rfl) hs hx hd kk
theorem pr_X7_16 {r x : Nat} (hX : jOK Y Z RX7 cc nL "<init>" ret fr lw mcX msX) (hs : sh r = 8) (hx : sh x ≠ 0) (hd : decode cc pc = .ok (.putfield 16, 3)) (kk : J Y Z nL Qf k (pc + 3) lo rest cs ss n sh (jup rf r 2 x) I L) : J Y Z nL Qf k pc lo (jr x :: jr r :: rest) cs ss n sh rf I L :=
  J_putrC (ci := 7) (kf := 2) (T := TX7) (N := 20) (ty0 := tyX7) (ty := tyX7 2) hX rfl inX7 (by decide +kernel) tyX7_ok nmX7 (jm 963 (by decide +kernel) (by decide +kernel)) rfl (Or.inr ⟨rfl, rfl, rfl⟩) (by decide +kernel) (by decide +kernel) (fun _ => rfl) (fun _ => rfl) hs hx hd kk
theorem pr_X7_19 {r x : Nat} (hX : jOK Y Z RX7 cc nL "<init>" ret fr lw mcX msX) (hs : sh r = 8) (hx : sh x ≠ 0) (hd : decode cc pc = .ok (.putfield 19, 3)) (kk : J Y Z nL Qf k (pc + 3) lo rest cs ss n sh (jup rf r 4 x) I L) : J Y Z nL Qf k pc lo (jr x :: jr r :: rest) cs ss n sh rf I L :=
  J_putrC (ci := 7) (kf := 4) (T := TX7) (N := 20) (ty0 := tyX7) (ty := tyX7 4) hX rfl inX7 (by decide +kernel) tyX7_ok nmX7 (jm 965 (by decide +kernel) (by decide +kernel)) rfl (Or.inr ⟨rfl, rfl, rfl⟩) (by decide +kernel) (by decide +kernel) (fun _ => rfl) (fun _ => rfl) hs hx hd kk
theorem pr_X7_22 {r x : Nat} (hX : jOK Y Z RX7 cc nL "<init>" ret fr lw mcX msX) (hs : sh r = 8) (hx : sh x ≠ 0) (hd : decode cc pc = .ok (.putfield 22, 3)) (kk : J Y Z nL Qf k (pc + 3) lo rest cs ss n sh (jup rf r 7 x) I L) : J Y Z nL Qf k pc lo (jr x :: jr r :: rest) cs ss n sh rf I L :=
  J_putrC (ci := 7) (kf := 7) (T := TX7) (N := 20) (ty0 := tyX7) (ty := tyX7 7) hX rfl inX7 (by decide +kernel) tyX7_ok nmX7 (jm 968 (by decide +kernel) (by decide +kernel)) rfl (Or.inr ⟨rfl, rfl, rfl⟩) (by decide +kernel) (by decide +kernel) (fun _ => rfl) (fun _ => rfl) hs hx hd kk
theorem pr_X7_25 {r x : Nat} (hX : jOK Y Z RX7 cc nL "<init>" ret fr lw mcX msX) (hs : sh r = 8) (hx : sh x ≠ 0) (hd : decode cc pc = .ok (.putfield 25, 3)) (kk : J Y Z nL Qf k (pc + 3) lo rest cs ss n sh (jup rf r 11 x) I L) : J Y Z nL Qf k pc lo (jr x :: jr r :: rest) cs ss n sh rf I L :=
  J_putrC (ci := 7) (kf := 11) (T := TX7) (N := 20) (ty0 := tyX7) (ty := tyX7 11) hX rfl inX7 (by decide +kernel) tyX7_ok nmX7 (jm 972 (by decide +kernel) (by decide +kernel)) rfl (Or.inr ⟨rfl, rfl, rfl⟩) (by decide +kernel) (by decide +kernel) (fun _ => rfl) (fun _ => rfl) hs hx hd kk
theorem pr_X7_28 {r x : Nat} (hX : jOK Y Z RX7 cc nL "<init>" ret fr lw mcX msX) (hs : sh r = 8) (hx : sh x ≠ 0) (hd : decode cc pc = .ok (.putfield 28, 3)) (kk : J Y Z nL Qf k (pc + 3) lo rest cs ss n sh (jup rf r 12 x) I L) : J Y Z nL Qf k pc lo (jr x :: jr r :: rest) cs ss n sh rf I L :=
  J_putrC (ci := 7) (kf := 12) (T := TX7) (N := 20) (ty0 := tyX7) (ty := tyX7 12) hX rfl inX7 (by decide +kernel) tyX7_ok nmX7 (jm 973 (by decide +kernel) (by decide +kernel)) rfl (Or.inr ⟨rfl, rfl, rfl⟩) (by decide +kernel) (by decide +kernel) (fun _ => rfl) (fun _ => rfl) hs hx hd kk
theorem pr_X7_31 {r x : Nat} (hX : jOK Y Z RX7 cc nL "<init>" ret fr lw mcX msX) (hs : sh r = 8) (hx : sh x ≠ 0) (hd : decode cc pc = .ok (.putfield 31, 3)) (kk : J Y Z nL Qf k (pc + 3) lo rest cs ss n sh (jup rf r 13 x) I L) : J Y Z nL Qf k pc lo (jr x :: jr r :: rest) cs ss n sh rf I L :=
  J_putrC (ci := 7) (kf := 13) (T := TX7) (N := 20) (ty0 := tyX7) (ty := tyX7 13) hX rfl inX7 (by decide +kernel) tyX7_ok nmX7 (jm 974 (by decide +kernel) (by decide +kernel)) rfl (Or.inr ⟨rfl, rfl, rfl⟩) (by decide +kernel) (by decide +kernel) (fun _ => rfl) (fun _ => rfl) hs hx hd kk
theorem pr_X7_35 {r x : Nat} (hX : jOK Y Z RX7 cc nL "<init>" ret fr lw mcX msX) (hs : sh r = 8) (hx : sh x ≠ 0) (hd : decode cc pc = .ok (.putfield 35, 3)) (kk : J Y Z nL Qf k (pc + 3) lo rest cs ss n sh (jup rf r 14 x) I L) : J Y Z nL Qf k pc lo (jr x :: jr r :: rest) cs ss n sh rf I L :=
  J_putrC (ci := 7) (kf := 14) (T := TX7) (N := 20) (ty0 := tyX7) (ty := tyX7 14) hX rfl inX7 (by decide +kernel) tyX7_ok nmX7 (jm 975 (by decide +kernel) (by decide +kernel)) rfl (Or.inr ⟨rfl, rfl, rfl⟩) (by decide +kernel) (by decide +kernel) (fun _ => rfl) (fun _ => rfl) hs hx hd kk
theorem pr_X7_38 {r x : Nat} (hX : jOK Y Z RX7 cc nL "<init>" ret fr lw mcX msX) (hs : sh r = 8) (hx : sh x ≠ 0) (hd : decode cc pc = .ok (.putfield 38, 3)) (kk : J Y Z nL Qf k (pc + 3) lo rest cs ss n sh (jup rf r 15 x) I L) : J Y Z nL Qf k pc lo (jr x :: jr r :: rest) cs ss n sh rf I L :=
  J_putrC (ci := 7) (kf := 15) (T := TX7) (N := 20) (ty0 := tyX7) (ty := tyX7 15) hX rfl inX7 (by decide +kernel) tyX7_ok nmX7 (jm 976 (by decide +kernel) (by decide +kernel)) rfl (Or.inr ⟨rfl, rfl, rfl⟩) (by decide +kernel) (by decide +kernel) (fun _ => rfl) (fun _ => rfl) hs hx hd kk
theorem pr_X7_42 {r x : Nat} (hX : jOK Y Z RX7 cc nL "<init>" ret fr lw mcX msX) (hs : sh r = 8) (hx : sh x ≠ 0) (hd : decode cc pc = .ok (.putfield 42, 3)) (kk : J Y Z nL Qf k (pc + 3) lo rest cs ss n sh (jup rf r 19 x) I L) : J Y Z nL Qf k pc lo (jr x :: jr r :: rest) cs ss n sh rf I L :=
  J_putrC (ci := 7) (kf := 19) (T := TX7) (N := 20) (ty0 := tyX7) (ty := tyX7 19) hX rfl inX7 (by decide +kernel) tyX7_ok nmX7 (jm 980 (by decide +kernel) (by decide +kernel)) rfl (Or.inr ⟨rfl, rfl, rfl⟩) (by decide +kernel) (by decide +kernel) (fun _ => rfl) (fun _ => rfl) hs hx hd kk
theorem o_X0_3 : Cond.methodLink RX0 3 objectInit ∈ wsU ∧ Cond.instanceMethod objectInit ∈ wsU ∧ Cond.code objectInit ⟨#[0xb1]⟩ 1 none ∈ wsU := ⟨(jm 106 (by decide +kernel) (by decide +kernel)), (jm 91 (by decide +kernel) (by decide +kernel)), (jm 92 (by decide +kernel) (by decide +kernel))⟩
theorem o_X1_3 : Cond.methodLink RX1 3 objectInit ∈ wsU ∧ Cond.instanceMethod objectInit ∈ wsU ∧ Cond.code objectInit ⟨#[0xb1]⟩ 1 none ∈ wsU := ⟨(jm 121 (by decide +kernel) (by decide +kernel)), (jm 91 (by decide +kernel) (by decide +kernel)), (jm 92 (by decide +kernel) (by decide +kernel))⟩
theorem n_arr0 : Cond.arrayClass (newarray.typeOf .int) ∈ wsU := (jm 115 (by decide +kernel) (by decide +kernel))
theorem o_X2_3 : Cond.methodLink RX2 3 objectInit ∈ wsU ∧ Cond.instanceMethod objectInit ∈ wsU ∧ Cond.code objectInit ⟨#[0xb1]⟩ 1 none ∈ wsU := ⟨(jm 142 (by decide +kernel) (by decide +kernel)), (jm 91 (by decide +kernel) (by decide +kernel)), (jm 92 (by decide +kernel) (by decide +kernel))⟩
theorem n_arr1 : Cond.arrayClass (newarray.typeOf .boolean) ∈ wsU := (jm 210 (by decide +kernel) (by decide +kernel))
theorem o_X4_3 : Cond.methodLink RX4 3 objectInit ∈ wsU ∧ Cond.instanceMethod objectInit ∈ wsU ∧ Cond.code objectInit ⟨#[0xb1]⟩ 1 none ∈ wsU := ⟨(jm 98 (by decide +kernel) (by decide +kernel)), (jm 91 (by decide +kernel) (by decide +kernel)), (jm 92 (by decide +kernel) (by decide +kernel))⟩
theorem n_X4_28 : Cond.classLink RX4 28 RX0 ∈ wsU ∧ Cond.instantiable RX0 2 ∈ wsU ∧ Cond.initialized RX0 ∈ wsU := ⟨(jm 101 (by decide +kernel) (by decide +kernel)), (jm 102 (by decide +kernel) (by decide +kernel)), (jm 75 (by decide +kernel) (by decide +kernel))⟩
theorem n_X4_35 : Cond.classLink RX4 35 RX1 ∈ wsU ∧ Cond.instantiable RX1 5 ∈ wsU ∧ Cond.initialized RX1 ∈ wsU := ⟨(jm 116 (by decide +kernel) (by decide +kernel)), (jm 117 (by decide +kernel) (by decide +kernel)), (jm 76 (by decide +kernel) (by decide +kernel))⟩
theorem n_X4_9 : Cond.classLink RX4 9 RX2 ∈ wsU ∧ Cond.instantiable RX2 19 ∈ wsU ∧ Cond.initialized RX2 ∈ wsU := ⟨(jm 99 (by decide +kernel) (by decide +kernel)), (jm 138 (by decide +kernel) (by decide +kernel)), (jm 77 (by decide +kernel) (by decide +kernel))⟩
theorem o_X5_3 : Cond.methodLink RX5 3 objectInit ∈ wsU ∧ Cond.instanceMethod objectInit ∈ wsU ∧ Cond.code objectInit ⟨#[0xb1]⟩ 1 none ∈ wsU := ⟨(jm 285 (by decide +kernel) (by decide +kernel)), (jm 91 (by decide +kernel) (by decide +kernel)), (jm 92 (by decide +kernel) (by decide +kernel))⟩
theorem o_X3_3 : Cond.methodLink RX3 3 objectInit ∈ wsU ∧ Cond.instanceMethod objectInit ∈ wsU ∧ Cond.code objectInit ⟨#[0xb1]⟩ 1 none ∈ wsU := ⟨(jm 319 (by decide +kernel) (by decide +kernel)), (jm 91 (by decide +kernel) (by decide +kernel)), (jm 92 (by decide +kernel) (by decide +kernel))⟩
theorem n_arr2 : Cond.arrayClass (newarray.typeOf .long) ∈ wsU := (jm 336 (by decide +kernel) (by decide +kernel))
theorem o_X6_1 : Cond.methodLink RX6 1 objectInit ∈ wsU ∧ Cond.instanceMethod objectInit ∈ wsU ∧ Cond.code objectInit ⟨#[0xb1]⟩ 1 none ∈ wsU := ⟨(jm 90 (by decide +kernel) (by decide +kernel)), (jm 91 (by decide +kernel) (by decide +kernel)), (jm 92 (by decide +kernel) (by decide +kernel))⟩
theorem n_X6_7 : Cond.classLink RX6 7 RX4 ∈ wsU ∧ Cond.instantiable RX4 18 ∈ wsU ∧ Cond.initialized RX4 ∈ wsU := ⟨(jm 93 (by decide +kernel) (by decide +kernel)), (jm 94 (by decide +kernel) (by decide +kernel)), (jm 74 (by decide +kernel) (by decide +kernel))⟩
theorem n_X6_22 : Cond.classLink RX6 22 RX5 ∈ wsU ∧ Cond.instantiable RX5 8 ∈ wsU ∧ Cond.initialized RX5 ∈ wsU := ⟨(jm 280 (by decide +kernel) (by decide +kernel)), (jm 281 (by decide +kernel) (by decide +kernel)), (jm 78 (by decide +kernel) (by decide +kernel))⟩
theorem n_X6_29 : Cond.classLink RX6 29 RX3 ∈ wsU ∧ Cond.instantiable RX3 4 ∈ wsU ∧ Cond.initialized RX3 ∈ wsU := ⟨(jm 313 (by decide +kernel) (by decide +kernel)), (jm 315 (by decide +kernel) (by decide +kernel)), (jm 79 (by decide +kernel) (by decide +kernel))⟩
theorem o_X7_1 : Cond.methodLink RX7 1 objectInit ∈ wsU ∧ Cond.instanceMethod objectInit ∈ wsU ∧ Cond.code objectInit ⟨#[0xb1]⟩ 1 none ∈ wsU := ⟨(jm 960 (by decide +kernel) (by decide +kernel)), (jm 91 (by decide +kernel) (by decide +kernel)), (jm 92 (by decide +kernel) (by decide +kernel))⟩
end CSITES
def X0_init_iS (t n : Nat) (sh : jS) : jS := sh
def X0_init_iR (t n : Nat) (rf : jR) : jR := rf
def X0_init_iI (t n : Nat) (I : jI) : jI := (jup I t 0 (1 : Int32))
theorem X0_init_iS_old (t n : Nat) (sh : jS) {r : Nat} (h : r ≤ n) : X0_init_iS t n sh r = sh r := by
  unfold X0_init_iS
  rfl

theorem X0_init_iS_new (t n : Nat) (sh : jS) {r : Nat} (h : n < r) : X0_init_iS t n sh r = sh r := by
  unfold X0_init_iS
  rfl

theorem X0_init_iR_big (t n : Nat) (rf : jR) (h : ∀ a k, 20 ≤ k → rf a k = 0) : ∀ a k, 20 ≤ k → X0_init_iR t n rf a k = 0 := h
theorem X0_init_iR_old (t n : Nat) (rf : jR) (a : Nat) (h : a ≠ t) (h2 : a ≤ n) : X0_init_iR t n rf a = rf a := by
  unfold X0_init_iR
  rfl

theorem X0_init_iR_new (t n : Nat) (rf : jR) (ht : t ≤ n) (a : Nat) (h : n < a) : X0_init_iR t n rf a = rf a := by
  unfold X0_init_iR
  rfl

theorem X0_init_iI_old (t n : Nat) (I : jI) (a : Nat) (h : a ≠ t) (h2 : a ≤ n) : X0_init_iI t n I a = I a := by
  unfold X0_init_iI
  rw [jup_ne _ _ (by omega)]

theorem X0_init_iI_new (t n : Nat) (I : jI) (ht : t ≤ n) (a : Nat) (h : n < a) : X0_init_iI t n I a = I a := by
  unfold X0_init_iI
  rw [jup_ne _ _ (by omega)]

set_option maxRecDepth 20000 in
set_option maxHeartbeats 8000000 in
theorem K_X0_init (Y : jY) (hz : Y.zf = true) (t n : Nat) (sh : jS) (rf : jR) (I : jI) (L : jL) (hs : sh t = 1) (htn : t ≤ n) (hzr : ∀ a, n < a → rf a = (fun _ => 0) ∧ I a = (fun _ => 0) ∧ L a = (fun _ => 0)) : jMet Y yX0_init cX0_init 1 none 1 80 0 0 [jr t] n sh rf I L none (n) (X0_init_iS t n sh) (X0_init_iR t n rf) (X0_init_iI t n I) L := by
  refine jmet_of (some ()) () rfl (fun Z _ => jQ Y Z 0 0 none (n) (X0_init_iS t n sh) (X0_init_iR t n rf) (X0_init_iI t n I) L) (fun _ => rfl) (by decide) (Nat.le_of_ble_eq_true rfl) (fun Z hX => ?_)
  have hX : jOK Y Z RX0 cX0_init 1 "<init>" none 1 80 0 0 := hX
  obtain ⟨Qf, hQ⟩ : ∃ Qf : Unit → State → Prop, Qf () = jQ Y Z 0 0 none (n) (X0_init_iS t n sh) (X0_init_iR t n rf) (X0_init_iI t n I) L := ⟨fun _ => _, rfl⟩
  have hQ2 : (fun _ : Unit => jQ Y Z 0 0 none (n) (X0_init_iS t n sh) (X0_init_iR t n rf) (X0_init_iI t n I) L) = Qf := by funext u; exact hQ.symm
  show J Y Z 1 (fun _ : Unit => jQ Y Z 0 0 none (n) (X0_init_iS t n sh) (X0_init_iR t n rf) (X0_init_iI t n I) L) (some ()) 0 [(0, jr t)] [] 0 0 n sh rf I L
  rw [hQ2]
  clear hQ2
  refine J_aload_n (pc := 0) hX 0 rfl dX0_init_0 ?_
  refine J_objInit (pc := 1) hX (by rw [hs]; decide) o_X0_3 ⟨by decide, by decide⟩ (Nat.le_of_ble_eq_true rfl) dX0_init_1 ?_
  refine J_aload_n (pc := 4) hX 0 rfl dX0_init_4 ?_
  refine J_iconst (pc := 5) hX (v := (1 : Int32)) (by decide) dX0_init_5 ?_
  refine pi_X0_9 (pc := 6) hX hs dX0_init_6 ?_
  exact J_vret (pc := 9) hX hQ dX0_init_9
def X1_init_iS (t n : Nat) (sh : jS) : jS := (jrow (jrow (jrow (jrow (jrow sh (n + 1) 1020) (n + 2) 1020) (n + 3) 1020) (n + 4) 1020) (n + 5) 1064)
def X1_init_iR (t n : Nat) (rf : jR) : jR := (jup (jup (jup (jup (jup rf t 0 (n + 1)) t 1 (n + 2)) t 2 (n + 3)) t 3 (n + 4)) t 4 (n + 5))
def X1_init_iI (t n : Nat) (I : jI) : jI := I
theorem X1_init_iS_old (t n : Nat) (sh : jS) {r : Nat} (h : r ≤ n) : X1_init_iS t n sh r = sh r := by
  unfold X1_init_iS
  rw [jrow_ne _ _ (by omega)]
  rw [jrow_ne _ _ (by omega)]
  rw [jrow_ne _ _ (by omega)]
  rw [jrow_ne _ _ (by omega)]
  rw [jrow_ne _ _ (by omega)]

theorem X1_init_iS_new (t n : Nat) (sh : jS) {r : Nat} (h : n + 5 < r) : X1_init_iS t n sh r = sh r := by
  unfold X1_init_iS
  rw [jrow_ne _ _ (by omega)]
  rw [jrow_ne _ _ (by omega)]
  rw [jrow_ne _ _ (by omega)]
  rw [jrow_ne _ _ (by omega)]
  rw [jrow_ne _ _ (by omega)]

theorem X1_init_iR_big (t n : Nat) (rf : jR) (h : ∀ a k, 20 ≤ k → rf a k = 0) : ∀ a k, 20 ≤ k → X1_init_iR t n rf a k = 0 := (jup_big (jup_big (jup_big (jup_big (jup_big h (by decide)) (by decide)) (by decide)) (by decide)) (by decide))
theorem X1_init_iR_old (t n : Nat) (rf : jR) (a : Nat) (h : a ≠ t) (h2 : a ≤ n) : X1_init_iR t n rf a = rf a := by
  unfold X1_init_iR
  rw [jup_ne _ _ (by omega)]
  rw [jup_ne _ _ (by omega)]
  rw [jup_ne _ _ (by omega)]
  rw [jup_ne _ _ (by omega)]
  rw [jup_ne _ _ (by omega)]

theorem X1_init_iR_new (t n : Nat) (rf : jR) (ht : t ≤ n) (a : Nat) (h : n + 5 < a) : X1_init_iR t n rf a = rf a := by
  unfold X1_init_iR
  rw [jup_ne _ _ (by omega)]
  rw [jup_ne _ _ (by omega)]
  rw [jup_ne _ _ (by omega)]
  rw [jup_ne _ _ (by omega)]
  rw [jup_ne _ _ (by omega)]

theorem X1_init_iI_old (t n : Nat) (I : jI) (a : Nat) (h : a ≠ t) (h2 : a ≤ n) : X1_init_iI t n I a = I a := by
  unfold X1_init_iI
  rfl

theorem X1_init_iI_new (t n : Nat) (I : jI) (ht : t ≤ n) (a : Nat) (h : n + 5 < a) : X1_init_iI t n I a = I a := by
  unfold X1_init_iI
  rfl

set_option maxRecDepth 20000 in
set_option maxHeartbeats 8000000 in
theorem K_X1_init (Y : jY) (hz : Y.zf = true) (t n : Nat) (sh : jS) (rf : jR) (I : jI) (L : jL) (hs : sh t = 2) (htn : t ≤ n) (hzr : ∀ a, n < a → rf a = (fun _ => 0) ∧ I a = (fun _ => 0) ∧ L a = (fun _ => 0)) : jMet Y yX1_init cX1_init 1 none 1 80 5 144 [jr t] n sh rf I L none (n + 5) (X1_init_iS t n sh) (X1_init_iR t n rf) (X1_init_iI t n I) L := by
  refine jmet_of (some ()) () rfl (fun Z _ => jQ Y Z 5 144 none (n + 5) (X1_init_iS t n sh) (X1_init_iR t n rf) (X1_init_iI t n I) L) (fun _ => rfl) (by decide) (Nat.le_of_ble_eq_true rfl) (fun Z hX => ?_)
  have hX : jOK Y Z RX1 cX1_init 1 "<init>" none 1 80 5 144 := hX
  obtain ⟨Qf, hQ⟩ : ∃ Qf : Unit → State → Prop, Qf () = jQ Y Z 5 144 none (n + 5) (X1_init_iS t n sh) (X1_init_iR t n rf) (X1_init_iI t n I) L := ⟨fun _ => _, rfl⟩
  have hQ2 : (fun _ : Unit => jQ Y Z 5 144 none (n + 5) (X1_init_iS t n sh) (X1_init_iR t n rf) (X1_init_iI t n I) L) = Qf := by funext u; exact hQ.symm
  show J Y Z 1 (fun _ : Unit => jQ Y Z 5 144 none (n + 5) (X1_init_iS t n sh) (X1_init_iR t n rf) (X1_init_iI t n I) L) (some ()) 0 [(0, jr t)] [] 0 0 n sh rf I L
  rw [hQ2]
  clear hQ2
  refine J_aload_n (pc := 0) hX 0 rfl dX1_init_0 ?_
  refine J_objInit (pc := 1) hX (by rw [hs]; decide) o_X1_3 ⟨by decide, by decide⟩ (Nat.le_of_ble_eq_true rfl) dX1_init_1 ?_
  refine J_aload_n (pc := 4) hX 0 rfl dX1_init_4 ?_
  refine J_bipush (pc := 5) hX (v := (20 : Int32)) (by decide) dX1_init_5 ?_
  refine J_newa (pc := 7) (n := n) hX hz (t := 0) (N := 20) (atype := .int) (Or.inl ⟨rfl, rfl⟩) ⟨by decide, by decide, by decide⟩ n_arr0 (hzr (n + 1) (by omega)).2.1 (hzr (n + 1) (by omega)).2.2 ⟨by decide, by decide⟩ dX1_init_7 ?_
  refine pr_X1_9 (pc := 9) hX ((jrow_ne _ _ (by omega)).trans hs) (by rw [(jrow_self _ _ _)]; decide) dX1_init_9 ?_
  refine J_aload_n (pc := 12) hX 0 rfl dX1_init_12 ?_
  refine J_bipush (pc := 13) hX (v := (20 : Int32)) (by decide) dX1_init_13 ?_
  refine J_newa (pc := 15) (n := n + 1) hX hz (t := 0) (N := 20) (atype := .int) (Or.inl ⟨rfl, rfl⟩) ⟨by decide, by decide, by decide⟩ n_arr0 (hzr (n + 2) (by omega)).2.1 (hzr (n + 2) (by omega)).2.2 ⟨by decide, by decide⟩ dX1_init_15 ?_
  refine pr_X1_15 (pc := 17) hX ((jrow_ne _ _ (by omega)).trans ((jrow_ne _ _ (by omega)).trans hs)) (by rw [(jrow_self _ _ _)]; decide) dX1_init_17 ?_
  refine J_aload_n (pc := 20) hX 0 rfl dX1_init_20 ?_
  refine J_bipush (pc := 21) hX (v := (20 : Int32)) (by decide) dX1_init_21 ?_
  refine J_newa (pc := 23) (n := n + 2) hX hz (t := 0) (N := 20) (atype := .int) (Or.inl ⟨rfl, rfl⟩) ⟨by decide, by decide, by decide⟩ n_arr0 (hzr (n + 3) (by omega)).2.1 (hzr (n + 3) (by omega)).2.2 ⟨by decide, by decide⟩ dX1_init_23 ?_
  refine pr_X1_18 (pc := 25) hX ((jrow_ne _ _ (by omega)).trans ((jrow_ne _ _ (by omega)).trans ((jrow_ne _ _ (by omega)).trans hs))) (by rw [(jrow_self _ _ _)]; decide) dX1_init_25 ?_
  refine J_aload_n (pc := 28) hX 0 rfl dX1_init_28 ?_
  refine J_bipush (pc := 29) hX (v := (20 : Int32)) (by decide) dX1_init_29 ?_
  refine J_newa (pc := 31) (n := n + 3) hX hz (t := 0) (N := 20) (atype := .int) (Or.inl ⟨rfl, rfl⟩) ⟨by decide, by decide, by decide⟩ n_arr0 (hzr (n + 4) (by omega)).2.1 (hzr (n + 4) (by omega)).2.2 ⟨by decide, by decide⟩ dX1_init_31 ?_
  refine pr_X1_21 (pc := 33) hX ((jrow_ne _ _ (by omega)).trans ((jrow_ne _ _ (by omega)).trans ((jrow_ne _ _ (by omega)).trans ((jrow_ne _ _ (by omega)).trans hs)))) (by rw [(jrow_self _ _ _)]; decide) dX1_init_33 ?_
  refine J_aload_n (pc := 36) hX 0 rfl dX1_init_36 ?_
  refine J_bipush (pc := 37) hX (v := (64 : Int32)) (by decide) dX1_init_37 ?_
  refine J_newa (pc := 39) (n := n + 4) hX hz (t := 0) (N := 64) (atype := .int) (Or.inl ⟨rfl, rfl⟩) ⟨by decide, by decide, by decide⟩ n_arr0 (hzr (n + 5) (by omega)).2.1 (hzr (n + 5) (by omega)).2.2 ⟨by decide, by decide⟩ dX1_init_39 ?_
  refine pr_X1_24 (pc := 41) hX ((jrow_ne _ _ (by omega)).trans ((jrow_ne _ _ (by omega)).trans ((jrow_ne _ _ (by omega)).trans ((jrow_ne _ _ (by omega)).trans ((jrow_ne _ _ (by omega)).trans hs))))) (by rw [(jrow_self _ _ _)]; decide) dX1_init_41 ?_
  exact J_vret (pc := 44) hX hQ dX1_init_44
def X2_init_iS (t n : Nat) (sh : jS) : jS := (jrow (jrow (jrow (jrow (jrow (jrow (jrow (jrow sh (n + 1) 1016) (n + 2) 1016) (n + 3) 2016) (n + 4) 1016) (n + 5) 1016) (n + 6) 1016) (n + 7) 2016) (n + 8) 1064)
def X2_init_iR (t n : Nat) (rf : jR) : jR := (jup (jup (jup (jup (jup (jup (jup (jup rf t 11 (n + 1)) t 12 (n + 2)) t 13 (n + 3)) t 14 (n + 4)) t 15 (n + 5)) t 16 (n + 6)) t 17 (n + 7)) t 18 (n + 8))
def X2_init_iI (t n : Nat) (I : jI) : jI := I
theorem X2_init_iS_old (t n : Nat) (sh : jS) {r : Nat} (h : r ≤ n) : X2_init_iS t n sh r = sh r := by
  unfold X2_init_iS
  rw [jrow_ne _ _ (by omega)]
  rw [jrow_ne _ _ (by omega)]
  rw [jrow_ne _ _ (by omega)]
  rw [jrow_ne _ _ (by omega)]
  rw [jrow_ne _ _ (by omega)]
  rw [jrow_ne _ _ (by omega)]
  rw [jrow_ne _ _ (by omega)]
  rw [jrow_ne _ _ (by omega)]

theorem X2_init_iS_new (t n : Nat) (sh : jS) {r : Nat} (h : n + 8 < r) : X2_init_iS t n sh r = sh r := by
  unfold X2_init_iS
  rw [jrow_ne _ _ (by omega)]
  rw [jrow_ne _ _ (by omega)]
  rw [jrow_ne _ _ (by omega)]
  rw [jrow_ne _ _ (by omega)]
  rw [jrow_ne _ _ (by omega)]
  rw [jrow_ne _ _ (by omega)]
  rw [jrow_ne _ _ (by omega)]
  rw [jrow_ne _ _ (by omega)]

theorem X2_init_iR_big (t n : Nat) (rf : jR) (h : ∀ a k, 20 ≤ k → rf a k = 0) : ∀ a k, 20 ≤ k → X2_init_iR t n rf a k = 0 := (jup_big (jup_big (jup_big (jup_big (jup_big (jup_big (jup_big (jup_big h (by decide)) (by decide)) (by decide)) (by decide)) (by decide)) (by decide)) (by decide)) (by decide))
theorem X2_init_iR_old (t n : Nat) (rf : jR) (a : Nat) (h : a ≠ t) (h2 : a ≤ n) : X2_init_iR t n rf a = rf a := by
  unfold X2_init_iR
  rw [jup_ne _ _ (by omega)]
  rw [jup_ne _ _ (by omega)]
  rw [jup_ne _ _ (by omega)]
  rw [jup_ne _ _ (by omega)]
  rw [jup_ne _ _ (by omega)]
  rw [jup_ne _ _ (by omega)]
  rw [jup_ne _ _ (by omega)]
  rw [jup_ne _ _ (by omega)]

theorem X2_init_iR_new (t n : Nat) (rf : jR) (ht : t ≤ n) (a : Nat) (h : n + 8 < a) : X2_init_iR t n rf a = rf a := by
  unfold X2_init_iR
  rw [jup_ne _ _ (by omega)]
  rw [jup_ne _ _ (by omega)]
  rw [jup_ne _ _ (by omega)]
  rw [jup_ne _ _ (by omega)]
  rw [jup_ne _ _ (by omega)]
  rw [jup_ne _ _ (by omega)]
  rw [jup_ne _ _ (by omega)]
  rw [jup_ne _ _ (by omega)]

theorem X2_init_iI_old (t n : Nat) (I : jI) (a : Nat) (h : a ≠ t) (h2 : a ≤ n) : X2_init_iI t n I a = I a := by
  unfold X2_init_iI
  rfl

theorem X2_init_iI_new (t n : Nat) (I : jI) (ht : t ≤ n) (a : Nat) (h : n + 8 < a) : X2_init_iI t n I a = I a := by
  unfold X2_init_iI
  rfl

set_option maxRecDepth 20000 in
set_option maxHeartbeats 8000000 in
theorem K_X2_init (Y : jY) (hz : Y.zf = true) (t n : Nat) (sh : jS) (rf : jR) (I : jI) (L : jL) (hs : sh t = 3) (htn : t ≤ n) (hzr : ∀ a, n < a → rf a = (fun _ => 0) ∧ I a = (fun _ => 0) ∧ L a = (fun _ => 0)) : jMet Y yX2_init cX2_init 1 none 1 80 8 176 [jr t] n sh rf I L none (n + 8) (X2_init_iS t n sh) (X2_init_iR t n rf) (X2_init_iI t n I) L := by
  refine jmet_of (some ()) () rfl (fun Z _ => jQ Y Z 8 176 none (n + 8) (X2_init_iS t n sh) (X2_init_iR t n rf) (X2_init_iI t n I) L) (fun _ => rfl) (by decide) (Nat.le_of_ble_eq_true rfl) (fun Z hX => ?_)
  have hX : jOK Y Z RX2 cX2_init 1 "<init>" none 1 80 8 176 := hX
  obtain ⟨Qf, hQ⟩ : ∃ Qf : Unit → State → Prop, Qf () = jQ Y Z 8 176 none (n + 8) (X2_init_iS t n sh) (X2_init_iR t n rf) (X2_init_iI t n I) L := ⟨fun _ => _, rfl⟩
  have hQ2 : (fun _ : Unit => jQ Y Z 8 176 none (n + 8) (X2_init_iS t n sh) (X2_init_iR t n rf) (X2_init_iI t n I) L) = Qf := by funext u; exact hQ.symm
  show J Y Z 1 (fun _ : Unit => jQ Y Z 8 176 none (n + 8) (X2_init_iS t n sh) (X2_init_iR t n rf) (X2_init_iI t n I) L) (some ()) 0 [(0, jr t)] [] 0 0 n sh rf I L
  rw [hQ2]
  clear hQ2
  refine J_aload_n (pc := 0) hX 0 rfl dX2_init_0 ?_
  refine J_objInit (pc := 1) hX (by rw [hs]; decide) o_X2_3 ⟨by decide, by decide⟩ (Nat.le_of_ble_eq_true rfl) dX2_init_1 ?_
  refine J_aload_n (pc := 4) hX 0 rfl dX2_init_4 ?_
  refine J_bipush (pc := 5) hX (v := (16 : Int32)) (by decide) dX2_init_5 ?_
  refine J_newa (pc := 7) (n := n) hX hz (t := 0) (N := 16) (atype := .int) (Or.inl ⟨rfl, rfl⟩) ⟨by decide, by decide, by decide⟩ n_arr0 (hzr (n + 1) (by omega)).2.1 (hzr (n + 1) (by omega)).2.2 ⟨by decide, by decide⟩ dX2_init_7 ?_
  refine pr_X2_9 (pc := 9) hX ((jrow_ne _ _ (by omega)).trans hs) (by rw [(jrow_self _ _ _)]; decide) dX2_init_9 ?_
  refine J_aload_n (pc := 12) hX 0 rfl dX2_init_12 ?_
  refine J_bipush (pc := 13) hX (v := (16 : Int32)) (by decide) dX2_init_13 ?_
  refine J_newa (pc := 15) (n := n + 1) hX hz (t := 0) (N := 16) (atype := .int) (Or.inl ⟨rfl, rfl⟩) ⟨by decide, by decide, by decide⟩ n_arr0 (hzr (n + 2) (by omega)).2.1 (hzr (n + 2) (by omega)).2.2 ⟨by decide, by decide⟩ dX2_init_15 ?_
  refine pr_X2_15 (pc := 17) hX ((jrow_ne _ _ (by omega)).trans ((jrow_ne _ _ (by omega)).trans hs)) (by rw [(jrow_self _ _ _)]; decide) dX2_init_17 ?_
  refine J_aload_n (pc := 20) hX 0 rfl dX2_init_20 ?_
  refine J_bipush (pc := 21) hX (v := (16 : Int32)) (by decide) dX2_init_21 ?_
  refine J_newa (pc := 23) (n := n + 2) hX hz (t := 1) (N := 16) (atype := .boolean) (Or.inr (Or.inl ⟨rfl, rfl⟩)) ⟨by decide, by decide, by decide⟩ n_arr1 (hzr (n + 3) (by omega)).2.1 (hzr (n + 3) (by omega)).2.2 ⟨by decide, by decide⟩ dX2_init_23 ?_
  refine pr_X2_18 (pc := 25) hX ((jrow_ne _ _ (by omega)).trans ((jrow_ne _ _ (by omega)).trans ((jrow_ne _ _ (by omega)).trans hs))) (by rw [(jrow_self _ _ _)]; decide) dX2_init_25 ?_
  refine J_aload_n (pc := 28) hX 0 rfl dX2_init_28 ?_
  refine J_bipush (pc := 29) hX (v := (16 : Int32)) (by decide) dX2_init_29 ?_
  refine J_newa (pc := 31) (n := n + 3) hX hz (t := 0) (N := 16) (atype := .int) (Or.inl ⟨rfl, rfl⟩) ⟨by decide, by decide, by decide⟩ n_arr0 (hzr (n + 4) (by omega)).2.1 (hzr (n + 4) (by omega)).2.2 ⟨by decide, by decide⟩ dX2_init_31 ?_
  refine pr_X2_22 (pc := 33) hX ((jrow_ne _ _ (by omega)).trans ((jrow_ne _ _ (by omega)).trans ((jrow_ne _ _ (by omega)).trans ((jrow_ne _ _ (by omega)).trans hs)))) (by rw [(jrow_self _ _ _)]; decide) dX2_init_33 ?_
  refine J_aload_n (pc := 36) hX 0 rfl dX2_init_36 ?_
  refine J_bipush (pc := 37) hX (v := (16 : Int32)) (by decide) dX2_init_37 ?_
  refine J_newa (pc := 39) (n := n + 4) hX hz (t := 0) (N := 16) (atype := .int) (Or.inl ⟨rfl, rfl⟩) ⟨by decide, by decide, by decide⟩ n_arr0 (hzr (n + 5) (by omega)).2.1 (hzr (n + 5) (by omega)).2.2 ⟨by decide, by decide⟩ dX2_init_39 ?_
  refine pr_X2_25 (pc := 41) hX ((jrow_ne _ _ (by omega)).trans ((jrow_ne _ _ (by omega)).trans ((jrow_ne _ _ (by omega)).trans ((jrow_ne _ _ (by omega)).trans ((jrow_ne _ _ (by omega)).trans hs))))) (by rw [(jrow_self _ _ _)]; decide) dX2_init_41 ?_
  refine J_aload_n (pc := 44) hX 0 rfl dX2_init_44 ?_
  refine J_bipush (pc := 45) hX (v := (16 : Int32)) (by decide) dX2_init_45 ?_
  refine J_newa (pc := 47) (n := n + 5) hX hz (t := 0) (N := 16) (atype := .int) (Or.inl ⟨rfl, rfl⟩) ⟨by decide, by decide, by decide⟩ n_arr0 (hzr (n + 6) (by omega)).2.1 (hzr (n + 6) (by omega)).2.2 ⟨by decide, by decide⟩ dX2_init_47 ?_
  refine pr_X2_28 (pc := 49) hX ((jrow_ne _ _ (by omega)).trans ((jrow_ne _ _ (by omega)).trans ((jrow_ne _ _ (by omega)).trans ((jrow_ne _ _ (by omega)).trans ((jrow_ne _ _ (by omega)).trans ((jrow_ne _ _ (by omega)).trans hs)))))) (by rw [(jrow_self _ _ _)]; decide) dX2_init_49 ?_
  refine J_aload_n (pc := 52) hX 0 rfl dX2_init_52 ?_
  refine J_bipush (pc := 53) hX (v := (16 : Int32)) (by decide) dX2_init_53 ?_
  refine J_newa (pc := 55) (n := n + 6) hX hz (t := 1) (N := 16) (atype := .boolean) (Or.inr (Or.inl ⟨rfl, rfl⟩)) ⟨by decide, by decide, by decide⟩ n_arr1 (hzr (n + 7) (by omega)).2.1 (hzr (n + 7) (by omega)).2.2 ⟨by decide, by decide⟩ dX2_init_55 ?_
  refine pr_X2_31 (pc := 57) hX ((jrow_ne _ _ (by omega)).trans ((jrow_ne _ _ (by omega)).trans ((jrow_ne _ _ (by omega)).trans ((jrow_ne _ _ (by omega)).trans ((jrow_ne _ _ (by omega)).trans ((jrow_ne _ _ (by omega)).trans ((jrow_ne _ _ (by omega)).trans hs))))))) (by rw [(jrow_self _ _ _)]; decide) dX2_init_57 ?_
  refine J_aload_n (pc := 60) hX 0 rfl dX2_init_60 ?_
  refine J_bipush (pc := 61) hX (v := (64 : Int32)) (by decide) dX2_init_61 ?_
  refine J_newa (pc := 63) (n := n + 7) hX hz (t := 0) (N := 64) (atype := .int) (Or.inl ⟨rfl, rfl⟩) ⟨by decide, by decide, by decide⟩ n_arr0 (hzr (n + 8) (by omega)).2.1 (hzr (n + 8) (by omega)).2.2 ⟨by decide, by decide⟩ dX2_init_63 ?_
  refine pr_X2_34 (pc := 65) hX ((jrow_ne _ _ (by omega)).trans ((jrow_ne _ _ (by omega)).trans ((jrow_ne _ _ (by omega)).trans ((jrow_ne _ _ (by omega)).trans ((jrow_ne _ _ (by omega)).trans ((jrow_ne _ _ (by omega)).trans ((jrow_ne _ _ (by omega)).trans ((jrow_ne _ _ (by omega)).trans hs)))))))) (by rw [(jrow_self _ _ _)]; decide) dX2_init_65 ?_
  exact J_vret (pc := 68) hX hQ dX2_init_68
def X4_init_iS (t n : Nat) (sh : jS) : jS := (X2_init_iS (n + 37) (n + 37) (jrow (X2_init_iS (n + 28) (n + 28) (jrow (X2_init_iS (n + 19) (n + 19) (jrow (X2_init_iS (n + 10) (n + 10) (jrow (X1_init_iS (n + 4) (n + 4) (jrow (X0_init_iS (n + 3) (n + 3) (jrow (jrow (jrow sh (n + 1) 4004) (n + 2) 1064) (n + 3) 1)) (n + 4) 2)) (n + 10) 3)) (n + 19) 3)) (n + 28) 3)) (n + 37) 3))
def X4_init_iR (t n : Nat) (rf : jR) : jR := (jup (X2_init_iR (n + 37) (n + 37) (jup (X2_init_iR (n + 28) (n + 28) (jup (X2_init_iR (n + 19) (n + 19) (jup (X2_init_iR (n + 10) (n + 10) (jup (X1_init_iR (n + 4) (n + 4) (jup (X0_init_iR (n + 3) (n + 3) (jup (jup rf t 0 (n + 1)) t 2 (n + 2))) t 14 (n + 3))) t 15 (n + 4))) (n + 1) 0 (n + 10))) (n + 1) 1 (n + 19))) (n + 1) 2 (n + 28))) (n + 1) 3 (n + 37))
def X4_init_iI (t n : Nat) (I : jI) : jI := (X2_init_iI (n + 37) (n + 37) (X2_init_iI (n + 28) (n + 28) (X2_init_iI (n + 19) (n + 19) (X2_init_iI (n + 10) (n + 10) (X1_init_iI (n + 4) (n + 4) (X0_init_iI (n + 3) (n + 3) (jup (jup I t 3 (50 : Int32)) t 9 (-1 : Int32))))))))
theorem X4_init_iS_old (t n : Nat) (sh : jS) {r : Nat} (h : r ≤ n) : X4_init_iS t n sh r = sh r := by
  unfold X4_init_iS
  rw [X2_init_iS_old _ _ _ (by omega)]
  rw [jrow_ne _ _ (by omega)]
  rw [X2_init_iS_old _ _ _ (by omega)]
  rw [jrow_ne _ _ (by omega)]
  rw [X2_init_iS_old _ _ _ (by omega)]
  rw [jrow_ne _ _ (by omega)]
  rw [X2_init_iS_old _ _ _ (by omega)]
  rw [jrow_ne _ _ (by omega)]
  rw [X1_init_iS_old _ _ _ (by omega)]
  rw [jrow_ne _ _ (by omega)]
  rw [X0_init_iS_old _ _ _ (by omega)]
  rw [jrow_ne _ _ (by omega)]
  rw [jrow_ne _ _ (by omega)]
  rw [jrow_ne _ _ (by omega)]

theorem X4_init_iS_new (t n : Nat) (sh : jS) {r : Nat} (h : n + 45 < r) : X4_init_iS t n sh r = sh r := by
  unfold X4_init_iS
  rw [X2_init_iS_new _ _ _ (by omega)]
  rw [jrow_ne _ _ (by omega)]
  rw [X2_init_iS_new _ _ _ (by omega)]
  rw [jrow_ne _ _ (by omega)]
  rw [X2_init_iS_new _ _ _ (by omega)]
  rw [jrow_ne _ _ (by omega)]
  rw [X2_init_iS_new _ _ _ (by omega)]
  rw [jrow_ne _ _ (by omega)]
  rw [X1_init_iS_new _ _ _ (by omega)]
  rw [jrow_ne _ _ (by omega)]
  rw [X0_init_iS_new _ _ _ (by omega)]
  rw [jrow_ne _ _ (by omega)]
  rw [jrow_ne _ _ (by omega)]
  rw [jrow_ne _ _ (by omega)]

theorem X4_init_iR_big (t n : Nat) (rf : jR) (h : ∀ a k, 20 ≤ k → rf a k = 0) : ∀ a k, 20 ≤ k → X4_init_iR t n rf a k = 0 := (jup_big (X2_init_iR_big _ _ _ (jup_big (X2_init_iR_big _ _ _ (jup_big (X2_init_iR_big _ _ _ (jup_big (X2_init_iR_big _ _ _ (jup_big (X1_init_iR_big _ _ _ (jup_big (X0_init_iR_big _ _ _ (jup_big (jup_big h (by decide)) (by decide))) (by decide))) (by decide))) (by decide))) (by decide))) (by decide))) (by decide))
theorem X4_init_iR_old (t n : Nat) (rf : jR) (a : Nat) (h : a ≠ t) (h2 : a ≤ n) : X4_init_iR t n rf a = rf a := by
  unfold X4_init_iR
  rw [jup_ne _ _ (by omega)]
  rw [X2_init_iR_old _ _ _ _ (by omega) (by omega)]
  rw [jup_ne _ _ (by omega)]
  rw [X2_init_iR_old _ _ _ _ (by omega) (by omega)]
  rw [jup_ne _ _ (by omega)]
  rw [X2_init_iR_old _ _ _ _ (by omega) (by omega)]
  rw [jup_ne _ _ (by omega)]
  rw [X2_init_iR_old _ _ _ _ (by omega) (by omega)]
  rw [jup_ne _ _ (by omega)]
  rw [X1_init_iR_old _ _ _ _ (by omega) (by omega)]
  rw [jup_ne _ _ (by omega)]
  rw [X0_init_iR_old _ _ _ _ (by omega) (by omega)]
  rw [jup_ne _ _ (by omega)]
  rw [jup_ne _ _ (by omega)]

theorem X4_init_iR_new (t n : Nat) (rf : jR) (ht : t ≤ n) (a : Nat) (h : n + 45 < a) : X4_init_iR t n rf a = rf a := by
  unfold X4_init_iR
  rw [jup_ne _ _ (by omega)]
  rw [X2_init_iR_new _ _ _ (by omega) _ (by omega)]
  rw [jup_ne _ _ (by omega)]
  rw [X2_init_iR_new _ _ _ (by omega) _ (by omega)]
  rw [jup_ne _ _ (by omega)]
  rw [X2_init_iR_new _ _ _ (by omega) _ (by omega)]
  rw [jup_ne _ _ (by omega)]
  rw [X2_init_iR_new _ _ _ (by omega) _ (by omega)]
  rw [jup_ne _ _ (by omega)]
  rw [X1_init_iR_new _ _ _ (by omega) _ (by omega)]
  rw [jup_ne _ _ (by omega)]
  rw [X0_init_iR_new _ _ _ (by omega) _ (by omega)]
  rw [jup_ne _ _ (by omega)]
  rw [jup_ne _ _ (by omega)]

theorem X4_init_iI_old (t n : Nat) (I : jI) (a : Nat) (h : a ≠ t) (h2 : a ≤ n) : X4_init_iI t n I a = I a := by
  unfold X4_init_iI
  rw [X2_init_iI_old _ _ _ _ (by omega) (by omega)]
  rw [X2_init_iI_old _ _ _ _ (by omega) (by omega)]
  rw [X2_init_iI_old _ _ _ _ (by omega) (by omega)]
  rw [X2_init_iI_old _ _ _ _ (by omega) (by omega)]
  rw [X1_init_iI_old _ _ _ _ (by omega) (by omega)]
  rw [X0_init_iI_old _ _ _ _ (by omega) (by omega)]
  rw [jup_ne _ _ (by omega)]
  rw [jup_ne _ _ (by omega)]

theorem X4_init_iI_new (t n : Nat) (I : jI) (ht : t ≤ n) (a : Nat) (h : n + 45 < a) : X4_init_iI t n I a = I a := by
  unfold X4_init_iI
  rw [X2_init_iI_new _ _ _ (by omega) _ (by omega)]
  rw [X2_init_iI_new _ _ _ (by omega) _ (by omega)]
  rw [X2_init_iI_new _ _ _ (by omega) _ (by omega)]
  rw [X2_init_iI_new _ _ _ (by omega) _ (by omega)]
  rw [X1_init_iI_new _ _ _ (by omega) _ (by omega)]
  rw [X0_init_iI_new _ _ _ (by omega) _ (by omega)]
  rw [jup_ne _ _ (by omega)]
  rw [jup_ne _ _ (by omega)]

set_option maxRecDepth 20000 in
set_option maxHeartbeats 8000000 in
theorem K_X4_init (Y : jY) (hz : Y.zf = true) (t n : Nat) (sh : jS) (rf : jR) (I : jI) (L : jL) (hs : sh t = 5) (htn : t ≤ n) (hzr : ∀ a, n < a → rf a = (fun _ => 0) ∧ I a = (fun _ => 0) ∧ L a = (fun _ => 0)) : jMet Y yX4_init cX4_init 2 none 2 100 45 999 [jr t] n sh rf I L none (n + 45) (X4_init_iS t n sh) (X4_init_iR t n rf) (X4_init_iI t n I) L := by
  refine jmet_of (some ()) () rfl (fun Z _ => jQ Y Z 45 999 none (n + 45) (X4_init_iS t n sh) (X4_init_iR t n rf) (X4_init_iI t n I) L) (fun _ => rfl) (by decide) (Nat.le_of_ble_eq_true rfl) (fun Z hX => ?_)
  have hX : jOK Y Z RX4 cX4_init 2 "<init>" none 2 100 45 999 := hX
  obtain ⟨Qf, hQ⟩ : ∃ Qf : Unit → State → Prop, Qf () = jQ Y Z 45 999 none (n + 45) (X4_init_iS t n sh) (X4_init_iR t n rf) (X4_init_iI t n I) L := ⟨fun _ => _, rfl⟩
  have hQ2 : (fun _ : Unit => jQ Y Z 45 999 none (n + 45) (X4_init_iS t n sh) (X4_init_iR t n rf) (X4_init_iI t n I) L) = Qf := by funext u; exact hQ.symm
  show J Y Z 2 (fun _ : Unit => jQ Y Z 45 999 none (n + 45) (X4_init_iS t n sh) (X4_init_iR t n rf) (X4_init_iI t n I) L) (some ()) 0 [(0, jr t)] [] 0 0 n sh rf I L
  rw [hQ2]
  clear hQ2
  refine J_aload_n (pc := 0) hX 0 rfl dX4_init_0 ?_
  refine J_objInit (pc := 1) hX (by rw [hs]; decide) o_X4_3 ⟨by decide, by decide⟩ (Nat.le_of_ble_eq_true rfl) dX4_init_1 ?_
  refine J_aload_n (pc := 4) hX 0 rfl dX4_init_4 ?_
  refine J_iconst (pc := 5) hX (v := (4 : Int32)) (by decide) dX4_init_5 ?_
  refine J_anew (pc := 6) (n := n) hX hz (t := 0) (N := 4) (C := RX2) rfl ⟨by decide, by decide, by decide⟩ (jm 99 (by decide +kernel) (by decide +kernel)) (fun h => h.2.1) (hzr (n + 1) (by omega)).1 ⟨by decide, by decide⟩ dX4_init_6 ?_
  refine pr_X4_11 (pc := 9) hX ((jrow_ne _ _ (by omega)).trans hs) (by rw [(jrow_self _ _ _)]; decide) dX4_init_9 ?_
  refine J_aload_n (pc := 12) hX 0 rfl dX4_init_12 ?_
  refine J_bipush (pc := 13) hX (v := (64 : Int32)) (by decide) dX4_init_13 ?_
  refine J_newa (pc := 15) (n := n + 1) hX hz (t := 0) (N := 64) (atype := .int) (Or.inl ⟨rfl, rfl⟩) ⟨by decide, by decide, by decide⟩ n_arr0 (hzr (n + 2) (by omega)).2.1 (hzr (n + 2) (by omega)).2.2 ⟨by decide, by decide⟩ dX4_init_15 ?_
  refine pr_X4_17 (pc := 17) hX ((jrow_ne _ _ (by omega)).trans ((jrow_ne _ _ (by omega)).trans hs)) (by rw [(jrow_self _ _ _)]; decide) dX4_init_17 ?_
  refine J_aload_n (pc := 20) hX 0 rfl dX4_init_20 ?_
  refine J_bipush (pc := 21) hX (v := (50 : Int32)) (by decide) dX4_init_21 ?_
  refine pi_X4_21 (pc := 23) hX ((jrow_ne _ _ (by omega)).trans ((jrow_ne _ _ (by omega)).trans hs)) dX4_init_23 ?_
  refine J_aload_n (pc := 26) hX 0 rfl dX4_init_26 ?_
  refine J_iconst (pc := 27) hX (v := (-1 : Int32)) (by decide) dX4_init_27 ?_
  refine pi_X4_25 (pc := 28) hX ((jrow_ne _ _ (by omega)).trans ((jrow_ne _ _ (by omega)).trans hs)) dX4_init_28 ?_
  refine J_aload_n (pc := 31) hX 0 rfl dX4_init_31 ?_
  refine J_new (pc := 32) (n := n + 2) hX hz (ci := 0) (T := TX0) (N := 2) (ty0 := tyX0) rfl inX0 tyX0_ok (by decide) n_X4_28 (by decide +kernel) ((jup_ne _ _ (by omega)).trans ((jup_ne _ _ (by omega)).trans (hzr (n + 3) (by omega)).1)) ((jup_ne _ _ (by omega)).trans ((jup_ne _ _ (by omega)).trans (hzr (n + 3) (by omega)).2.1)) ⟨by decide, by decide⟩ dX4_init_32 ?_
  refine J_dup (pc := 35) hX rfl dX4_init_35 ?_
  refine jrun_c (pc := 36) (mc := 0) (ms := 0) (n' := n + 3) (jRunIN hX s_X4_30 (As := []) (rest := [jr (n + 3), jr t]) (K_X0_init Y hz (n + 3) (n + 3) (jrow (jrow (jrow sh (n + 1) 4004) (n + 2) 1064) (n + 3) 1) (jup (jup rf t 0 (n + 1)) t 2 (n + 2)) (jup (jup I t 3 (50 : Int32)) t 9 (-1 : Int32)) L (jrow_self _ _ _) (by omega) (fun a ha => ⟨((jup_ne _ _ (by omega)).trans ((jup_ne _ _ (by omega)).trans (hzr a (by omega)).1)), ((jup_ne _ _ (by omega)).trans ((jup_ne _ _ (by omega)).trans (hzr a (by omega)).2.1)), (hzr a (by omega)).2.2⟩)) (by rw [(jrow_self _ _ _)]; decide) rfl rfl ⟨by decide, by decide⟩ ⟨by decide, by decide⟩ (Nat.le_of_ble_eq_true rfl) dX4_init_36) ?_
  refine pr_X4_31 (pc := 39) hX ((X0_init_iS_old _ _ _ (by omega)).trans ((jrow_ne _ _ (by omega)).trans ((jrow_ne _ _ (by omega)).trans ((jrow_ne _ _ (by omega)).trans hs)))) (by rw [((X0_init_iS_old _ _ _ (by omega)).trans (jrow_self _ _ _))]; decide) dX4_init_39 ?_
  refine J_aload_n (pc := 42) hX 0 rfl dX4_init_42 ?_
  refine J_new (pc := 43) (n := n + 3) hX hz (ci := 1) (T := TX1) (N := 5) (ty0 := tyX1) rfl inX1 tyX1_ok (by decide) n_X4_35 (by decide +kernel) ((jup_ne _ _ (by omega)).trans ((X0_init_iR_new _ _ _ (by omega) _ (by omega)).trans ((jup_ne _ _ (by omega)).trans ((jup_ne _ _ (by omega)).trans (hzr (n + 4) (by omega)).1)))) ((X0_init_iI_new _ _ _ (by omega) _ (by omega)).trans ((jup_ne _ _ (by omega)).trans ((jup_ne _ _ (by omega)).trans (hzr (n + 4) (by omega)).2.1))) ⟨by decide, by decide⟩ dX4_init_43 ?_
  refine J_dup (pc := 46) hX rfl dX4_init_46 ?_
  refine jrun_c (pc := 47) (mc := 5) (ms := 144) (n' := n + 9) (jRunIN hX s_X4_37 (As := []) (rest := [jr (n + 4), jr t]) (K_X1_init Y hz (n + 4) (n + 4) (jrow (X0_init_iS (n + 3) (n + 3) (jrow (jrow (jrow sh (n + 1) 4004) (n + 2) 1064) (n + 3) 1)) (n + 4) 2) (jup (X0_init_iR (n + 3) (n + 3) (jup (jup rf t 0 (n + 1)) t 2 (n + 2))) t 14 (n + 3)) (X0_init_iI (n + 3) (n + 3) (jup (jup I t 3 (50 : Int32)) t 9 (-1 : Int32))) L (jrow_self _ _ _) (by omega) (fun a ha => ⟨((jup_ne _ _ (by omega)).trans ((X0_init_iR_new _ _ _ (by omega) _ (by omega)).trans ((jup_ne _ _ (by omega)).trans ((jup_ne _ _ (by omega)).trans (hzr a (by omega)).1)))), ((X0_init_iI_new _ _ _ (by omega) _ (by omega)).trans ((jup_ne _ _ (by omega)).trans ((jup_ne _ _ (by omega)).trans (hzr a (by omega)).2.1))), (hzr a (by omega)).2.2⟩)) (by rw [(jrow_self _ _ _)]; decide) rfl rfl ⟨by decide, by decide⟩ ⟨by decide, by decide⟩ (Nat.le_of_ble_eq_true rfl) dX4_init_47) ?_
  refine pr_X4_38 (pc := 50) hX ((X1_init_iS_old _ _ _ (by omega)).trans ((jrow_ne _ _ (by omega)).trans ((X0_init_iS_old _ _ _ (by omega)).trans ((jrow_ne _ _ (by omega)).trans ((jrow_ne _ _ (by omega)).trans ((jrow_ne _ _ (by omega)).trans hs)))))) (by rw [((X1_init_iS_old _ _ _ (by omega)).trans (jrow_self _ _ _))]; decide) dX4_init_50 ?_
  refine J_iconst (pc := 53) hX (v := (0 : Int32)) (by decide) dX4_init_53 ?_
  refine J_istore_n (pc := 54) hX (lo' := [(1, ji (0 : Int32)), (0, jr t)]) (by decide) rfl dX4_init_54 ?_
  refine J_iload_n (pc := 55) hX 0 rfl dX4_init_55 ?_
  refine J_aload_n (pc := 56) hX 1 rfl dX4_init_56 ?_
  refine g_X4_11 (pc := 57) hX ((X1_init_iS_old _ _ _ (by omega)).trans ((jrow_ne _ _ (by omega)).trans ((X0_init_iS_old _ _ _ (by omega)).trans ((jrow_ne _ _ (by omega)).trans ((jrow_ne _ _ (by omega)).trans ((jrow_ne _ _ (by omega)).trans hs)))))) dX4_init_57 ?_
  refine J_eqr (y := (n + 1)) ((jup_ot _ _ _ (by decide)).trans ((congrFun (X1_init_iR_old _ _ _ _ (by omega) (by omega)) 0).trans ((jup_ot _ _ _ (by decide)).trans ((congrFun (X0_init_iR_old _ _ _ _ (by omega) (by omega)) 0).trans ((jup_ot _ _ _ (by decide)).trans (jup_at _ _ _ _)))))) ?_
  refine J_alen (pc := 60) hX (v := (4 : Int32)) ((X1_init_iS_old _ _ _ (by omega)).trans ((jrow_ne _ _ (by omega)).trans ((X0_init_iS_old _ _ _ (by omega)).trans ((jrow_ne _ _ (by omega)).trans ((jrow_ne _ _ (by omega)).trans (jrow_self _ _ _)))))) (by decide) dX4_init_60 ?_
  refine J_icmp_ge_f (pc := 61) hX (tgt := 83) (by decide) (by decide) dX4_init_61 ?_
  refine J_aload_n (pc := 64) hX 1 rfl dX4_init_64 ?_
  refine g_X4_11 (pc := 65) hX ((X1_init_iS_old _ _ _ (by omega)).trans ((jrow_ne _ _ (by omega)).trans ((X0_init_iS_old _ _ _ (by omega)).trans ((jrow_ne _ _ (by omega)).trans ((jrow_ne _ _ (by omega)).trans ((jrow_ne _ _ (by omega)).trans hs)))))) dX4_init_65 ?_
  refine J_eqr (y := (n + 1)) ((jup_ot _ _ _ (by decide)).trans ((congrFun (X1_init_iR_old _ _ _ _ (by omega) (by omega)) 0).trans ((jup_ot _ _ _ (by decide)).trans ((congrFun (X0_init_iR_old _ _ _ _ (by omega) (by omega)) 0).trans ((jup_ot _ _ _ (by decide)).trans (jup_at _ _ _ _)))))) ?_
  refine J_iload_n (pc := 68) hX 0 rfl dX4_init_68 ?_
  refine J_new (pc := 69) (n := n + 9) hX hz (ci := 2) (T := TX2) (N := 19) (ty0 := tyX2) rfl inX2 tyX2_ok (by decide) n_X4_9 (by decide +kernel) ((jup_ne _ _ (by omega)).trans ((X1_init_iR_new _ _ _ (by omega) _ (by omega)).trans ((jup_ne _ _ (by omega)).trans ((X0_init_iR_new _ _ _ (by omega) _ (by omega)).trans ((jup_ne _ _ (by omega)).trans ((jup_ne _ _ (by omega)).trans (hzr (n + 10) (by omega)).1)))))) ((X1_init_iI_new _ _ _ (by omega) _ (by omega)).trans ((X0_init_iI_new _ _ _ (by omega) _ (by omega)).trans ((jup_ne _ _ (by omega)).trans ((jup_ne _ _ (by omega)).trans (hzr (n + 10) (by omega)).2.1)))) ⟨by decide, by decide⟩ dX4_init_69 ?_
  refine J_dup (pc := 72) hX rfl dX4_init_72 ?_
  refine jrun_c (pc := 73) (mc := 8) (ms := 176) (n' := n + 18) (jRunIN hX s_X4_42 (As := []) (rest := [jr (n + 10), ji (0 : Int32), jr (n + 1)]) (K_X2_init Y hz (n + 10) (n + 10) (jrow (X1_init_iS (n + 4) (n + 4) (jrow (X0_init_iS (n + 3) (n + 3) (jrow (jrow (jrow sh (n + 1) 4004) (n + 2) 1064) (n + 3) 1)) (n + 4) 2)) (n + 10) 3) (jup (X1_init_iR (n + 4) (n + 4) (jup (X0_init_iR (n + 3) (n + 3) (jup (jup rf t 0 (n + 1)) t 2 (n + 2))) t 14 (n + 3))) t 15 (n + 4)) (X1_init_iI (n + 4) (n + 4) (X0_init_iI (n + 3) (n + 3) (jup (jup I t 3 (50 : Int32)) t 9 (-1 : Int32)))) L (jrow_self _ _ _) (by omega) (fun a ha => ⟨((jup_ne _ _ (by omega)).trans ((X1_init_iR_new _ _ _ (by omega) _ (by omega)).trans ((jup_ne _ _ (by omega)).trans ((X0_init_iR_new _ _ _ (by omega) _ (by omega)).trans ((jup_ne _ _ (by omega)).trans ((jup_ne _ _ (by omega)).trans (hzr a (by omega)).1)))))), ((X1_init_iI_new _ _ _ (by omega) _ (by omega)).trans ((X0_init_iI_new _ _ _ (by omega) _ (by omega)).trans ((jup_ne _ _ (by omega)).trans ((jup_ne _ _ (by omega)).trans (hzr a (by omega)).2.1)))), (hzr a (by omega)).2.2⟩)) (by rw [(jrow_self _ _ _)]; decide) rfl rfl ⟨by decide, by decide⟩ ⟨by decide, by decide⟩ (Nat.le_of_ble_eq_true rfl) dX4_init_73) ?_
  refine J_aastC (pc := 76) hX (N := 4) (t := 0) (ci := 2) (j := 0) ((X2_init_iS_old _ _ _ (by omega)).trans ((jrow_ne _ _ (by omega)).trans ((X1_init_iS_old _ _ _ (by omega)).trans ((jrow_ne _ _ (by omega)).trans ((X0_init_iS_old _ _ _ (by omega)).trans ((jrow_ne _ _ (by omega)).trans ((jrow_ne _ _ (by omega)).trans (jrow_self _ _ _)))))))) (by decide) ((X2_init_iS_old _ _ _ (by omega)).trans (jrow_self _ _ _)) (by decide) rfl rfl (by decide) (by decide) dX4_init_76 ?_
  refine J_iinc (pc := 77) hX (v := (1 : Int32)) (lo' := [(1, ji (1 : Int32)), (0, jr t)]) 0 rfl (by decide) (by decide) rfl dX4_init_77 ?_
  refine J_goto (pc := 80) hX (tgt := 55) (by decide) dX4_init_80 ?_
  refine J_iload_n (pc := 55) hX 0 rfl dX4_init_55 ?_
  refine J_aload_n (pc := 56) hX 1 rfl dX4_init_56 ?_
  refine g_X4_11 (pc := 57) hX ((X2_init_iS_old _ _ _ (by omega)).trans ((jrow_ne _ _ (by omega)).trans ((X1_init_iS_old _ _ _ (by omega)).trans ((jrow_ne _ _ (by omega)).trans ((X0_init_iS_old _ _ _ (by omega)).trans ((jrow_ne _ _ (by omega)).trans ((jrow_ne _ _ (by omega)).trans ((jrow_ne _ _ (by omega)).trans hs)))))))) dX4_init_57 ?_
  refine J_eqr (y := (n + 1)) ((congrFun (jup_ne _ _ (by omega)) 0).trans ((congrFun (X2_init_iR_old _ _ _ _ (by omega) (by omega)) 0).trans ((jup_ot _ _ _ (by decide)).trans ((congrFun (X1_init_iR_old _ _ _ _ (by omega) (by omega)) 0).trans ((jup_ot _ _ _ (by decide)).trans ((congrFun (X0_init_iR_old _ _ _ _ (by omega) (by omega)) 0).trans ((jup_ot _ _ _ (by decide)).trans (jup_at _ _ _ _)))))))) ?_
  refine J_alen (pc := 60) hX (v := (4 : Int32)) ((X2_init_iS_old _ _ _ (by omega)).trans ((jrow_ne _ _ (by omega)).trans ((X1_init_iS_old _ _ _ (by omega)).trans ((jrow_ne _ _ (by omega)).trans ((X0_init_iS_old _ _ _ (by omega)).trans ((jrow_ne _ _ (by omega)).trans ((jrow_ne _ _ (by omega)).trans (jrow_self _ _ _)))))))) (by decide) dX4_init_60 ?_
  refine J_icmp_ge_f (pc := 61) hX (tgt := 83) (by decide) (by decide) dX4_init_61 ?_
  refine J_aload_n (pc := 64) hX 1 rfl dX4_init_64 ?_
  refine g_X4_11 (pc := 65) hX ((X2_init_iS_old _ _ _ (by omega)).trans ((jrow_ne _ _ (by omega)).trans ((X1_init_iS_old _ _ _ (by omega)).trans ((jrow_ne _ _ (by omega)).trans ((X0_init_iS_old _ _ _ (by omega)).trans ((jrow_ne _ _ (by omega)).trans ((jrow_ne _ _ (by omega)).trans ((jrow_ne _ _ (by omega)).trans hs)))))))) dX4_init_65 ?_
  refine J_eqr (y := (n + 1)) ((congrFun (jup_ne _ _ (by omega)) 0).trans ((congrFun (X2_init_iR_old _ _ _ _ (by omega) (by omega)) 0).trans ((jup_ot _ _ _ (by decide)).trans ((congrFun (X1_init_iR_old _ _ _ _ (by omega) (by omega)) 0).trans ((jup_ot _ _ _ (by decide)).trans ((congrFun (X0_init_iR_old _ _ _ _ (by omega) (by omega)) 0).trans ((jup_ot _ _ _ (by decide)).trans (jup_at _ _ _ _)))))))) ?_
  refine J_iload_n (pc := 68) hX 0 rfl dX4_init_68 ?_
  refine J_new (pc := 69) (n := n + 18) hX hz (ci := 2) (T := TX2) (N := 19) (ty0 := tyX2) rfl inX2 tyX2_ok (by decide) n_X4_9 (by decide +kernel) ((jup_ne _ _ (by omega)).trans ((X2_init_iR_new _ _ _ (by omega) _ (by omega)).trans ((jup_ne _ _ (by omega)).trans ((X1_init_iR_new _ _ _ (by omega) _ (by omega)).trans ((jup_ne _ _ (by omega)).trans ((X0_init_iR_new _ _ _ (by omega) _ (by omega)).trans ((jup_ne _ _ (by omega)).trans ((jup_ne _ _ (by omega)).trans (hzr (n + 19) (by omega)).1)))))))) ((X2_init_iI_new _ _ _ (by omega) _ (by omega)).trans ((X1_init_iI_new _ _ _ (by omega) _ (by omega)).trans ((X0_init_iI_new _ _ _ (by omega) _ (by omega)).trans ((jup_ne _ _ (by omega)).trans ((jup_ne _ _ (by omega)).trans (hzr (n + 19) (by omega)).2.1))))) ⟨by decide, by decide⟩ dX4_init_69 ?_
  refine J_dup (pc := 72) hX rfl dX4_init_72 ?_
  refine jrun_c (pc := 73) (mc := 8) (ms := 176) (n' := n + 27) (jRunIN hX s_X4_42 (As := []) (rest := [jr (n + 19), ji (1 : Int32), jr (n + 1)]) (K_X2_init Y hz (n + 19) (n + 19) (jrow (X2_init_iS (n + 10) (n + 10) (jrow (X1_init_iS (n + 4) (n + 4) (jrow (X0_init_iS (n + 3) (n + 3) (jrow (jrow (jrow sh (n + 1) 4004) (n + 2) 1064) (n + 3) 1)) (n + 4) 2)) (n + 10) 3)) (n + 19) 3) (jup (X2_init_iR (n + 10) (n + 10) (jup (X1_init_iR (n + 4) (n + 4) (jup (X0_init_iR (n + 3) (n + 3) (jup (jup rf t 0 (n + 1)) t 2 (n + 2))) t 14 (n + 3))) t 15 (n + 4))) (n + 1) 0 (n + 10)) (X2_init_iI (n + 10) (n + 10) (X1_init_iI (n + 4) (n + 4) (X0_init_iI (n + 3) (n + 3) (jup (jup I t 3 (50 : Int32)) t 9 (-1 : Int32))))) L (jrow_self _ _ _) (by omega) (fun a ha => ⟨((jup_ne _ _ (by omega)).trans ((X2_init_iR_new _ _ _ (by omega) _ (by omega)).trans ((jup_ne _ _ (by omega)).trans ((X1_init_iR_new _ _ _ (by omega) _ (by omega)).trans ((jup_ne _ _ (by omega)).trans ((X0_init_iR_new _ _ _ (by omega) _ (by omega)).trans ((jup_ne _ _ (by omega)).trans ((jup_ne _ _ (by omega)).trans (hzr a (by omega)).1)))))))), ((X2_init_iI_new _ _ _ (by omega) _ (by omega)).trans ((X1_init_iI_new _ _ _ (by omega) _ (by omega)).trans ((X0_init_iI_new _ _ _ (by omega) _ (by omega)).trans ((jup_ne _ _ (by omega)).trans ((jup_ne _ _ (by omega)).trans (hzr a (by omega)).2.1))))), (hzr a (by omega)).2.2⟩)) (by rw [(jrow_self _ _ _)]; decide) rfl rfl ⟨by decide, by decide⟩ ⟨by decide, by decide⟩ (Nat.le_of_ble_eq_true rfl) dX4_init_73) ?_
  refine J_aastC (pc := 76) hX (N := 4) (t := 0) (ci := 2) (j := 1) ((X2_init_iS_old _ _ _ (by omega)).trans ((jrow_ne _ _ (by omega)).trans ((X2_init_iS_old _ _ _ (by omega)).trans ((jrow_ne _ _ (by omega)).trans ((X1_init_iS_old _ _ _ (by omega)).trans ((jrow_ne _ _ (by omega)).trans ((X0_init_iS_old _ _ _ (by omega)).trans ((jrow_ne _ _ (by omega)).trans ((jrow_ne _ _ (by omega)).trans (jrow_self _ _ _)))))))))) (by decide) ((X2_init_iS_old _ _ _ (by omega)).trans (jrow_self _ _ _)) (by decide) rfl rfl (by decide) (by decide) dX4_init_76 ?_
  refine J_iinc (pc := 77) hX (v := (2 : Int32)) (lo' := [(1, ji (2 : Int32)), (0, jr t)]) 0 rfl (by decide) (by decide) rfl dX4_init_77 ?_
  refine J_goto (pc := 80) hX (tgt := 55) (by decide) dX4_init_80 ?_
  refine J_iload_n (pc := 55) hX 0 rfl dX4_init_55 ?_
  refine J_aload_n (pc := 56) hX 1 rfl dX4_init_56 ?_
  refine g_X4_11 (pc := 57) hX ((X2_init_iS_old _ _ _ (by omega)).trans ((jrow_ne _ _ (by omega)).trans ((X2_init_iS_old _ _ _ (by omega)).trans ((jrow_ne _ _ (by omega)).trans ((X1_init_iS_old _ _ _ (by omega)).trans ((jrow_ne _ _ (by omega)).trans ((X0_init_iS_old _ _ _ (by omega)).trans ((jrow_ne _ _ (by omega)).trans ((jrow_ne _ _ (by omega)).trans ((jrow_ne _ _ (by omega)).trans hs)))))))))) dX4_init_57 ?_
  refine J_eqr (y := (n + 1)) ((congrFun (jup_ne _ _ (by omega)) 0).trans ((congrFun (X2_init_iR_old _ _ _ _ (by omega) (by omega)) 0).trans ((congrFun (jup_ne _ _ (by omega)) 0).trans ((congrFun (X2_init_iR_old _ _ _ _ (by omega) (by omega)) 0).trans ((jup_ot _ _ _ (by decide)).trans ((congrFun (X1_init_iR_old _ _ _ _ (by omega) (by omega)) 0).trans ((jup_ot _ _ _ (by decide)).trans ((congrFun (X0_init_iR_old _ _ _ _ (by omega) (by omega)) 0).trans ((jup_ot _ _ _ (by decide)).trans (jup_at _ _ _ _)))))))))) ?_
  refine J_alen (pc := 60) hX (v := (4 : Int32)) ((X2_init_iS_old _ _ _ (by omega)).trans ((jrow_ne _ _ (by omega)).trans ((X2_init_iS_old _ _ _ (by omega)).trans ((jrow_ne _ _ (by omega)).trans ((X1_init_iS_old _ _ _ (by omega)).trans ((jrow_ne _ _ (by omega)).trans ((X0_init_iS_old _ _ _ (by omega)).trans ((jrow_ne _ _ (by omega)).trans ((jrow_ne _ _ (by omega)).trans (jrow_self _ _ _)))))))))) (by decide) dX4_init_60 ?_
  refine J_icmp_ge_f (pc := 61) hX (tgt := 83) (by decide) (by decide) dX4_init_61 ?_
  refine J_aload_n (pc := 64) hX 1 rfl dX4_init_64 ?_
  refine g_X4_11 (pc := 65) hX ((X2_init_iS_old _ _ _ (by omega)).trans ((jrow_ne _ _ (by omega)).trans ((X2_init_iS_old _ _ _ (by omega)).trans ((jrow_ne _ _ (by omega)).trans ((X1_init_iS_old _ _ _ (by omega)).trans ((jrow_ne _ _ (by omega)).trans ((X0_init_iS_old _ _ _ (by omega)).trans ((jrow_ne _ _ (by omega)).trans ((jrow_ne _ _ (by omega)).trans ((jrow_ne _ _ (by omega)).trans hs)))))))))) dX4_init_65 ?_
  refine J_eqr (y := (n + 1)) ((congrFun (jup_ne _ _ (by omega)) 0).trans ((congrFun (X2_init_iR_old _ _ _ _ (by omega) (by omega)) 0).trans ((congrFun (jup_ne _ _ (by omega)) 0).trans ((congrFun (X2_init_iR_old _ _ _ _ (by omega) (by omega)) 0).trans ((jup_ot _ _ _ (by decide)).trans ((congrFun (X1_init_iR_old _ _ _ _ (by omega) (by omega)) 0).trans ((jup_ot _ _ _ (by decide)).trans ((congrFun (X0_init_iR_old _ _ _ _ (by omega) (by omega)) 0).trans ((jup_ot _ _ _ (by decide)).trans (jup_at _ _ _ _)))))))))) ?_
  refine J_iload_n (pc := 68) hX 0 rfl dX4_init_68 ?_
  refine J_new (pc := 69) (n := n + 27) hX hz (ci := 2) (T := TX2) (N := 19) (ty0 := tyX2) rfl inX2 tyX2_ok (by decide) n_X4_9 (by decide +kernel) ((jup_ne _ _ (by omega)).trans ((X2_init_iR_new _ _ _ (by omega) _ (by omega)).trans ((jup_ne _ _ (by omega)).trans ((X2_init_iR_new _ _ _ (by omega) _ (by omega)).trans ((jup_ne _ _ (by omega)).trans ((X1_init_iR_new _ _ _ (by omega) _ (by omega)).trans ((jup_ne _ _ (by omega)).trans ((X0_init_iR_new _ _ _ (by omega) _ (by omega)).trans ((jup_ne _ _ (by omega)).trans ((jup_ne _ _ (by omega)).trans (hzr (n + 28) (by omega)).1)))))))))) ((X2_init_iI_new _ _ _ (by omega) _ (by omega)).trans ((X2_init_iI_new _ _ _ (by omega) _ (by omega)).trans ((X1_init_iI_new _ _ _ (by omega) _ (by omega)).trans ((X0_init_iI_new _ _ _ (by omega) _ (by omega)).trans ((jup_ne _ _ (by omega)).trans ((jup_ne _ _ (by omega)).trans (hzr (n + 28) (by omega)).2.1)))))) ⟨by decide, by decide⟩ dX4_init_69 ?_
  refine J_dup (pc := 72) hX rfl dX4_init_72 ?_
  refine jrun_c (pc := 73) (mc := 8) (ms := 176) (n' := n + 36) (jRunIN hX s_X4_42 (As := []) (rest := [jr (n + 28), ji (2 : Int32), jr (n + 1)]) (K_X2_init Y hz (n + 28) (n + 28) (jrow (X2_init_iS (n + 19) (n + 19) (jrow (X2_init_iS (n + 10) (n + 10) (jrow (X1_init_iS (n + 4) (n + 4) (jrow (X0_init_iS (n + 3) (n + 3) (jrow (jrow (jrow sh (n + 1) 4004) (n + 2) 1064) (n + 3) 1)) (n + 4) 2)) (n + 10) 3)) (n + 19) 3)) (n + 28) 3) (jup (X2_init_iR (n + 19) (n + 19) (jup (X2_init_iR (n + 10) (n + 10) (jup (X1_init_iR (n + 4) (n + 4) (jup (X0_init_iR (n + 3) (n + 3) (jup (jup rf t 0 (n + 1)) t 2 (n + 2))) t 14 (n + 3))) t 15 (n + 4))) (n + 1) 0 (n + 10))) (n + 1) 1 (n + 19)) (X2_init_iI (n + 19) (n + 19) (X2_init_iI (n + 10) (n + 10) (X1_init_iI (n + 4) (n + 4) (X0_init_iI (n + 3) (n + 3) (jup (jup I t 3 (50 : Int32)) t 9 (-1 : Int32)))))) L (jrow_self _ _ _) (by omega) (fun a ha => ⟨((jup_ne _ _ (by omega)).trans ((X2_init_iR_new _ _ _ (by omega) _ (by omega)).trans ((jup_ne _ _ (by omega)).trans ((X2_init_iR_new _ _ _ (by omega) _ (by omega)).trans ((jup_ne _ _ (by omega)).trans ((X1_init_iR_new _ _ _ (by omega) _ (by omega)).trans ((jup_ne _ _ (by omega)).trans ((X0_init_iR_new _ _ _ (by omega) _ (by omega)).trans ((jup_ne _ _ (by omega)).trans ((jup_ne _ _ (by omega)).trans (hzr a (by omega)).1)))))))))), ((X2_init_iI_new _ _ _ (by omega) _ (by omega)).trans ((X2_init_iI_new _ _ _ (by omega) _ (by omega)).trans ((X1_init_iI_new _ _ _ (by omega) _ (by omega)).trans ((X0_init_iI_new _ _ _ (by omega) _ (by omega)).trans ((jup_ne _ _ (by omega)).trans ((jup_ne _ _ (by omega)).trans (hzr a (by omega)).2.1)))))), (hzr a (by omega)).2.2⟩)) (by rw [(jrow_self _ _ _)]; decide) rfl rfl ⟨by decide, by decide⟩ ⟨by decide, by decide⟩ (Nat.le_of_ble_eq_true rfl) dX4_init_73) ?_
  refine J_aastC (pc := 76) hX (N := 4) (t := 0) (ci := 2) (j := 2) ((X2_init_iS_old _ _ _ (by omega)).trans ((jrow_ne _ _ (by omega)).trans ((X2_init_iS_old _ _ _ (by omega)).trans ((jrow_ne _ _ (by omega)).trans ((X2_init_iS_old _ _ _ (by omega)).trans ((jrow_ne _ _ (by omega)).trans ((X1_init_iS_old _ _ _ (by omega)).trans ((jrow_ne _ _ (by omega)).trans ((X0_init_iS_old _ _ _ (by omega)).trans ((jrow_ne _ _ (by omega)).trans ((jrow_ne _ _ (by omega)).trans (jrow_self _ _ _)))))))))))) (by decide) ((X2_init_iS_old _ _ _ (by omega)).trans (jrow_self _ _ _)) (by decide) rfl rfl (by decide) (by decide) dX4_init_76 ?_
  refine J_iinc (pc := 77) hX (v := (3 : Int32)) (lo' := [(1, ji (3 : Int32)), (0, jr t)]) 0 rfl (by decide) (by decide) rfl dX4_init_77 ?_
  refine J_goto (pc := 80) hX (tgt := 55) (by decide) dX4_init_80 ?_
  refine J_iload_n (pc := 55) hX 0 rfl dX4_init_55 ?_
  refine J_aload_n (pc := 56) hX 1 rfl dX4_init_56 ?_
  refine g_X4_11 (pc := 57) hX ((X2_init_iS_old _ _ _ (by omega)).trans ((jrow_ne _ _ (by omega)).trans ((X2_init_iS_old _ _ _ (by omega)).trans ((jrow_ne _ _ (by omega)).trans ((X2_init_iS_old _ _ _ (by omega)).trans ((jrow_ne _ _ (by omega)).trans ((X1_init_iS_old _ _ _ (by omega)).trans ((jrow_ne _ _ (by omega)).trans ((X0_init_iS_old _ _ _ (by omega)).trans ((jrow_ne _ _ (by omega)).trans ((jrow_ne _ _ (by omega)).trans ((jrow_ne _ _ (by omega)).trans hs)))))))))))) dX4_init_57 ?_
  refine J_eqr (y := (n + 1)) ((congrFun (jup_ne _ _ (by omega)) 0).trans ((congrFun (X2_init_iR_old _ _ _ _ (by omega) (by omega)) 0).trans ((congrFun (jup_ne _ _ (by omega)) 0).trans ((congrFun (X2_init_iR_old _ _ _ _ (by omega) (by omega)) 0).trans ((congrFun (jup_ne _ _ (by omega)) 0).trans ((congrFun (X2_init_iR_old _ _ _ _ (by omega) (by omega)) 0).trans ((jup_ot _ _ _ (by decide)).trans ((congrFun (X1_init_iR_old _ _ _ _ (by omega) (by omega)) 0).trans ((jup_ot _ _ _ (by decide)).trans ((congrFun (X0_init_iR_old _ _ _ _ (by omega) (by omega)) 0).trans ((jup_ot _ _ _ (by decide)).trans (jup_at _ _ _ _)))))))))))) ?_
  refine J_alen (pc := 60) hX (v := (4 : Int32)) ((X2_init_iS_old _ _ _ (by omega)).trans ((jrow_ne _ _ (by omega)).trans ((X2_init_iS_old _ _ _ (by omega)).trans ((jrow_ne _ _ (by omega)).trans ((X2_init_iS_old _ _ _ (by omega)).trans ((jrow_ne _ _ (by omega)).trans ((X1_init_iS_old _ _ _ (by omega)).trans ((jrow_ne _ _ (by omega)).trans ((X0_init_iS_old _ _ _ (by omega)).trans ((jrow_ne _ _ (by omega)).trans ((jrow_ne _ _ (by omega)).trans (jrow_self _ _ _)))))))))))) (by decide) dX4_init_60 ?_
  refine J_icmp_ge_f (pc := 61) hX (tgt := 83) (by decide) (by decide) dX4_init_61 ?_
  refine J_aload_n (pc := 64) hX 1 rfl dX4_init_64 ?_
  refine g_X4_11 (pc := 65) hX ((X2_init_iS_old _ _ _ (by omega)).trans ((jrow_ne _ _ (by omega)).trans ((X2_init_iS_old _ _ _ (by omega)).trans ((jrow_ne _ _ (by omega)).trans ((X2_init_iS_old _ _ _ (by omega)).trans ((jrow_ne _ _ (by omega)).trans ((X1_init_iS_old _ _ _ (by omega)).trans ((jrow_ne _ _ (by omega)).trans ((X0_init_iS_old _ _ _ (by omega)).trans ((jrow_ne _ _ (by omega)).trans ((jrow_ne _ _ (by omega)).trans ((jrow_ne _ _ (by omega)).trans hs)))))))))))) dX4_init_65 ?_
  refine J_eqr (y := (n + 1)) ((congrFun (jup_ne _ _ (by omega)) 0).trans ((congrFun (X2_init_iR_old _ _ _ _ (by omega) (by omega)) 0).trans ((congrFun (jup_ne _ _ (by omega)) 0).trans ((congrFun (X2_init_iR_old _ _ _ _ (by omega) (by omega)) 0).trans ((congrFun (jup_ne _ _ (by omega)) 0).trans ((congrFun (X2_init_iR_old _ _ _ _ (by omega) (by omega)) 0).trans ((jup_ot _ _ _ (by decide)).trans ((congrFun (X1_init_iR_old _ _ _ _ (by omega) (by omega)) 0).trans ((jup_ot _ _ _ (by decide)).trans ((congrFun (X0_init_iR_old _ _ _ _ (by omega) (by omega)) 0).trans ((jup_ot _ _ _ (by decide)).trans (jup_at _ _ _ _)))))))))))) ?_
  refine J_iload_n (pc := 68) hX 0 rfl dX4_init_68 ?_
  refine J_new (pc := 69) (n := n + 36) hX hz (ci := 2) (T := TX2) (N := 19) (ty0 := tyX2) rfl inX2 tyX2_ok (by decide) n_X4_9 (by decide +kernel) ((jup_ne _ _ (by omega)).trans ((X2_init_iR_new _ _ _ (by omega) _ (by omega)).trans ((jup_ne _ _ (by omega)).trans ((X2_init_iR_new _ _ _ (by omega) _ (by omega)).trans ((jup_ne _ _ (by omega)).trans ((X2_init_iR_new _ _ _ (by omega) _ (by omega)).trans ((jup_ne _ _ (by omega)).trans ((X1_init_iR_new _ _ _ (by omega) _ (by omega)).trans ((jup_ne _ _ (by omega)).trans ((X0_init_iR_new _ _ _ (by omega) _ (by omega)).trans ((jup_ne _ _ (by omega)).trans ((jup_ne _ _ (by omega)).trans (hzr (n + 37) (by omega)).1)))))))))))) ((X2_init_iI_new _ _ _ (by omega) _ (by omega)).trans ((X2_init_iI_new _ _ _ (by omega) _ (by omega)).trans ((X2_init_iI_new _ _ _ (by omega) _ (by omega)).trans ((X1_init_iI_new _ _ _ (by omega) _ (by omega)).trans ((X0_init_iI_new _ _ _ (by omega) _ (by omega)).trans ((jup_ne _ _ (by omega)).trans ((jup_ne _ _ (by omega)).trans (hzr (n + 37) (by omega)).2.1))))))) ⟨by decide, by decide⟩ dX4_init_69 ?_
  refine J_dup (pc := 72) hX rfl dX4_init_72 ?_
  refine jrun_c (pc := 73) (mc := 8) (ms := 176) (n' := n + 45) (jRunIN hX s_X4_42 (As := []) (rest := [jr (n + 37), ji (3 : Int32), jr (n + 1)]) (K_X2_init Y hz (n + 37) (n + 37) (jrow (X2_init_iS (n + 28) (n + 28) (jrow (X2_init_iS (n + 19) (n + 19) (jrow (X2_init_iS (n + 10) (n + 10) (jrow (X1_init_iS (n + 4) (n + 4) (jrow (X0_init_iS (n + 3) (n + 3) (jrow (jrow (jrow sh (n + 1) 4004) (n + 2) 1064) (n + 3) 1)) (n + 4) 2)) (n + 10) 3)) (n + 19) 3)) (n + 28) 3)) (n + 37) 3) (jup (X2_init_iR (n + 28) (n + 28) (jup (X2_init_iR (n + 19) (n + 19) (jup (X2_init_iR (n + 10) (n + 10) (jup (X1_init_iR (n + 4) (n + 4) (jup (X0_init_iR (n + 3) (n + 3) (jup (jup rf t 0 (n + 1)) t 2 (n + 2))) t 14 (n + 3))) t 15 (n + 4))) (n + 1) 0 (n + 10))) (n + 1) 1 (n + 19))) (n + 1) 2 (n + 28)) (X2_init_iI (n + 28) (n + 28) (X2_init_iI (n + 19) (n + 19) (X2_init_iI (n + 10) (n + 10) (X1_init_iI (n + 4) (n + 4) (X0_init_iI (n + 3) (n + 3) (jup (jup I t 3 (50 : Int32)) t 9 (-1 : Int32))))))) L (jrow_self _ _ _) (by omega) (fun a ha => ⟨((jup_ne _ _ (by omega)).trans ((X2_init_iR_new _ _ _ (by omega) _ (by omega)).trans ((jup_ne _ _ (by omega)).trans ((X2_init_iR_new _ _ _ (by omega) _ (by omega)).trans ((jup_ne _ _ (by omega)).trans ((X2_init_iR_new _ _ _ (by omega) _ (by omega)).trans ((jup_ne _ _ (by omega)).trans ((X1_init_iR_new _ _ _ (by omega) _ (by omega)).trans ((jup_ne _ _ (by omega)).trans ((X0_init_iR_new _ _ _ (by omega) _ (by omega)).trans ((jup_ne _ _ (by omega)).trans ((jup_ne _ _ (by omega)).trans (hzr a (by omega)).1)))))))))))), ((X2_init_iI_new _ _ _ (by omega) _ (by omega)).trans ((X2_init_iI_new _ _ _ (by omega) _ (by omega)).trans ((X2_init_iI_new _ _ _ (by omega) _ (by omega)).trans ((X1_init_iI_new _ _ _ (by omega) _ (by omega)).trans ((X0_init_iI_new _ _ _ (by omega) _ (by omega)).trans ((jup_ne _ _ (by omega)).trans ((jup_ne _ _ (by omega)).trans (hzr a (by omega)).2.1))))))), (hzr a (by omega)).2.2⟩)) (by rw [(jrow_self _ _ _)]; decide) rfl rfl ⟨by decide, by decide⟩ ⟨by decide, by decide⟩ (Nat.le_of_ble_eq_true rfl) dX4_init_73) ?_
  refine J_aastC (pc := 76) hX (N := 4) (t := 0) (ci := 2) (j := 3) ((X2_init_iS_old _ _ _ (by omega)).trans ((jrow_ne _ _ (by omega)).trans ((X2_init_iS_old _ _ _ (by omega)).trans ((jrow_ne _ _ (by omega)).trans ((X2_init_iS_old _ _ _ (by omega)).trans ((jrow_ne _ _ (by omega)).trans ((X2_init_iS_old _ _ _ (by omega)).trans ((jrow_ne _ _ (by omega)).trans ((X1_init_iS_old _ _ _ (by omega)).trans ((jrow_ne _ _ (by omega)).trans ((X0_init_iS_old _ _ _ (by omega)).trans ((jrow_ne _ _ (by omega)).trans ((jrow_ne _ _ (by omega)).trans (jrow_self _ _ _)))))))))))))) (by decide) ((X2_init_iS_old _ _ _ (by omega)).trans (jrow_self _ _ _)) (by decide) rfl rfl (by decide) (by decide) dX4_init_76 ?_
  refine J_iinc (pc := 77) hX (v := (4 : Int32)) (lo' := [(1, ji (4 : Int32)), (0, jr t)]) 0 rfl (by decide) (by decide) rfl dX4_init_77 ?_
  refine J_goto (pc := 80) hX (tgt := 55) (by decide) dX4_init_80 ?_
  refine J_iload_n (pc := 55) hX 0 rfl dX4_init_55 ?_
  refine J_aload_n (pc := 56) hX 1 rfl dX4_init_56 ?_
  refine g_X4_11 (pc := 57) hX ((X2_init_iS_old _ _ _ (by omega)).trans ((jrow_ne _ _ (by omega)).trans ((X2_init_iS_old _ _ _ (by omega)).trans ((jrow_ne _ _ (by omega)).trans ((X2_init_iS_old _ _ _ (by omega)).trans ((jrow_ne _ _ (by omega)).trans ((X2_init_iS_old _ _ _ (by omega)).trans ((jrow_ne _ _ (by omega)).trans ((X1_init_iS_old _ _ _ (by omega)).trans ((jrow_ne _ _ (by omega)).trans ((X0_init_iS_old _ _ _ (by omega)).trans ((jrow_ne _ _ (by omega)).trans ((jrow_ne _ _ (by omega)).trans ((jrow_ne _ _ (by omega)).trans hs)))))))))))))) dX4_init_57 ?_
  refine J_eqr (y := (n + 1)) ((congrFun (jup_ne _ _ (by omega)) 0).trans ((congrFun (X2_init_iR_old _ _ _ _ (by omega) (by omega)) 0).trans ((congrFun (jup_ne _ _ (by omega)) 0).trans ((congrFun (X2_init_iR_old _ _ _ _ (by omega) (by omega)) 0).trans ((congrFun (jup_ne _ _ (by omega)) 0).trans ((congrFun (X2_init_iR_old _ _ _ _ (by omega) (by omega)) 0).trans ((congrFun (jup_ne _ _ (by omega)) 0).trans ((congrFun (X2_init_iR_old _ _ _ _ (by omega) (by omega)) 0).trans ((jup_ot _ _ _ (by decide)).trans ((congrFun (X1_init_iR_old _ _ _ _ (by omega) (by omega)) 0).trans ((jup_ot _ _ _ (by decide)).trans ((congrFun (X0_init_iR_old _ _ _ _ (by omega) (by omega)) 0).trans ((jup_ot _ _ _ (by decide)).trans (jup_at _ _ _ _)))))))))))))) ?_
  refine J_alen (pc := 60) hX (v := (4 : Int32)) ((X2_init_iS_old _ _ _ (by omega)).trans ((jrow_ne _ _ (by omega)).trans ((X2_init_iS_old _ _ _ (by omega)).trans ((jrow_ne _ _ (by omega)).trans ((X2_init_iS_old _ _ _ (by omega)).trans ((jrow_ne _ _ (by omega)).trans ((X2_init_iS_old _ _ _ (by omega)).trans ((jrow_ne _ _ (by omega)).trans ((X1_init_iS_old _ _ _ (by omega)).trans ((jrow_ne _ _ (by omega)).trans ((X0_init_iS_old _ _ _ (by omega)).trans ((jrow_ne _ _ (by omega)).trans ((jrow_ne _ _ (by omega)).trans (jrow_self _ _ _)))))))))))))) (by decide) dX4_init_60 ?_
  refine J_icmp_ge_t (pc := 61) hX (tgt := 83) (by decide) (by decide) dX4_init_61 ?_
  exact J_vret (pc := 83) hX hQ dX4_init_83
def X5_init_iS (t n : Nat) (sh : jS) : jS := (jrow (jrow (jrow (jrow sh (n + 1) 1250) (n + 2) 1030) (n + 3) 1030) (n + 4) 1030)
def X5_init_iR (t n : Nat) (rf : jR) : jR := (jup (jup (jup (jup rf t 2 (n + 1)) t 3 (n + 2)) t 4 (n + 3)) t 5 (n + 4))
def X5_init_iI (t n : Nat) (I : jI) : jI := I
theorem X5_init_iS_old (t n : Nat) (sh : jS) {r : Nat} (h : r ≤ n) : X5_init_iS t n sh r = sh r := by
  unfold X5_init_iS
  rw [jrow_ne _ _ (by omega)]
  rw [jrow_ne _ _ (by omega)]
  rw [jrow_ne _ _ (by omega)]
  rw [jrow_ne _ _ (by omega)]

theorem X5_init_iS_new (t n : Nat) (sh : jS) {r : Nat} (h : n + 4 < r) : X5_init_iS t n sh r = sh r := by
  unfold X5_init_iS
  rw [jrow_ne _ _ (by omega)]
  rw [jrow_ne _ _ (by omega)]
  rw [jrow_ne _ _ (by omega)]
  rw [jrow_ne _ _ (by omega)]

theorem X5_init_iR_big (t n : Nat) (rf : jR) (h : ∀ a k, 20 ≤ k → rf a k = 0) : ∀ a k, 20 ≤ k → X5_init_iR t n rf a k = 0 := (jup_big (jup_big (jup_big (jup_big h (by decide)) (by decide)) (by decide)) (by decide))
theorem X5_init_iR_old (t n : Nat) (rf : jR) (a : Nat) (h : a ≠ t) (h2 : a ≤ n) : X5_init_iR t n rf a = rf a := by
  unfold X5_init_iR
  rw [jup_ne _ _ (by omega)]
  rw [jup_ne _ _ (by omega)]
  rw [jup_ne _ _ (by omega)]
  rw [jup_ne _ _ (by omega)]

theorem X5_init_iR_new (t n : Nat) (rf : jR) (ht : t ≤ n) (a : Nat) (h : n + 4 < a) : X5_init_iR t n rf a = rf a := by
  unfold X5_init_iR
  rw [jup_ne _ _ (by omega)]
  rw [jup_ne _ _ (by omega)]
  rw [jup_ne _ _ (by omega)]
  rw [jup_ne _ _ (by omega)]

theorem X5_init_iI_old (t n : Nat) (I : jI) (a : Nat) (h : a ≠ t) (h2 : a ≤ n) : X5_init_iI t n I a = I a := by
  unfold X5_init_iI
  rfl

theorem X5_init_iI_new (t n : Nat) (I : jI) (ht : t ≤ n) (a : Nat) (h : n + 4 < a) : X5_init_iI t n I a = I a := by
  unfold X5_init_iI
  rfl

set_option maxRecDepth 20000 in
set_option maxHeartbeats 8000000 in
theorem K_X5_init (Y : jY) (hz : Y.zf = true) (t n : Nat) (sh : jS) (rf : jR) (I : jI) (L : jL) (hs : sh t = 6) (htn : t ≤ n) (hzr : ∀ a, n < a → rf a = (fun _ => 0) ∧ I a = (fun _ => 0) ∧ L a = (fun _ => 0)) : jMet Y yX5_init cX5_init 1 none 1 80 4 340 [jr t] n sh rf I L none (n + 4) (X5_init_iS t n sh) (X5_init_iR t n rf) (X5_init_iI t n I) L := by
  refine jmet_of (some ()) () rfl (fun Z _ => jQ Y Z 4 340 none (n + 4) (X5_init_iS t n sh) (X5_init_iR t n rf) (X5_init_iI t n I) L) (fun _ => rfl) (by decide) (Nat.le_of_ble_eq_true rfl) (fun Z hX => ?_)
  have hX : jOK Y Z RX5 cX5_init 1 "<init>" none 1 80 4 340 := hX
  obtain ⟨Qf, hQ⟩ : ∃ Qf : Unit → State → Prop, Qf () = jQ Y Z 4 340 none (n + 4) (X5_init_iS t n sh) (X5_init_iR t n rf) (X5_init_iI t n I) L := ⟨fun _ => _, rfl⟩
  have hQ2 : (fun _ : Unit => jQ Y Z 4 340 none (n + 4) (X5_init_iS t n sh) (X5_init_iR t n rf) (X5_init_iI t n I) L) = Qf := by funext u; exact hQ.symm
  show J Y Z 1 (fun _ : Unit => jQ Y Z 4 340 none (n + 4) (X5_init_iS t n sh) (X5_init_iR t n rf) (X5_init_iI t n I) L) (some ()) 0 [(0, jr t)] [] 0 0 n sh rf I L
  rw [hQ2]
  clear hQ2
  refine J_aload_n (pc := 0) hX 0 rfl dX5_init_0 ?_
  refine J_objInit (pc := 1) hX (by rw [hs]; decide) o_X5_3 ⟨by decide, by decide⟩ (Nat.le_of_ble_eq_true rfl) dX5_init_1 ?_
  refine J_aload_n (pc := 4) hX 0 rfl dX5_init_4 ?_
  refine J_sipush (pc := 5) hX (v := (250 : Int32)) (by decide) dX5_init_5 ?_
  refine J_newa (pc := 8) (n := n) hX hz (t := 0) (N := 250) (atype := .int) (Or.inl ⟨rfl, rfl⟩) ⟨by decide, by decide, by decide⟩ n_arr0 (hzr (n + 1) (by omega)).2.1 (hzr (n + 1) (by omega)).2.2 ⟨by decide, by decide⟩ dX5_init_8 ?_
  refine pr_X5_11 (pc := 10) hX ((jrow_ne _ _ (by omega)).trans hs) (by rw [(jrow_self _ _ _)]; decide) dX5_init_10 ?_
  refine J_aload_n (pc := 13) hX 0 rfl dX5_init_13 ?_
  refine J_bipush (pc := 14) hX (v := (30 : Int32)) (by decide) dX5_init_14 ?_
  refine J_newa (pc := 16) (n := n + 1) hX hz (t := 0) (N := 30) (atype := .int) (Or.inl ⟨rfl, rfl⟩) ⟨by decide, by decide, by decide⟩ n_arr0 (hzr (n + 2) (by omega)).2.1 (hzr (n + 2) (by omega)).2.2 ⟨by decide, by decide⟩ dX5_init_16 ?_
  refine pr_X5_15 (pc := 18) hX ((jrow_ne _ _ (by omega)).trans ((jrow_ne _ _ (by omega)).trans hs)) (by rw [(jrow_self _ _ _)]; decide) dX5_init_18 ?_
  refine J_aload_n (pc := 21) hX 0 rfl dX5_init_21 ?_
  refine J_bipush (pc := 22) hX (v := (30 : Int32)) (by decide) dX5_init_22 ?_
  refine J_newa (pc := 24) (n := n + 2) hX hz (t := 0) (N := 30) (atype := .int) (Or.inl ⟨rfl, rfl⟩) ⟨by decide, by decide, by decide⟩ n_arr0 (hzr (n + 3) (by omega)).2.1 (hzr (n + 3) (by omega)).2.2 ⟨by decide, by decide⟩ dX5_init_24 ?_
  refine pr_X5_18 (pc := 26) hX ((jrow_ne _ _ (by omega)).trans ((jrow_ne _ _ (by omega)).trans ((jrow_ne _ _ (by omega)).trans hs))) (by rw [(jrow_self _ _ _)]; decide) dX5_init_26 ?_
  refine J_aload_n (pc := 29) hX 0 rfl dX5_init_29 ?_
  refine J_bipush (pc := 30) hX (v := (30 : Int32)) (by decide) dX5_init_30 ?_
  refine J_newa (pc := 32) (n := n + 3) hX hz (t := 0) (N := 30) (atype := .int) (Or.inl ⟨rfl, rfl⟩) ⟨by decide, by decide, by decide⟩ n_arr0 (hzr (n + 4) (by omega)).2.1 (hzr (n + 4) (by omega)).2.2 ⟨by decide, by decide⟩ dX5_init_32 ?_
  refine pr_X5_21 (pc := 34) hX ((jrow_ne _ _ (by omega)).trans ((jrow_ne _ _ (by omega)).trans ((jrow_ne _ _ (by omega)).trans ((jrow_ne _ _ (by omega)).trans hs)))) (by rw [(jrow_self _ _ _)]; decide) dX5_init_34 ?_
  exact J_vret (pc := 37) hX hQ dX5_init_37
def X3_init_iS (t n : Nat) (sh : jS) : jS := (jrow sh (n + 1) 3040)
def X3_init_iR (t n : Nat) (rf : jR) : jR := (jup rf t 3 (n + 1))
def X3_init_iI (t n : Nat) (I : jI) : jI := (jup (jup I t 0 (-1 : Int32)) t 1 (-1 : Int32))
theorem X3_init_iS_old (t n : Nat) (sh : jS) {r : Nat} (h : r ≤ n) : X3_init_iS t n sh r = sh r := by
  unfold X3_init_iS
  rw [jrow_ne _ _ (by omega)]

theorem X3_init_iS_new (t n : Nat) (sh : jS) {r : Nat} (h : n + 1 < r) : X3_init_iS t n sh r = sh r := by
  unfold X3_init_iS
  rw [jrow_ne _ _ (by omega)]

theorem X3_init_iR_big (t n : Nat) (rf : jR) (h : ∀ a k, 20 ≤ k → rf a k = 0) : ∀ a k, 20 ≤ k → X3_init_iR t n rf a k = 0 := (jup_big h (by decide))
theorem X3_init_iR_old (t n : Nat) (rf : jR) (a : Nat) (h : a ≠ t) (h2 : a ≤ n) : X3_init_iR t n rf a = rf a := by
  unfold X3_init_iR
  rw [jup_ne _ _ (by omega)]

theorem X3_init_iR_new (t n : Nat) (rf : jR) (ht : t ≤ n) (a : Nat) (h : n + 1 < a) : X3_init_iR t n rf a = rf a := by
  unfold X3_init_iR
  rw [jup_ne _ _ (by omega)]

theorem X3_init_iI_old (t n : Nat) (I : jI) (a : Nat) (h : a ≠ t) (h2 : a ≤ n) : X3_init_iI t n I a = I a := by
  unfold X3_init_iI
  rw [jup_ne _ _ (by omega)]
  rw [jup_ne _ _ (by omega)]

theorem X3_init_iI_new (t n : Nat) (I : jI) (ht : t ≤ n) (a : Nat) (h : n + 1 < a) : X3_init_iI t n I a = I a := by
  unfold X3_init_iI
  rw [jup_ne _ _ (by omega)]
  rw [jup_ne _ _ (by omega)]

set_option maxRecDepth 20000 in
set_option maxHeartbeats 8000000 in
theorem K_X3_init (Y : jY) (hz : Y.zf = true) (t n : Nat) (sh : jS) (rf : jR) (I : jI) (L : jL) (hs : sh t = 4) (htn : t ≤ n) (hzr : ∀ a, n < a → rf a = (fun _ => 0) ∧ I a = (fun _ => 0) ∧ L a = (fun _ => 0)) : jMet Y yX3_init cX3_init 1 none 1 80 1 40 [jr t] n sh rf I L none (n + 1) (X3_init_iS t n sh) (X3_init_iR t n rf) (X3_init_iI t n I) L := by
  refine jmet_of (some ()) () rfl (fun Z _ => jQ Y Z 1 40 none (n + 1) (X3_init_iS t n sh) (X3_init_iR t n rf) (X3_init_iI t n I) L) (fun _ => rfl) (by decide) (Nat.le_of_ble_eq_true rfl) (fun Z hX => ?_)
  have hX : jOK Y Z RX3 cX3_init 1 "<init>" none 1 80 1 40 := hX
  obtain ⟨Qf, hQ⟩ : ∃ Qf : Unit → State → Prop, Qf () = jQ Y Z 1 40 none (n + 1) (X3_init_iS t n sh) (X3_init_iR t n rf) (X3_init_iI t n I) L := ⟨fun _ => _, rfl⟩
  have hQ2 : (fun _ : Unit => jQ Y Z 1 40 none (n + 1) (X3_init_iS t n sh) (X3_init_iR t n rf) (X3_init_iI t n I) L) = Qf := by funext u; exact hQ.symm
  show J Y Z 1 (fun _ : Unit => jQ Y Z 1 40 none (n + 1) (X3_init_iS t n sh) (X3_init_iR t n rf) (X3_init_iI t n I) L) (some ()) 0 [(0, jr t)] [] 0 0 n sh rf I L
  rw [hQ2]
  clear hQ2
  refine J_aload_n (pc := 0) hX 0 rfl dX3_init_0 ?_
  refine J_objInit (pc := 1) hX (by rw [hs]; decide) o_X3_3 ⟨by decide, by decide⟩ (Nat.le_of_ble_eq_true rfl) dX3_init_1 ?_
  refine J_aload_n (pc := 4) hX 0 rfl dX3_init_4 ?_
  refine J_iconst (pc := 5) hX (v := (-1 : Int32)) (by decide) dX3_init_5 ?_
  refine pi_X3_9 (pc := 6) hX hs dX3_init_6 ?_
  refine J_aload_n (pc := 9) hX 0 rfl dX3_init_9 ?_
  refine J_iconst (pc := 10) hX (v := (-1 : Int32)) (by decide) dX3_init_10 ?_
  refine pi_X3_15 (pc := 11) hX hs dX3_init_11 ?_
  refine J_aload_n (pc := 14) hX 0 rfl dX3_init_14 ?_
  refine J_bipush (pc := 15) hX (v := (40 : Int32)) (by decide) dX3_init_15 ?_
  refine J_newa (pc := 17) (n := n) hX hz (t := 2) (N := 40) (atype := .long) (Or.inr (Or.inr ⟨rfl, rfl⟩)) ⟨by decide, by decide, by decide⟩ n_arr2 ((jup_ne _ _ (by omega)).trans ((jup_ne _ _ (by omega)).trans (hzr (n + 1) (by omega)).2.1)) (hzr (n + 1) (by omega)).2.2 ⟨by decide, by decide⟩ dX3_init_17 ?_
  refine pr_X3_18 (pc := 19) hX ((jrow_ne _ _ (by omega)).trans hs) (by rw [(jrow_self _ _ _)]; decide) dX3_init_19 ?_
  exact J_vret (pc := 22) hX hQ dX3_init_22
def X6_init_iS (t n : Nat) (sh : jS) : jS := (X3_init_iS (n + 161) (n + 161) (jrow (X3_init_iS (n + 159) (n + 159) (jrow (X3_init_iS (n + 157) (n + 157) (jrow (X3_init_iS (n + 155) (n + 155) (jrow (X3_init_iS (n + 153) (n + 153) (jrow (X3_init_iS (n + 151) (n + 151) (jrow (X3_init_iS (n + 149) (n + 149) (jrow (X3_init_iS (n + 147) (n + 147) (jrow (jrow (jrow (jrow (X5_init_iS (n + 139) (n + 139) (jrow (X4_init_iS (n + 93) (n + 93) (jrow (X4_init_iS (n + 47) (n + 47) (jrow (X4_init_iS (n + 1) (n + 1) (jrow sh (n + 1) 5)) (n + 47) 5)) (n + 93) 5)) (n + 139) 6)) (n + 144) 5008) (n + 145) 1005) (n + 146) 1040) (n + 147) 4)) (n + 149) 4)) (n + 151) 4)) (n + 153) 4)) (n + 155) 4)) (n + 157) 4)) (n + 159) 4)) (n + 161) 4))
def X6_init_iR (t n : Nat) (rf : jR) : jR := (jup (X3_init_iR (n + 161) (n + 161) (jup (X3_init_iR (n + 159) (n + 159) (jup (X3_init_iR (n + 157) (n + 157) (jup (X3_init_iR (n + 155) (n + 155) (jup (X3_init_iR (n + 153) (n + 153) (jup (X3_init_iR (n + 151) (n + 151) (jup (X3_init_iR (n + 149) (n + 149) (jup (X3_init_iR (n + 147) (n + 147) (jup (jup (jup (jup (X5_init_iR (n + 139) (n + 139) (jup (X4_init_iR (n + 93) (n + 93) (jup (X4_init_iR (n + 47) (n + 47) (jup (X4_init_iR (n + 1) (n + 1) rf) t 0 (n + 1))) t 1 (n + 47))) t 2 (n + 93))) t 4 (n + 139)) t 5 (n + 144)) t 6 (n + 145)) t 7 (n + 146))) (n + 144) 0 (n + 147))) (n + 144) 1 (n + 149))) (n + 144) 2 (n + 151))) (n + 144) 3 (n + 153))) (n + 144) 4 (n + 155))) (n + 144) 5 (n + 157))) (n + 144) 6 (n + 159))) (n + 144) 7 (n + 161))
def X6_init_iI (t n : Nat) (I : jI) : jI := (X3_init_iI (n + 161) (n + 161) (X3_init_iI (n + 159) (n + 159) (X3_init_iI (n + 157) (n + 157) (X3_init_iI (n + 155) (n + 155) (X3_init_iI (n + 153) (n + 153) (X3_init_iI (n + 151) (n + 151) (X3_init_iI (n + 149) (n + 149) (X3_init_iI (n + 147) (n + 147) (X5_init_iI (n + 139) (n + 139) (X4_init_iI (n + 93) (n + 93) (X4_init_iI (n + 47) (n + 47) (X4_init_iI (n + 1) (n + 1) I))))))))))))
theorem X6_init_iS_old (t n : Nat) (sh : jS) {r : Nat} (h : r ≤ n) : X6_init_iS t n sh r = sh r := by
  unfold X6_init_iS
  rw [X3_init_iS_old _ _ _ (by omega)]
  rw [jrow_ne _ _ (by omega)]
  rw [X3_init_iS_old _ _ _ (by omega)]
  rw [jrow_ne _ _ (by omega)]
  rw [X3_init_iS_old _ _ _ (by omega)]
  rw [jrow_ne _ _ (by omega)]
  rw [X3_init_iS_old _ _ _ (by omega)]
  rw [jrow_ne _ _ (by omega)]
  rw [X3_init_iS_old _ _ _ (by omega)]
  rw [jrow_ne _ _ (by omega)]
  rw [X3_init_iS_old _ _ _ (by omega)]
  rw [jrow_ne _ _ (by omega)]
  rw [X3_init_iS_old _ _ _ (by omega)]
  rw [jrow_ne _ _ (by omega)]
  rw [X3_init_iS_old _ _ _ (by omega)]
  rw [jrow_ne _ _ (by omega)]
  rw [jrow_ne _ _ (by omega)]
  rw [jrow_ne _ _ (by omega)]
  rw [jrow_ne _ _ (by omega)]
  rw [X5_init_iS_old _ _ _ (by omega)]
  rw [jrow_ne _ _ (by omega)]
  rw [X4_init_iS_old _ _ _ (by omega)]
  rw [jrow_ne _ _ (by omega)]
  rw [X4_init_iS_old _ _ _ (by omega)]
  rw [jrow_ne _ _ (by omega)]
  rw [X4_init_iS_old _ _ _ (by omega)]
  rw [jrow_ne _ _ (by omega)]

theorem X6_init_iS_new (t n : Nat) (sh : jS) {r : Nat} (h : n + 162 < r) : X6_init_iS t n sh r = sh r := by
  unfold X6_init_iS
  rw [X3_init_iS_new _ _ _ (by omega)]
  rw [jrow_ne _ _ (by omega)]
  rw [X3_init_iS_new _ _ _ (by omega)]
  rw [jrow_ne _ _ (by omega)]
  rw [X3_init_iS_new _ _ _ (by omega)]
  rw [jrow_ne _ _ (by omega)]
  rw [X3_init_iS_new _ _ _ (by omega)]
  rw [jrow_ne _ _ (by omega)]
  rw [X3_init_iS_new _ _ _ (by omega)]
  rw [jrow_ne _ _ (by omega)]
  rw [X3_init_iS_new _ _ _ (by omega)]
  rw [jrow_ne _ _ (by omega)]
  rw [X3_init_iS_new _ _ _ (by omega)]
  rw [jrow_ne _ _ (by omega)]
  rw [X3_init_iS_new _ _ _ (by omega)]
  rw [jrow_ne _ _ (by omega)]
  rw [jrow_ne _ _ (by omega)]
  rw [jrow_ne _ _ (by omega)]
  rw [jrow_ne _ _ (by omega)]
  rw [X5_init_iS_new _ _ _ (by omega)]
  rw [jrow_ne _ _ (by omega)]
  rw [X4_init_iS_new _ _ _ (by omega)]
  rw [jrow_ne _ _ (by omega)]
  rw [X4_init_iS_new _ _ _ (by omega)]
  rw [jrow_ne _ _ (by omega)]
  rw [X4_init_iS_new _ _ _ (by omega)]
  rw [jrow_ne _ _ (by omega)]

theorem X6_init_iR_big (t n : Nat) (rf : jR) (h : ∀ a k, 20 ≤ k → rf a k = 0) : ∀ a k, 20 ≤ k → X6_init_iR t n rf a k = 0 := (jup_big (X3_init_iR_big _ _ _ (jup_big (X3_init_iR_big _ _ _ (jup_big (X3_init_iR_big _ _ _ (jup_big (X3_init_iR_big _ _ _ (jup_big (X3_init_iR_big _ _ _ (jup_big (X3_init_iR_big _ _ _ (jup_big (X3_init_iR_big _ _ _ (jup_big (X3_init_iR_big _ _ _ (jup_big (jup_big (jup_big (jup_big (X5_init_iR_big _ _ _ (jup_big (X4_init_iR_big _ _ _ (jup_big (X4_init_iR_big _ _ _ (jup_big (X4_init_iR_big _ _ _ h) (by decide))) (by decide))) (by decide))) (by decide)) (by decide)) (by decide)) (by decide))) (by decide))) (by decide))) (by decide))) (by decide))) (by decide))) (by decide))) (by decide))) (by decide))
theorem X6_init_iR_old (t n : Nat) (rf : jR) (a : Nat) (h : a ≠ t) (h2 : a ≤ n) : X6_init_iR t n rf a = rf a := by
  unfold X6_init_iR
  rw [jup_ne _ _ (by omega)]
  rw [X3_init_iR_old _ _ _ _ (by omega) (by omega)]
  rw [jup_ne _ _ (by omega)]
  rw [X3_init_iR_old _ _ _ _ (by omega) (by omega)]
  rw [jup_ne _ _ (by omega)]
  rw [X3_init_iR_old _ _ _ _ (by omega) (by omega)]
  rw [jup_ne _ _ (by omega)]
  rw [X3_init_iR_old _ _ _ _ (by omega) (by omega)]
  rw [jup_ne _ _ (by omega)]
  rw [X3_init_iR_old _ _ _ _ (by omega) (by omega)]
  rw [jup_ne _ _ (by omega)]
  rw [X3_init_iR_old _ _ _ _ (by omega) (by omega)]
  rw [jup_ne _ _ (by omega)]
  rw [X3_init_iR_old _ _ _ _ (by omega) (by omega)]
  rw [jup_ne _ _ (by omega)]
  rw [X3_init_iR_old _ _ _ _ (by omega) (by omega)]
  rw [jup_ne _ _ (by omega)]
  rw [jup_ne _ _ (by omega)]
  rw [jup_ne _ _ (by omega)]
  rw [jup_ne _ _ (by omega)]
  rw [X5_init_iR_old _ _ _ _ (by omega) (by omega)]
  rw [jup_ne _ _ (by omega)]
  rw [X4_init_iR_old _ _ _ _ (by omega) (by omega)]
  rw [jup_ne _ _ (by omega)]
  rw [X4_init_iR_old _ _ _ _ (by omega) (by omega)]
  rw [jup_ne _ _ (by omega)]
  rw [X4_init_iR_old _ _ _ _ (by omega) (by omega)]

theorem X6_init_iR_new (t n : Nat) (rf : jR) (ht : t ≤ n) (a : Nat) (h : n + 162 < a) : X6_init_iR t n rf a = rf a := by
  unfold X6_init_iR
  rw [jup_ne _ _ (by omega)]
  rw [X3_init_iR_new _ _ _ (by omega) _ (by omega)]
  rw [jup_ne _ _ (by omega)]
  rw [X3_init_iR_new _ _ _ (by omega) _ (by omega)]
  rw [jup_ne _ _ (by omega)]
  rw [X3_init_iR_new _ _ _ (by omega) _ (by omega)]
  rw [jup_ne _ _ (by omega)]
  rw [X3_init_iR_new _ _ _ (by omega) _ (by omega)]
  rw [jup_ne _ _ (by omega)]
  rw [X3_init_iR_new _ _ _ (by omega) _ (by omega)]
  rw [jup_ne _ _ (by omega)]
  rw [X3_init_iR_new _ _ _ (by omega) _ (by omega)]
  rw [jup_ne _ _ (by omega)]
  rw [X3_init_iR_new _ _ _ (by omega) _ (by omega)]
  rw [jup_ne _ _ (by omega)]
  rw [X3_init_iR_new _ _ _ (by omega) _ (by omega)]
  rw [jup_ne _ _ (by omega)]
  rw [jup_ne _ _ (by omega)]
  rw [jup_ne _ _ (by omega)]
  rw [jup_ne _ _ (by omega)]
  rw [X5_init_iR_new _ _ _ (by omega) _ (by omega)]
  rw [jup_ne _ _ (by omega)]
  rw [X4_init_iR_new _ _ _ (by omega) _ (by omega)]
  rw [jup_ne _ _ (by omega)]
  rw [X4_init_iR_new _ _ _ (by omega) _ (by omega)]
  rw [jup_ne _ _ (by omega)]
  rw [X4_init_iR_new _ _ _ (by omega) _ (by omega)]

theorem X6_init_iI_old (t n : Nat) (I : jI) (a : Nat) (h : a ≠ t) (h2 : a ≤ n) : X6_init_iI t n I a = I a := by
  unfold X6_init_iI
  rw [X3_init_iI_old _ _ _ _ (by omega) (by omega)]
  rw [X3_init_iI_old _ _ _ _ (by omega) (by omega)]
  rw [X3_init_iI_old _ _ _ _ (by omega) (by omega)]
  rw [X3_init_iI_old _ _ _ _ (by omega) (by omega)]
  rw [X3_init_iI_old _ _ _ _ (by omega) (by omega)]
  rw [X3_init_iI_old _ _ _ _ (by omega) (by omega)]
  rw [X3_init_iI_old _ _ _ _ (by omega) (by omega)]
  rw [X3_init_iI_old _ _ _ _ (by omega) (by omega)]
  rw [X5_init_iI_old _ _ _ _ (by omega) (by omega)]
  rw [X4_init_iI_old _ _ _ _ (by omega) (by omega)]
  rw [X4_init_iI_old _ _ _ _ (by omega) (by omega)]
  rw [X4_init_iI_old _ _ _ _ (by omega) (by omega)]

theorem X6_init_iI_new (t n : Nat) (I : jI) (ht : t ≤ n) (a : Nat) (h : n + 162 < a) : X6_init_iI t n I a = I a := by
  unfold X6_init_iI
  rw [X3_init_iI_new _ _ _ (by omega) _ (by omega)]
  rw [X3_init_iI_new _ _ _ (by omega) _ (by omega)]
  rw [X3_init_iI_new _ _ _ (by omega) _ (by omega)]
  rw [X3_init_iI_new _ _ _ (by omega) _ (by omega)]
  rw [X3_init_iI_new _ _ _ (by omega) _ (by omega)]
  rw [X3_init_iI_new _ _ _ (by omega) _ (by omega)]
  rw [X3_init_iI_new _ _ _ (by omega) _ (by omega)]
  rw [X3_init_iI_new _ _ _ (by omega) _ (by omega)]
  rw [X5_init_iI_new _ _ _ (by omega) _ (by omega)]
  rw [X4_init_iI_new _ _ _ (by omega) _ (by omega)]
  rw [X4_init_iI_new _ _ _ (by omega) _ (by omega)]
  rw [X4_init_iI_new _ _ _ (by omega) _ (by omega)]

set_option maxRecDepth 20000 in
set_option maxHeartbeats 8000000 in
theorem K_X6_init (Y : jY) (hz : Y.zf = true) (t n : Nat) (sh : jS) (rf : jR) (I : jI) (L : jL) (hs : sh t = 7) (htn : t ≤ n) (hzr : ∀ a, n < a → rf a = (fun _ => 0) ∧ I a = (fun _ => 0) ∧ L a = (fun _ => 0)) : jMet Y yX6_init cX6_init 2 none 3 121 162 3804 [jr t] n sh rf I L none (n + 162) (X6_init_iS t n sh) (X6_init_iR t n rf) (X6_init_iI t n I) L := by
  refine jmet_of (some ()) () rfl (fun Z _ => jQ Y Z 162 3804 none (n + 162) (X6_init_iS t n sh) (X6_init_iR t n rf) (X6_init_iI t n I) L) (fun _ => rfl) (by decide) (Nat.le_of_ble_eq_true rfl) (fun Z hX => ?_)
  have hX : jOK Y Z RX6 cX6_init 2 "<init>" none 3 121 162 3804 := hX
  obtain ⟨Qf, hQ⟩ : ∃ Qf : Unit → State → Prop, Qf () = jQ Y Z 162 3804 none (n + 162) (X6_init_iS t n sh) (X6_init_iR t n rf) (X6_init_iI t n I) L := ⟨fun _ => _, rfl⟩
  have hQ2 : (fun _ : Unit => jQ Y Z 162 3804 none (n + 162) (X6_init_iS t n sh) (X6_init_iR t n rf) (X6_init_iI t n I) L) = Qf := by funext u; exact hQ.symm
  show J Y Z 2 (fun _ : Unit => jQ Y Z 162 3804 none (n + 162) (X6_init_iS t n sh) (X6_init_iR t n rf) (X6_init_iI t n I) L) (some ()) 0 [(0, jr t)] [] 0 0 n sh rf I L
  rw [hQ2]
  clear hQ2
  refine J_aload_n (pc := 0) hX 0 rfl dX6_init_0 ?_
  refine J_objInit (pc := 1) hX (by rw [hs]; decide) o_X6_1 ⟨by decide, by decide⟩ (Nat.le_of_ble_eq_true rfl) dX6_init_1 ?_
  refine J_aload_n (pc := 4) hX 0 rfl dX6_init_4 ?_
  refine J_new (pc := 5) (n := n) hX hz (ci := 4) (T := TX4) (N := 18) (ty0 := tyX4) rfl inX4 tyX4_ok (by decide) n_X6_7 (by decide +kernel) (hzr (n + 1) (by omega)).1 (hzr (n + 1) (by omega)).2.1 ⟨by decide, by decide⟩ dX6_init_5 ?_
  refine J_dup (pc := 8) hX rfl dX6_init_8 ?_
  refine jrun_c (pc := 9) (mc := 45) (ms := 999) (n' := n + 46) (jRunI hX s_X6_9 (As := []) (rest := [jr (n + 1), jr t]) (K_X4_init Y hz (n + 1) (n + 1) (jrow sh (n + 1) 5) rf I L (jrow_self _ _ _) (by omega) (fun a ha => ⟨(hzr a (by omega)).1, (hzr a (by omega)).2.1, (hzr a (by omega)).2.2⟩)) (by rw [(jrow_self _ _ _)]; decide) rfl rfl ⟨by decide, by decide⟩ ⟨by decide, by decide⟩ (Nat.le_of_ble_eq_true rfl) dX6_init_9) ?_
  refine pr_X6_10 (pc := 12) hX ((X4_init_iS_old _ _ _ (by omega)).trans ((jrow_ne _ _ (by omega)).trans hs)) (by rw [((X4_init_iS_old _ _ _ (by omega)).trans (jrow_self _ _ _))]; decide) dX6_init_12 ?_
  refine J_aload_n (pc := 15) hX 0 rfl dX6_init_15 ?_
  refine J_new (pc := 16) (n := n + 46) hX hz (ci := 4) (T := TX4) (N := 18) (ty0 := tyX4) rfl inX4 tyX4_ok (by decide) n_X6_7 (by decide +kernel) ((jup_ne _ _ (by omega)).trans ((X4_init_iR_new _ _ _ (by omega) _ (by omega)).trans (hzr (n + 47) (by omega)).1)) ((X4_init_iI_new _ _ _ (by omega) _ (by omega)).trans (hzr (n + 47) (by omega)).2.1) ⟨by decide, by decide⟩ dX6_init_16 ?_
  refine J_dup (pc := 19) hX rfl dX6_init_19 ?_
  refine jrun_c (pc := 20) (mc := 45) (ms := 999) (n' := n + 92) (jRunI hX s_X6_9 (As := []) (rest := [jr (n + 47), jr t]) (K_X4_init Y hz (n + 47) (n + 47) (jrow (X4_init_iS (n + 1) (n + 1) (jrow sh (n + 1) 5)) (n + 47) 5) (jup (X4_init_iR (n + 1) (n + 1) rf) t 0 (n + 1)) (X4_init_iI (n + 1) (n + 1) I) L (jrow_self _ _ _) (by omega) (fun a ha => ⟨((jup_ne _ _ (by omega)).trans ((X4_init_iR_new _ _ _ (by omega) _ (by omega)).trans (hzr a (by omega)).1)), ((X4_init_iI_new _ _ _ (by omega) _ (by omega)).trans (hzr a (by omega)).2.1), (hzr a (by omega)).2.2⟩)) (by rw [(jrow_self _ _ _)]; decide) rfl rfl ⟨by decide, by decide⟩ ⟨by decide, by decide⟩ (Nat.le_of_ble_eq_true rfl) dX6_init_20) ?_
  refine pr_X6_16 (pc := 23) hX ((X4_init_iS_old _ _ _ (by omega)).trans ((jrow_ne _ _ (by omega)).trans ((X4_init_iS_old _ _ _ (by omega)).trans ((jrow_ne _ _ (by omega)).trans hs)))) (by rw [((X4_init_iS_old _ _ _ (by omega)).trans (jrow_self _ _ _))]; decide) dX6_init_23 ?_
  refine J_aload_n (pc := 26) hX 0 rfl dX6_init_26 ?_
  refine J_new (pc := 27) (n := n + 92) hX hz (ci := 4) (T := TX4) (N := 18) (ty0 := tyX4) rfl inX4 tyX4_ok (by decide) n_X6_7 (by decide +kernel) ((jup_ne _ _ (by omega)).trans ((X4_init_iR_new _ _ _ (by omega) _ (by omega)).trans ((jup_ne _ _ (by omega)).trans ((X4_init_iR_new _ _ _ (by omega) _ (by omega)).trans (hzr (n + 93) (by omega)).1)))) ((X4_init_iI_new _ _ _ (by omega) _ (by omega)).trans ((X4_init_iI_new _ _ _ (by omega) _ (by omega)).trans (hzr (n + 93) (by omega)).2.1)) ⟨by decide, by decide⟩ dX6_init_27 ?_
  refine J_dup (pc := 30) hX rfl dX6_init_30 ?_
  refine jrun_c (pc := 31) (mc := 45) (ms := 999) (n' := n + 138) (jRunI hX s_X6_9 (As := []) (rest := [jr (n + 93), jr t]) (K_X4_init Y hz (n + 93) (n + 93) (jrow (X4_init_iS (n + 47) (n + 47) (jrow (X4_init_iS (n + 1) (n + 1) (jrow sh (n + 1) 5)) (n + 47) 5)) (n + 93) 5) (jup (X4_init_iR (n + 47) (n + 47) (jup (X4_init_iR (n + 1) (n + 1) rf) t 0 (n + 1))) t 1 (n + 47)) (X4_init_iI (n + 47) (n + 47) (X4_init_iI (n + 1) (n + 1) I)) L (jrow_self _ _ _) (by omega) (fun a ha => ⟨((jup_ne _ _ (by omega)).trans ((X4_init_iR_new _ _ _ (by omega) _ (by omega)).trans ((jup_ne _ _ (by omega)).trans ((X4_init_iR_new _ _ _ (by omega) _ (by omega)).trans (hzr a (by omega)).1)))), ((X4_init_iI_new _ _ _ (by omega) _ (by omega)).trans ((X4_init_iI_new _ _ _ (by omega) _ (by omega)).trans (hzr a (by omega)).2.1)), (hzr a (by omega)).2.2⟩)) (by rw [(jrow_self _ _ _)]; decide) rfl rfl ⟨by decide, by decide⟩ ⟨by decide, by decide⟩ (Nat.le_of_ble_eq_true rfl) dX6_init_31) ?_
  refine pr_X6_19 (pc := 34) hX ((X4_init_iS_old _ _ _ (by omega)).trans ((jrow_ne _ _ (by omega)).trans ((X4_init_iS_old _ _ _ (by omega)).trans ((jrow_ne _ _ (by omega)).trans ((X4_init_iS_old _ _ _ (by omega)).trans ((jrow_ne _ _ (by omega)).trans hs)))))) (by rw [((X4_init_iS_old _ _ _ (by omega)).trans (jrow_self _ _ _))]; decide) dX6_init_34 ?_
  refine J_aload_n (pc := 37) hX 0 rfl dX6_init_37 ?_
  refine J_new (pc := 38) (n := n + 138) hX hz (ci := 5) (T := TX5) (N := 8) (ty0 := tyX5) rfl inX5 tyX5_ok (by decide) n_X6_22 (by decide +kernel) ((jup_ne _ _ (by omega)).trans ((X4_init_iR_new _ _ _ (by omega) _ (by omega)).trans ((jup_ne _ _ (by omega)).trans ((X4_init_iR_new _ _ _ (by omega) _ (by omega)).trans ((jup_ne _ _ (by omega)).trans ((X4_init_iR_new _ _ _ (by omega) _ (by omega)).trans (hzr (n + 139) (by omega)).1)))))) ((X4_init_iI_new _ _ _ (by omega) _ (by omega)).trans ((X4_init_iI_new _ _ _ (by omega) _ (by omega)).trans ((X4_init_iI_new _ _ _ (by omega) _ (by omega)).trans (hzr (n + 139) (by omega)).2.1))) ⟨by decide, by decide⟩ dX6_init_38 ?_
  refine J_dup (pc := 41) hX rfl dX6_init_41 ?_
  refine jrun_c (pc := 42) (mc := 4) (ms := 340) (n' := n + 143) (jRunIN hX s_X6_24 (As := []) (rest := [jr (n + 139), jr t]) (K_X5_init Y hz (n + 139) (n + 139) (jrow (X4_init_iS (n + 93) (n + 93) (jrow (X4_init_iS (n + 47) (n + 47) (jrow (X4_init_iS (n + 1) (n + 1) (jrow sh (n + 1) 5)) (n + 47) 5)) (n + 93) 5)) (n + 139) 6) (jup (X4_init_iR (n + 93) (n + 93) (jup (X4_init_iR (n + 47) (n + 47) (jup (X4_init_iR (n + 1) (n + 1) rf) t 0 (n + 1))) t 1 (n + 47))) t 2 (n + 93)) (X4_init_iI (n + 93) (n + 93) (X4_init_iI (n + 47) (n + 47) (X4_init_iI (n + 1) (n + 1) I))) L (jrow_self _ _ _) (by omega) (fun a ha => ⟨((jup_ne _ _ (by omega)).trans ((X4_init_iR_new _ _ _ (by omega) _ (by omega)).trans ((jup_ne _ _ (by omega)).trans ((X4_init_iR_new _ _ _ (by omega) _ (by omega)).trans ((jup_ne _ _ (by omega)).trans ((X4_init_iR_new _ _ _ (by omega) _ (by omega)).trans (hzr a (by omega)).1)))))), ((X4_init_iI_new _ _ _ (by omega) _ (by omega)).trans ((X4_init_iI_new _ _ _ (by omega) _ (by omega)).trans ((X4_init_iI_new _ _ _ (by omega) _ (by omega)).trans (hzr a (by omega)).2.1))), (hzr a (by omega)).2.2⟩)) (by rw [(jrow_self _ _ _)]; decide) rfl rfl ⟨by decide, by decide⟩ ⟨by decide, by decide⟩ (Nat.le_of_ble_eq_true rfl) dX6_init_42) ?_
  refine pr_X6_25 (pc := 45) hX ((X5_init_iS_old _ _ _ (by omega)).trans ((jrow_ne _ _ (by omega)).trans ((X4_init_iS_old _ _ _ (by omega)).trans ((jrow_ne _ _ (by omega)).trans ((X4_init_iS_old _ _ _ (by omega)).trans ((jrow_ne _ _ (by omega)).trans ((X4_init_iS_old _ _ _ (by omega)).trans ((jrow_ne _ _ (by omega)).trans hs)))))))) (by rw [((X5_init_iS_old _ _ _ (by omega)).trans (jrow_self _ _ _))]; decide) dX6_init_45 ?_
  refine J_aload_n (pc := 48) hX 0 rfl dX6_init_48 ?_
  refine J_bipush (pc := 49) hX (v := (8 : Int32)) (by decide) dX6_init_49 ?_
  refine J_anew (pc := 51) (n := n + 143) hX hz (t := 1) (N := 8) (C := RX3) rfl ⟨by decide, by decide, by decide⟩ (jm 313 (by decide +kernel) (by decide +kernel)) (fun h => h.2.2.1) ((jup_ne _ _ (by omega)).trans ((X5_init_iR_new _ _ _ (by omega) _ (by omega)).trans ((jup_ne _ _ (by omega)).trans ((X4_init_iR_new _ _ _ (by omega) _ (by omega)).trans ((jup_ne _ _ (by omega)).trans ((X4_init_iR_new _ _ _ (by omega) _ (by omega)).trans ((jup_ne _ _ (by omega)).trans ((X4_init_iR_new _ _ _ (by omega) _ (by omega)).trans (hzr (n + 144) (by omega)).1)))))))) ⟨by decide, by decide⟩ dX6_init_51 ?_
  refine pr_X6_31 (pc := 54) hX ((jrow_ne _ _ (by omega)).trans ((X5_init_iS_old _ _ _ (by omega)).trans ((jrow_ne _ _ (by omega)).trans ((X4_init_iS_old _ _ _ (by omega)).trans ((jrow_ne _ _ (by omega)).trans ((X4_init_iS_old _ _ _ (by omega)).trans ((jrow_ne _ _ (by omega)).trans ((X4_init_iS_old _ _ _ (by omega)).trans ((jrow_ne _ _ (by omega)).trans hs))))))))) (by rw [(jrow_self _ _ _)]; decide) dX6_init_54 ?_
  refine J_aload_n (pc := 57) hX 0 rfl dX6_init_57 ?_
  refine J_iconst (pc := 58) hX (v := (5 : Int32)) (by decide) dX6_init_58 ?_
  refine J_newa (pc := 59) (n := n + 144) hX hz (t := 0) (N := 5) (atype := .int) (Or.inl ⟨rfl, rfl⟩) ⟨by decide, by decide, by decide⟩ n_arr0 ((X5_init_iI_new _ _ _ (by omega) _ (by omega)).trans ((X4_init_iI_new _ _ _ (by omega) _ (by omega)).trans ((X4_init_iI_new _ _ _ (by omega) _ (by omega)).trans ((X4_init_iI_new _ _ _ (by omega) _ (by omega)).trans (hzr (n + 145) (by omega)).2.1)))) (hzr (n + 145) (by omega)).2.2 ⟨by decide, by decide⟩ dX6_init_59 ?_
  refine pr_X6_35 (pc := 61) hX ((jrow_ne _ _ (by omega)).trans ((jrow_ne _ _ (by omega)).trans ((X5_init_iS_old _ _ _ (by omega)).trans ((jrow_ne _ _ (by omega)).trans ((X4_init_iS_old _ _ _ (by omega)).trans ((jrow_ne _ _ (by omega)).trans ((X4_init_iS_old _ _ _ (by omega)).trans ((jrow_ne _ _ (by omega)).trans ((X4_init_iS_old _ _ _ (by omega)).trans ((jrow_ne _ _ (by omega)).trans hs)))))))))) (by rw [(jrow_self _ _ _)]; decide) dX6_init_61 ?_
  refine J_aload_n (pc := 64) hX 0 rfl dX6_init_64 ?_
  refine J_bipush (pc := 65) hX (v := (40 : Int32)) (by decide) dX6_init_65 ?_
  refine J_newa (pc := 67) (n := n + 145) hX hz (t := 0) (N := 40) (atype := .int) (Or.inl ⟨rfl, rfl⟩) ⟨by decide, by decide, by decide⟩ n_arr0 ((X5_init_iI_new _ _ _ (by omega) _ (by omega)).trans ((X4_init_iI_new _ _ _ (by omega) _ (by omega)).trans ((X4_init_iI_new _ _ _ (by omega) _ (by omega)).trans ((X4_init_iI_new _ _ _ (by omega) _ (by omega)).trans (hzr (n + 146) (by omega)).2.1)))) (hzr (n + 146) (by omega)).2.2 ⟨by decide, by decide⟩ dX6_init_67 ?_
  refine pr_X6_39 (pc := 69) hX ((jrow_ne _ _ (by omega)).trans ((jrow_ne _ _ (by omega)).trans ((jrow_ne _ _ (by omega)).trans ((X5_init_iS_old _ _ _ (by omega)).trans ((jrow_ne _ _ (by omega)).trans ((X4_init_iS_old _ _ _ (by omega)).trans ((jrow_ne _ _ (by omega)).trans ((X4_init_iS_old _ _ _ (by omega)).trans ((jrow_ne _ _ (by omega)).trans ((X4_init_iS_old _ _ _ (by omega)).trans ((jrow_ne _ _ (by omega)).trans hs))))))))))) (by rw [(jrow_self _ _ _)]; decide) dX6_init_69 ?_
  refine J_iconst (pc := 72) hX (v := (0 : Int32)) (by decide) dX6_init_72 ?_
  refine J_istore_n (pc := 73) hX (lo' := [(1, ji (0 : Int32)), (0, jr t)]) (by decide) rfl dX6_init_73 ?_
  refine J_iload_n (pc := 74) hX 0 rfl dX6_init_74 ?_
  refine J_aload_n (pc := 75) hX 1 rfl dX6_init_75 ?_
  refine g_X6_31 (pc := 76) hX ((jrow_ne _ _ (by omega)).trans ((jrow_ne _ _ (by omega)).trans ((jrow_ne _ _ (by omega)).trans ((X5_init_iS_old _ _ _ (by omega)).trans ((jrow_ne _ _ (by omega)).trans ((X4_init_iS_old _ _ _ (by omega)).trans ((jrow_ne _ _ (by omega)).trans ((X4_init_iS_old _ _ _ (by omega)).trans ((jrow_ne _ _ (by omega)).trans ((X4_init_iS_old _ _ _ (by omega)).trans ((jrow_ne _ _ (by omega)).trans hs))))))))))) dX6_init_76 ?_
  refine J_eqr (y := (n + 144)) ((jup_ot _ _ _ (by decide)).trans ((jup_ot _ _ _ (by decide)).trans (jup_at _ _ _ _))) ?_
  refine J_alen (pc := 79) hX (v := (8 : Int32)) ((jrow_ne _ _ (by omega)).trans ((jrow_ne _ _ (by omega)).trans (jrow_self _ _ _))) (by decide) dX6_init_79 ?_
  refine J_icmp_ge_f (pc := 80) hX (tgt := 102) (by decide) (by decide) dX6_init_80 ?_
  refine J_aload_n (pc := 83) hX 1 rfl dX6_init_83 ?_
  refine g_X6_31 (pc := 84) hX ((jrow_ne _ _ (by omega)).trans ((jrow_ne _ _ (by omega)).trans ((jrow_ne _ _ (by omega)).trans ((X5_init_iS_old _ _ _ (by omega)).trans ((jrow_ne _ _ (by omega)).trans ((X4_init_iS_old _ _ _ (by omega)).trans ((jrow_ne _ _ (by omega)).trans ((X4_init_iS_old _ _ _ (by omega)).trans ((jrow_ne _ _ (by omega)).trans ((X4_init_iS_old _ _ _ (by omega)).trans ((jrow_ne _ _ (by omega)).trans hs))))))))))) dX6_init_84 ?_
  refine J_eqr (y := (n + 144)) ((jup_ot _ _ _ (by decide)).trans ((jup_ot _ _ _ (by decide)).trans (jup_at _ _ _ _))) ?_
  refine J_iload_n (pc := 87) hX 0 rfl dX6_init_87 ?_
  refine J_new (pc := 88) (n := n + 146) hX hz (ci := 3) (T := TX3) (N := 4) (ty0 := tyX3) rfl inX3 tyX3_ok (by decide) n_X6_29 (by decide +kernel) ((jup_ne _ _ (by omega)).trans ((jup_ne _ _ (by omega)).trans ((jup_ne _ _ (by omega)).trans ((jup_ne _ _ (by omega)).trans ((X5_init_iR_new _ _ _ (by omega) _ (by omega)).trans ((jup_ne _ _ (by omega)).trans ((X4_init_iR_new _ _ _ (by omega) _ (by omega)).trans ((jup_ne _ _ (by omega)).trans ((X4_init_iR_new _ _ _ (by omega) _ (by omega)).trans ((jup_ne _ _ (by omega)).trans ((X4_init_iR_new _ _ _ (by omega) _ (by omega)).trans (hzr (n + 147) (by omega)).1))))))))))) ((X5_init_iI_new _ _ _ (by omega) _ (by omega)).trans ((X4_init_iI_new _ _ _ (by omega) _ (by omega)).trans ((X4_init_iI_new _ _ _ (by omega) _ (by omega)).trans ((X4_init_iI_new _ _ _ (by omega) _ (by omega)).trans (hzr (n + 147) (by omega)).2.1)))) ⟨by decide, by decide⟩ dX6_init_88 ?_
  refine J_dup (pc := 91) hX rfl dX6_init_91 ?_
  refine jrun_c (pc := 92) (mc := 1) (ms := 40) (n' := n + 148) (jRunIN hX s_X6_42 (As := []) (rest := [jr (n + 147), ji (0 : Int32), jr (n + 144)]) (K_X3_init Y hz (n + 147) (n + 147) (jrow (jrow (jrow (jrow (X5_init_iS (n + 139) (n + 139) (jrow (X4_init_iS (n + 93) (n + 93) (jrow (X4_init_iS (n + 47) (n + 47) (jrow (X4_init_iS (n + 1) (n + 1) (jrow sh (n + 1) 5)) (n + 47) 5)) (n + 93) 5)) (n + 139) 6)) (n + 144) 5008) (n + 145) 1005) (n + 146) 1040) (n + 147) 4) (jup (jup (jup (jup (X5_init_iR (n + 139) (n + 139) (jup (X4_init_iR (n + 93) (n + 93) (jup (X4_init_iR (n + 47) (n + 47) (jup (X4_init_iR (n + 1) (n + 1) rf) t 0 (n + 1))) t 1 (n + 47))) t 2 (n + 93))) t 4 (n + 139)) t 5 (n + 144)) t 6 (n + 145)) t 7 (n + 146)) (X5_init_iI (n + 139) (n + 139) (X4_init_iI (n + 93) (n + 93) (X4_init_iI (n + 47) (n + 47) (X4_init_iI (n + 1) (n + 1) I)))) L (jrow_self _ _ _) (by omega) (fun a ha => ⟨((jup_ne _ _ (by omega)).trans ((jup_ne _ _ (by omega)).trans ((jup_ne _ _ (by omega)).trans ((jup_ne _ _ (by omega)).trans ((X5_init_iR_new _ _ _ (by omega) _ (by omega)).trans ((jup_ne _ _ (by omega)).trans ((X4_init_iR_new _ _ _ (by omega) _ (by omega)).trans ((jup_ne _ _ (by omega)).trans ((X4_init_iR_new _ _ _ (by omega) _ (by omega)).trans ((jup_ne _ _ (by omega)).trans ((X4_init_iR_new _ _ _ (by omega) _ (by omega)).trans (hzr a (by omega)).1))))))))))), ((X5_init_iI_new _ _ _ (by omega) _ (by omega)).trans ((X4_init_iI_new _ _ _ (by omega) _ (by omega)).trans ((X4_init_iI_new _ _ _ (by omega) _ (by omega)).trans ((X4_init_iI_new _ _ _ (by omega) _ (by omega)).trans (hzr a (by omega)).2.1)))), (hzr a (by omega)).2.2⟩)) (by rw [(jrow_self _ _ _)]; decide) rfl rfl ⟨by decide, by decide⟩ ⟨by decide, by decide⟩ (Nat.le_of_ble_eq_true rfl) dX6_init_92) ?_
  refine J_aastC (pc := 95) hX (N := 8) (t := 1) (ci := 3) (j := 0) ((X3_init_iS_old _ _ _ (by omega)).trans ((jrow_ne _ _ (by omega)).trans ((jrow_ne _ _ (by omega)).trans ((jrow_ne _ _ (by omega)).trans (jrow_self _ _ _))))) (by decide) ((X3_init_iS_old _ _ _ (by omega)).trans (jrow_self _ _ _)) (by decide) rfl rfl (by decide) (by decide) dX6_init_95 ?_
  refine J_iinc (pc := 96) hX (v := (1 : Int32)) (lo' := [(1, ji (1 : Int32)), (0, jr t)]) 0 rfl (by decide) (by decide) rfl dX6_init_96 ?_
  refine J_goto (pc := 99) hX (tgt := 74) (by decide) dX6_init_99 ?_
  refine J_iload_n (pc := 74) hX 0 rfl dX6_init_74 ?_
  refine J_aload_n (pc := 75) hX 1 rfl dX6_init_75 ?_
  refine g_X6_31 (pc := 76) hX ((X3_init_iS_old _ _ _ (by omega)).trans ((jrow_ne _ _ (by omega)).trans ((jrow_ne _ _ (by omega)).trans ((jrow_ne _ _ (by omega)).trans ((jrow_ne _ _ (by omega)).trans ((X5_init_iS_old _ _ _ (by omega)).trans ((jrow_ne _ _ (by omega)).trans ((X4_init_iS_old _ _ _ (by omega)).trans ((jrow_ne _ _ (by omega)).trans ((X4_init_iS_old _ _ _ (by omega)).trans ((jrow_ne _ _ (by omega)).trans ((X4_init_iS_old _ _ _ (by omega)).trans ((jrow_ne _ _ (by omega)).trans hs))))))))))))) dX6_init_76 ?_
  refine J_eqr (y := (n + 144)) ((congrFun (jup_ne _ _ (by omega)) 5).trans ((congrFun (X3_init_iR_old _ _ _ _ (by omega) (by omega)) 5).trans ((jup_ot _ _ _ (by decide)).trans ((jup_ot _ _ _ (by decide)).trans (jup_at _ _ _ _))))) ?_
  refine J_alen (pc := 79) hX (v := (8 : Int32)) ((X3_init_iS_old _ _ _ (by omega)).trans ((jrow_ne _ _ (by omega)).trans ((jrow_ne _ _ (by omega)).trans ((jrow_ne _ _ (by omega)).trans (jrow_self _ _ _))))) (by decide) dX6_init_79 ?_
  refine J_icmp_ge_f (pc := 80) hX (tgt := 102) (by decide) (by decide) dX6_init_80 ?_
  refine J_aload_n (pc := 83) hX 1 rfl dX6_init_83 ?_
  refine g_X6_31 (pc := 84) hX ((X3_init_iS_old _ _ _ (by omega)).trans ((jrow_ne _ _ (by omega)).trans ((jrow_ne _ _ (by omega)).trans ((jrow_ne _ _ (by omega)).trans ((jrow_ne _ _ (by omega)).trans ((X5_init_iS_old _ _ _ (by omega)).trans ((jrow_ne _ _ (by omega)).trans ((X4_init_iS_old _ _ _ (by omega)).trans ((jrow_ne _ _ (by omega)).trans ((X4_init_iS_old _ _ _ (by omega)).trans ((jrow_ne _ _ (by omega)).trans ((X4_init_iS_old _ _ _ (by omega)).trans ((jrow_ne _ _ (by omega)).trans hs))))))))))))) dX6_init_84 ?_
  refine J_eqr (y := (n + 144)) ((congrFun (jup_ne _ _ (by omega)) 5).trans ((congrFun (X3_init_iR_old _ _ _ _ (by omega) (by omega)) 5).trans ((jup_ot _ _ _ (by decide)).trans ((jup_ot _ _ _ (by decide)).trans (jup_at _ _ _ _))))) ?_
  refine J_iload_n (pc := 87) hX 0 rfl dX6_init_87 ?_
  refine J_new (pc := 88) (n := n + 148) hX hz (ci := 3) (T := TX3) (N := 4) (ty0 := tyX3) rfl inX3 tyX3_ok (by decide) n_X6_29 (by decide +kernel) ((jup_ne _ _ (by omega)).trans ((X3_init_iR_new _ _ _ (by omega) _ (by omega)).trans ((jup_ne _ _ (by omega)).trans ((jup_ne _ _ (by omega)).trans ((jup_ne _ _ (by omega)).trans ((jup_ne _ _ (by omega)).trans ((X5_init_iR_new _ _ _ (by omega) _ (by omega)).trans ((jup_ne _ _ (by omega)).trans ((X4_init_iR_new _ _ _ (by omega) _ (by omega)).trans ((jup_ne _ _ (by omega)).trans ((X4_init_iR_new _ _ _ (by omega) _ (by omega)).trans ((jup_ne _ _ (by omega)).trans ((X4_init_iR_new _ _ _ (by omega) _ (by omega)).trans (hzr (n + 149) (by omega)).1))))))))))))) ((X3_init_iI_new _ _ _ (by omega) _ (by omega)).trans ((X5_init_iI_new _ _ _ (by omega) _ (by omega)).trans ((X4_init_iI_new _ _ _ (by omega) _ (by omega)).trans ((X4_init_iI_new _ _ _ (by omega) _ (by omega)).trans ((X4_init_iI_new _ _ _ (by omega) _ (by omega)).trans (hzr (n + 149) (by omega)).2.1))))) ⟨by decide, by decide⟩ dX6_init_88 ?_
  refine J_dup (pc := 91) hX rfl dX6_init_91 ?_
  refine jrun_c (pc := 92) (mc := 1) (ms := 40) (n' := n + 150) (jRunIN hX s_X6_42 (As := []) (rest := [jr (n + 149), ji (1 : Int32), jr (n + 144)]) (K_X3_init Y hz (n + 149) (n + 149) (jrow (X3_init_iS (n + 147) (n + 147) (jrow (jrow (jrow (jrow (X5_init_iS (n + 139) (n + 139) (jrow (X4_init_iS (n + 93) (n + 93) (jrow (X4_init_iS (n + 47) (n + 47) (jrow (X4_init_iS (n + 1) (n + 1) (jrow sh (n + 1) 5)) (n + 47) 5)) (n + 93) 5)) (n + 139) 6)) (n + 144) 5008) (n + 145) 1005) (n + 146) 1040) (n + 147) 4)) (n + 149) 4) (jup (X3_init_iR (n + 147) (n + 147) (jup (jup (jup (jup (X5_init_iR (n + 139) (n + 139) (jup (X4_init_iR (n + 93) (n + 93) (jup (X4_init_iR (n + 47) (n + 47) (jup (X4_init_iR (n + 1) (n + 1) rf) t 0 (n + 1))) t 1 (n + 47))) t 2 (n + 93))) t 4 (n + 139)) t 5 (n + 144)) t 6 (n + 145)) t 7 (n + 146))) (n + 144) 0 (n + 147)) (X3_init_iI (n + 147) (n + 147) (X5_init_iI (n + 139) (n + 139) (X4_init_iI (n + 93) (n + 93) (X4_init_iI (n + 47) (n + 47) (X4_init_iI (n + 1) (n + 1) I))))) L (jrow_self _ _ _) (by omega) (fun a ha => ⟨((jup_ne _ _ (by omega)).trans ((X3_init_iR_new _ _ _ (by omega) _ (by omega)).trans ((jup_ne _ _ (by omega)).trans ((jup_ne _ _ (by omega)).trans ((jup_ne _ _ (by omega)).trans ((jup_ne _ _ (by omega)).trans ((X5_init_iR_new _ _ _ (by omega) _ (by omega)).trans ((jup_ne _ _ (by omega)).trans ((X4_init_iR_new _ _ _ (by omega) _ (by omega)).trans ((jup_ne _ _ (by omega)).trans ((X4_init_iR_new _ _ _ (by omega) _ (by omega)).trans ((jup_ne _ _ (by omega)).trans ((X4_init_iR_new _ _ _ (by omega) _ (by omega)).trans (hzr a (by omega)).1))))))))))))), ((X3_init_iI_new _ _ _ (by omega) _ (by omega)).trans ((X5_init_iI_new _ _ _ (by omega) _ (by omega)).trans ((X4_init_iI_new _ _ _ (by omega) _ (by omega)).trans ((X4_init_iI_new _ _ _ (by omega) _ (by omega)).trans ((X4_init_iI_new _ _ _ (by omega) _ (by omega)).trans (hzr a (by omega)).2.1))))), (hzr a (by omega)).2.2⟩)) (by rw [(jrow_self _ _ _)]; decide) rfl rfl ⟨by decide, by decide⟩ ⟨by decide, by decide⟩ (Nat.le_of_ble_eq_true rfl) dX6_init_92) ?_
  refine J_aastC (pc := 95) hX (N := 8) (t := 1) (ci := 3) (j := 1) ((X3_init_iS_old _ _ _ (by omega)).trans ((jrow_ne _ _ (by omega)).trans ((X3_init_iS_old _ _ _ (by omega)).trans ((jrow_ne _ _ (by omega)).trans ((jrow_ne _ _ (by omega)).trans ((jrow_ne _ _ (by omega)).trans (jrow_self _ _ _))))))) (by decide) ((X3_init_iS_old _ _ _ (by omega)).trans (jrow_self _ _ _)) (by decide) rfl rfl (by decide) (by decide) dX6_init_95 ?_
  refine J_iinc (pc := 96) hX (v := (2 : Int32)) (lo' := [(1, ji (2 : Int32)), (0, jr t)]) 0 rfl (by decide) (by decide) rfl dX6_init_96 ?_
  refine J_goto (pc := 99) hX (tgt := 74) (by decide) dX6_init_99 ?_
  refine J_iload_n (pc := 74) hX 0 rfl dX6_init_74 ?_
  refine J_aload_n (pc := 75) hX 1 rfl dX6_init_75 ?_
  refine g_X6_31 (pc := 76) hX ((X3_init_iS_old _ _ _ (by omega)).trans ((jrow_ne _ _ (by omega)).trans ((X3_init_iS_old _ _ _ (by omega)).trans ((jrow_ne _ _ (by omega)).trans ((jrow_ne _ _ (by omega)).trans ((jrow_ne _ _ (by omega)).trans ((jrow_ne _ _ (by omega)).trans ((X5_init_iS_old _ _ _ (by omega)).trans ((jrow_ne _ _ (by omega)).trans ((X4_init_iS_old _ _ _ (by omega)).trans ((jrow_ne _ _ (by omega)).trans ((X4_init_iS_old _ _ _ (by omega)).trans ((jrow_ne _ _ (by omega)).trans ((X4_init_iS_old _ _ _ (by omega)).trans ((jrow_ne _ _ (by omega)).trans hs))))))))))))))) dX6_init_76 ?_
  refine J_eqr (y := (n + 144)) ((congrFun (jup_ne _ _ (by omega)) 5).trans ((congrFun (X3_init_iR_old _ _ _ _ (by omega) (by omega)) 5).trans ((congrFun (jup_ne _ _ (by omega)) 5).trans ((congrFun (X3_init_iR_old _ _ _ _ (by omega) (by omega)) 5).trans ((jup_ot _ _ _ (by decide)).trans ((jup_ot _ _ _ (by decide)).trans (jup_at _ _ _ _))))))) ?_
  refine J_alen (pc := 79) hX (v := (8 : Int32)) ((X3_init_iS_old _ _ _ (by omega)).trans ((jrow_ne _ _ (by omega)).trans ((X3_init_iS_old _ _ _ (by omega)).trans ((jrow_ne _ _ (by omega)).trans ((jrow_ne _ _ (by omega)).trans ((jrow_ne _ _ (by omega)).trans (jrow_self _ _ _))))))) (by decide) dX6_init_79 ?_
  refine J_icmp_ge_f (pc := 80) hX (tgt := 102) (by decide) (by decide) dX6_init_80 ?_
  refine J_aload_n (pc := 83) hX 1 rfl dX6_init_83 ?_
  refine g_X6_31 (pc := 84) hX ((X3_init_iS_old _ _ _ (by omega)).trans ((jrow_ne _ _ (by omega)).trans ((X3_init_iS_old _ _ _ (by omega)).trans ((jrow_ne _ _ (by omega)).trans ((jrow_ne _ _ (by omega)).trans ((jrow_ne _ _ (by omega)).trans ((jrow_ne _ _ (by omega)).trans ((X5_init_iS_old _ _ _ (by omega)).trans ((jrow_ne _ _ (by omega)).trans ((X4_init_iS_old _ _ _ (by omega)).trans ((jrow_ne _ _ (by omega)).trans ((X4_init_iS_old _ _ _ (by omega)).trans ((jrow_ne _ _ (by omega)).trans ((X4_init_iS_old _ _ _ (by omega)).trans ((jrow_ne _ _ (by omega)).trans hs))))))))))))))) dX6_init_84 ?_
  refine J_eqr (y := (n + 144)) ((congrFun (jup_ne _ _ (by omega)) 5).trans ((congrFun (X3_init_iR_old _ _ _ _ (by omega) (by omega)) 5).trans ((congrFun (jup_ne _ _ (by omega)) 5).trans ((congrFun (X3_init_iR_old _ _ _ _ (by omega) (by omega)) 5).trans ((jup_ot _ _ _ (by decide)).trans ((jup_ot _ _ _ (by decide)).trans (jup_at _ _ _ _))))))) ?_
  refine J_iload_n (pc := 87) hX 0 rfl dX6_init_87 ?_
  refine J_new (pc := 88) (n := n + 150) hX hz (ci := 3) (T := TX3) (N := 4) (ty0 := tyX3) rfl inX3 tyX3_ok (by decide) n_X6_29 (by decide +kernel) ((jup_ne _ _ (by omega)).trans ((X3_init_iR_new _ _ _ (by omega) _ (by omega)).trans ((jup_ne _ _ (by omega)).trans ((X3_init_iR_new _ _ _ (by omega) _ (by omega)).trans ((jup_ne _ _ (by omega)).trans ((jup_ne _ _ (by omega)).trans ((jup_ne _ _ (by omega)).trans ((jup_ne _ _ (by omega)).trans ((X5_init_iR_new _ _ _ (by omega) _ (by omega)).trans ((jup_ne _ _ (by omega)).trans ((X4_init_iR_new _ _ _ (by omega) _ (by omega)).trans ((jup_ne _ _ (by omega)).trans ((X4_init_iR_new _ _ _ (by omega) _ (by omega)).trans ((jup_ne _ _ (by omega)).trans ((X4_init_iR_new _ _ _ (by omega) _ (by omega)).trans (hzr (n + 151) (by omega)).1))))))))))))))) ((X3_init_iI_new _ _ _ (by omega) _ (by omega)).trans ((X3_init_iI_new _ _ _ (by omega) _ (by omega)).trans ((X5_init_iI_new _ _ _ (by omega) _ (by omega)).trans ((X4_init_iI_new _ _ _ (by omega) _ (by omega)).trans ((X4_init_iI_new _ _ _ (by omega) _ (by omega)).trans ((X4_init_iI_new _ _ _ (by omega) _ (by omega)).trans (hzr (n + 151) (by omega)).2.1)))))) ⟨by decide, by decide⟩ dX6_init_88 ?_
  refine J_dup (pc := 91) hX rfl dX6_init_91 ?_
  refine jrun_c (pc := 92) (mc := 1) (ms := 40) (n' := n + 152) (jRunIN hX s_X6_42 (As := []) (rest := [jr (n + 151), ji (2 : Int32), jr (n + 144)]) (K_X3_init Y hz (n + 151) (n + 151) (jrow (X3_init_iS (n + 149) (n + 149) (jrow (X3_init_iS (n + 147) (n + 147) (jrow (jrow (jrow (jrow (X5_init_iS (n + 139) (n + 139) (jrow (X4_init_iS (n + 93) (n + 93) (jrow (X4_init_iS (n + 47) (n + 47) (jrow (X4_init_iS (n + 1) (n + 1) (jrow sh (n + 1) 5)) (n + 47) 5)) (n + 93) 5)) (n + 139) 6)) (n + 144) 5008) (n + 145) 1005) (n + 146) 1040) (n + 147) 4)) (n + 149) 4)) (n + 151) 4) (jup (X3_init_iR (n + 149) (n + 149) (jup (X3_init_iR (n + 147) (n + 147) (jup (jup (jup (jup (X5_init_iR (n + 139) (n + 139) (jup (X4_init_iR (n + 93) (n + 93) (jup (X4_init_iR (n + 47) (n + 47) (jup (X4_init_iR (n + 1) (n + 1) rf) t 0 (n + 1))) t 1 (n + 47))) t 2 (n + 93))) t 4 (n + 139)) t 5 (n + 144)) t 6 (n + 145)) t 7 (n + 146))) (n + 144) 0 (n + 147))) (n + 144) 1 (n + 149)) (X3_init_iI (n + 149) (n + 149) (X3_init_iI (n + 147) (n + 147) (X5_init_iI (n + 139) (n + 139) (X4_init_iI (n + 93) (n + 93) (X4_init_iI (n + 47) (n + 47) (X4_init_iI (n + 1) (n + 1) I)))))) L (jrow_self _ _ _) (by omega) (fun a ha => ⟨((jup_ne _ _ (by omega)).trans ((X3_init_iR_new _ _ _ (by omega) _ (by omega)).trans ((jup_ne _ _ (by omega)).trans ((X3_init_iR_new _ _ _ (by omega) _ (by omega)).trans ((jup_ne _ _ (by omega)).trans ((jup_ne _ _ (by omega)).trans ((jup_ne _ _ (by omega)).trans ((jup_ne _ _ (by omega)).trans ((X5_init_iR_new _ _ _ (by omega) _ (by omega)).trans ((jup_ne _ _ (by omega)).trans ((X4_init_iR_new _ _ _ (by omega) _ (by omega)).trans ((jup_ne _ _ (by omega)).trans ((X4_init_iR_new _ _ _ (by omega) _ (by omega)).trans ((jup_ne _ _ (by omega)).trans ((X4_init_iR_new _ _ _ (by omega) _ (by omega)).trans (hzr a (by omega)).1))))))))))))))), ((X3_init_iI_new _ _ _ (by omega) _ (by omega)).trans ((X3_init_iI_new _ _ _ (by omega) _ (by omega)).trans ((X5_init_iI_new _ _ _ (by omega) _ (by omega)).trans ((X4_init_iI_new _ _ _ (by omega) _ (by omega)).trans ((X4_init_iI_new _ _ _ (by omega) _ (by omega)).trans ((X4_init_iI_new _ _ _ (by omega) _ (by omega)).trans (hzr a (by omega)).2.1)))))), (hzr a (by omega)).2.2⟩)) (by rw [(jrow_self _ _ _)]; decide) rfl rfl ⟨by decide, by decide⟩ ⟨by decide, by decide⟩ (Nat.le_of_ble_eq_true rfl) dX6_init_92) ?_
  refine J_aastC (pc := 95) hX (N := 8) (t := 1) (ci := 3) (j := 2) ((X3_init_iS_old _ _ _ (by omega)).trans ((jrow_ne _ _ (by omega)).trans ((X3_init_iS_old _ _ _ (by omega)).trans ((jrow_ne _ _ (by omega)).trans ((X3_init_iS_old _ _ _ (by omega)).trans ((jrow_ne _ _ (by omega)).trans ((jrow_ne _ _ (by omega)).trans ((jrow_ne _ _ (by omega)).trans (jrow_self _ _ _))))))))) (by decide) ((X3_init_iS_old _ _ _ (by omega)).trans (jrow_self _ _ _)) (by decide) rfl rfl (by decide) (by decide) dX6_init_95 ?_
  refine J_iinc (pc := 96) hX (v := (3 : Int32)) (lo' := [(1, ji (3 : Int32)), (0, jr t)]) 0 rfl (by decide) (by decide) rfl dX6_init_96 ?_
  refine J_goto (pc := 99) hX (tgt := 74) (by decide) dX6_init_99 ?_
  refine J_iload_n (pc := 74) hX 0 rfl dX6_init_74 ?_
  refine J_aload_n (pc := 75) hX 1 rfl dX6_init_75 ?_
  refine g_X6_31 (pc := 76) hX ((X3_init_iS_old _ _ _ (by omega)).trans ((jrow_ne _ _ (by omega)).trans ((X3_init_iS_old _ _ _ (by omega)).trans ((jrow_ne _ _ (by omega)).trans ((X3_init_iS_old _ _ _ (by omega)).trans ((jrow_ne _ _ (by omega)).trans ((jrow_ne _ _ (by omega)).trans ((jrow_ne _ _ (by omega)).trans ((jrow_ne _ _ (by omega)).trans ((X5_init_iS_old _ _ _ (by omega)).trans ((jrow_ne _ _ (by omega)).trans ((X4_init_iS_old _ _ _ (by omega)).trans ((jrow_ne _ _ (by omega)).trans ((X4_init_iS_old _ _ _ (by omega)).trans ((jrow_ne _ _ (by omega)).trans ((X4_init_iS_old _ _ _ (by omega)).trans ((jrow_ne _ _ (by omega)).trans hs))))))))))))))))) dX6_init_76 ?_
  refine J_eqr (y := (n + 144)) ((congrFun (jup_ne _ _ (by omega)) 5).trans ((congrFun (X3_init_iR_old _ _ _ _ (by omega) (by omega)) 5).trans ((congrFun (jup_ne _ _ (by omega)) 5).trans ((congrFun (X3_init_iR_old _ _ _ _ (by omega) (by omega)) 5).trans ((congrFun (jup_ne _ _ (by omega)) 5).trans ((congrFun (X3_init_iR_old _ _ _ _ (by omega) (by omega)) 5).trans ((jup_ot _ _ _ (by decide)).trans ((jup_ot _ _ _ (by decide)).trans (jup_at _ _ _ _))))))))) ?_
  refine J_alen (pc := 79) hX (v := (8 : Int32)) ((X3_init_iS_old _ _ _ (by omega)).trans ((jrow_ne _ _ (by omega)).trans ((X3_init_iS_old _ _ _ (by omega)).trans ((jrow_ne _ _ (by omega)).trans ((X3_init_iS_old _ _ _ (by omega)).trans ((jrow_ne _ _ (by omega)).trans ((jrow_ne _ _ (by omega)).trans ((jrow_ne _ _ (by omega)).trans (jrow_self _ _ _))))))))) (by decide) dX6_init_79 ?_
  refine J_icmp_ge_f (pc := 80) hX (tgt := 102) (by decide) (by decide) dX6_init_80 ?_
  refine J_aload_n (pc := 83) hX 1 rfl dX6_init_83 ?_
  refine g_X6_31 (pc := 84) hX ((X3_init_iS_old _ _ _ (by omega)).trans ((jrow_ne _ _ (by omega)).trans ((X3_init_iS_old _ _ _ (by omega)).trans ((jrow_ne _ _ (by omega)).trans ((X3_init_iS_old _ _ _ (by omega)).trans ((jrow_ne _ _ (by omega)).trans ((jrow_ne _ _ (by omega)).trans ((jrow_ne _ _ (by omega)).trans ((jrow_ne _ _ (by omega)).trans ((X5_init_iS_old _ _ _ (by omega)).trans ((jrow_ne _ _ (by omega)).trans ((X4_init_iS_old _ _ _ (by omega)).trans ((jrow_ne _ _ (by omega)).trans ((X4_init_iS_old _ _ _ (by omega)).trans ((jrow_ne _ _ (by omega)).trans ((X4_init_iS_old _ _ _ (by omega)).trans ((jrow_ne _ _ (by omega)).trans hs))))))))))))))))) dX6_init_84 ?_
  refine J_eqr (y := (n + 144)) ((congrFun (jup_ne _ _ (by omega)) 5).trans ((congrFun (X3_init_iR_old _ _ _ _ (by omega) (by omega)) 5).trans ((congrFun (jup_ne _ _ (by omega)) 5).trans ((congrFun (X3_init_iR_old _ _ _ _ (by omega) (by omega)) 5).trans ((congrFun (jup_ne _ _ (by omega)) 5).trans ((congrFun (X3_init_iR_old _ _ _ _ (by omega) (by omega)) 5).trans ((jup_ot _ _ _ (by decide)).trans ((jup_ot _ _ _ (by decide)).trans (jup_at _ _ _ _))))))))) ?_
  refine J_iload_n (pc := 87) hX 0 rfl dX6_init_87 ?_
  refine J_new (pc := 88) (n := n + 152) hX hz (ci := 3) (T := TX3) (N := 4) (ty0 := tyX3) rfl inX3 tyX3_ok (by decide) n_X6_29 (by decide +kernel) ((jup_ne _ _ (by omega)).trans ((X3_init_iR_new _ _ _ (by omega) _ (by omega)).trans ((jup_ne _ _ (by omega)).trans ((X3_init_iR_new _ _ _ (by omega) _ (by omega)).trans ((jup_ne _ _ (by omega)).trans ((X3_init_iR_new _ _ _ (by omega) _ (by omega)).trans ((jup_ne _ _ (by omega)).trans ((jup_ne _ _ (by omega)).trans ((jup_ne _ _ (by omega)).trans ((jup_ne _ _ (by omega)).trans ((X5_init_iR_new _ _ _ (by omega) _ (by omega)).trans ((jup_ne _ _ (by omega)).trans ((X4_init_iR_new _ _ _ (by omega) _ (by omega)).trans ((jup_ne _ _ (by omega)).trans ((X4_init_iR_new _ _ _ (by omega) _ (by omega)).trans ((jup_ne _ _ (by omega)).trans ((X4_init_iR_new _ _ _ (by omega) _ (by omega)).trans (hzr (n + 153) (by omega)).1))))))))))))))))) ((X3_init_iI_new _ _ _ (by omega) _ (by omega)).trans ((X3_init_iI_new _ _ _ (by omega) _ (by omega)).trans ((X3_init_iI_new _ _ _ (by omega) _ (by omega)).trans ((X5_init_iI_new _ _ _ (by omega) _ (by omega)).trans ((X4_init_iI_new _ _ _ (by omega) _ (by omega)).trans ((X4_init_iI_new _ _ _ (by omega) _ (by omega)).trans ((X4_init_iI_new _ _ _ (by omega) _ (by omega)).trans (hzr (n + 153) (by omega)).2.1))))))) ⟨by decide, by decide⟩ dX6_init_88 ?_
  refine J_dup (pc := 91) hX rfl dX6_init_91 ?_
  refine jrun_c (pc := 92) (mc := 1) (ms := 40) (n' := n + 154) (jRunIN hX s_X6_42 (As := []) (rest := [jr (n + 153), ji (3 : Int32), jr (n + 144)]) (K_X3_init Y hz (n + 153) (n + 153) (jrow (X3_init_iS (n + 151) (n + 151) (jrow (X3_init_iS (n + 149) (n + 149) (jrow (X3_init_iS (n + 147) (n + 147) (jrow (jrow (jrow (jrow (X5_init_iS (n + 139) (n + 139) (jrow (X4_init_iS (n + 93) (n + 93) (jrow (X4_init_iS (n + 47) (n + 47) (jrow (X4_init_iS (n + 1) (n + 1) (jrow sh (n + 1) 5)) (n + 47) 5)) (n + 93) 5)) (n + 139) 6)) (n + 144) 5008) (n + 145) 1005) (n + 146) 1040) (n + 147) 4)) (n + 149) 4)) (n + 151) 4)) (n + 153) 4) (jup (X3_init_iR (n + 151) (n + 151) (jup (X3_init_iR (n + 149) (n + 149) (jup (X3_init_iR (n + 147) (n + 147) (jup (jup (jup (jup (X5_init_iR (n + 139) (n + 139) (jup (X4_init_iR (n + 93) (n + 93) (jup (X4_init_iR (n + 47) (n + 47) (jup (X4_init_iR (n + 1) (n + 1) rf) t 0 (n + 1))) t 1 (n + 47))) t 2 (n + 93))) t 4 (n + 139)) t 5 (n + 144)) t 6 (n + 145)) t 7 (n + 146))) (n + 144) 0 (n + 147))) (n + 144) 1 (n + 149))) (n + 144) 2 (n + 151)) (X3_init_iI (n + 151) (n + 151) (X3_init_iI (n + 149) (n + 149) (X3_init_iI (n + 147) (n + 147) (X5_init_iI (n + 139) (n + 139) (X4_init_iI (n + 93) (n + 93) (X4_init_iI (n + 47) (n + 47) (X4_init_iI (n + 1) (n + 1) I))))))) L (jrow_self _ _ _) (by omega) (fun a ha => ⟨((jup_ne _ _ (by omega)).trans ((X3_init_iR_new _ _ _ (by omega) _ (by omega)).trans ((jup_ne _ _ (by omega)).trans ((X3_init_iR_new _ _ _ (by omega) _ (by omega)).trans ((jup_ne _ _ (by omega)).trans ((X3_init_iR_new _ _ _ (by omega) _ (by omega)).trans ((jup_ne _ _ (by omega)).trans ((jup_ne _ _ (by omega)).trans ((jup_ne _ _ (by omega)).trans ((jup_ne _ _ (by omega)).trans ((X5_init_iR_new _ _ _ (by omega) _ (by omega)).trans ((jup_ne _ _ (by omega)).trans ((X4_init_iR_new _ _ _ (by omega) _ (by omega)).trans ((jup_ne _ _ (by omega)).trans ((X4_init_iR_new _ _ _ (by omega) _ (by omega)).trans ((jup_ne _ _ (by omega)).trans ((X4_init_iR_new _ _ _ (by omega) _ (by omega)).trans (hzr a (by omega)).1))))))))))))))))), ((X3_init_iI_new _ _ _ (by omega) _ (by omega)).trans ((X3_init_iI_new _ _ _ (by omega) _ (by omega)).trans ((X3_init_iI_new _ _ _ (by omega) _ (by omega)).trans ((X5_init_iI_new _ _ _ (by omega) _ (by omega)).trans ((X4_init_iI_new _ _ _ (by omega) _ (by omega)).trans ((X4_init_iI_new _ _ _ (by omega) _ (by omega)).trans ((X4_init_iI_new _ _ _ (by omega) _ (by omega)).trans (hzr a (by omega)).2.1))))))), (hzr a (by omega)).2.2⟩)) (by rw [(jrow_self _ _ _)]; decide) rfl rfl ⟨by decide, by decide⟩ ⟨by decide, by decide⟩ (Nat.le_of_ble_eq_true rfl) dX6_init_92) ?_
  refine J_aastC (pc := 95) hX (N := 8) (t := 1) (ci := 3) (j := 3) ((X3_init_iS_old _ _ _ (by omega)).trans ((jrow_ne _ _ (by omega)).trans ((X3_init_iS_old _ _ _ (by omega)).trans ((jrow_ne _ _ (by omega)).trans ((X3_init_iS_old _ _ _ (by omega)).trans ((jrow_ne _ _ (by omega)).trans ((X3_init_iS_old _ _ _ (by omega)).trans ((jrow_ne _ _ (by omega)).trans ((jrow_ne _ _ (by omega)).trans ((jrow_ne _ _ (by omega)).trans (jrow_self _ _ _))))))))))) (by decide) ((X3_init_iS_old _ _ _ (by omega)).trans (jrow_self _ _ _)) (by decide) rfl rfl (by decide) (by decide) dX6_init_95 ?_
  refine J_iinc (pc := 96) hX (v := (4 : Int32)) (lo' := [(1, ji (4 : Int32)), (0, jr t)]) 0 rfl (by decide) (by decide) rfl dX6_init_96 ?_
  refine J_goto (pc := 99) hX (tgt := 74) (by decide) dX6_init_99 ?_
  refine J_iload_n (pc := 74) hX 0 rfl dX6_init_74 ?_
  refine J_aload_n (pc := 75) hX 1 rfl dX6_init_75 ?_
  refine g_X6_31 (pc := 76) hX ((X3_init_iS_old _ _ _ (by omega)).trans ((jrow_ne _ _ (by omega)).trans ((X3_init_iS_old _ _ _ (by omega)).trans ((jrow_ne _ _ (by omega)).trans ((X3_init_iS_old _ _ _ (by omega)).trans ((jrow_ne _ _ (by omega)).trans ((X3_init_iS_old _ _ _ (by omega)).trans ((jrow_ne _ _ (by omega)).trans ((jrow_ne _ _ (by omega)).trans ((jrow_ne _ _ (by omega)).trans ((jrow_ne _ _ (by omega)).trans ((X5_init_iS_old _ _ _ (by omega)).trans ((jrow_ne _ _ (by omega)).trans ((X4_init_iS_old _ _ _ (by omega)).trans ((jrow_ne _ _ (by omega)).trans ((X4_init_iS_old _ _ _ (by omega)).trans ((jrow_ne _ _ (by omega)).trans ((X4_init_iS_old _ _ _ (by omega)).trans ((jrow_ne _ _ (by omega)).trans hs))))))))))))))))))) dX6_init_76 ?_
  refine J_eqr (y := (n + 144)) ((congrFun (jup_ne _ _ (by omega)) 5).trans ((congrFun (X3_init_iR_old _ _ _ _ (by omega) (by omega)) 5).trans ((congrFun (jup_ne _ _ (by omega)) 5).trans ((congrFun (X3_init_iR_old _ _ _ _ (by omega) (by omega)) 5).trans ((congrFun (jup_ne _ _ (by omega)) 5).trans ((congrFun (X3_init_iR_old _ _ _ _ (by omega) (by omega)) 5).trans ((congrFun (jup_ne _ _ (by omega)) 5).trans ((congrFun (X3_init_iR_old _ _ _ _ (by omega) (by omega)) 5).trans ((jup_ot _ _ _ (by decide)).trans ((jup_ot _ _ _ (by decide)).trans (jup_at _ _ _ _))))))))))) ?_
  refine J_alen (pc := 79) hX (v := (8 : Int32)) ((X3_init_iS_old _ _ _ (by omega)).trans ((jrow_ne _ _ (by omega)).trans ((X3_init_iS_old _ _ _ (by omega)).trans ((jrow_ne _ _ (by omega)).trans ((X3_init_iS_old _ _ _ (by omega)).trans ((jrow_ne _ _ (by omega)).trans ((X3_init_iS_old _ _ _ (by omega)).trans ((jrow_ne _ _ (by omega)).trans ((jrow_ne _ _ (by omega)).trans ((jrow_ne _ _ (by omega)).trans (jrow_self _ _ _))))))))))) (by decide) dX6_init_79 ?_
  refine J_icmp_ge_f (pc := 80) hX (tgt := 102) (by decide) (by decide) dX6_init_80 ?_
  refine J_aload_n (pc := 83) hX 1 rfl dX6_init_83 ?_
  refine g_X6_31 (pc := 84) hX ((X3_init_iS_old _ _ _ (by omega)).trans ((jrow_ne _ _ (by omega)).trans ((X3_init_iS_old _ _ _ (by omega)).trans ((jrow_ne _ _ (by omega)).trans ((X3_init_iS_old _ _ _ (by omega)).trans ((jrow_ne _ _ (by omega)).trans ((X3_init_iS_old _ _ _ (by omega)).trans ((jrow_ne _ _ (by omega)).trans ((jrow_ne _ _ (by omega)).trans ((jrow_ne _ _ (by omega)).trans ((jrow_ne _ _ (by omega)).trans ((X5_init_iS_old _ _ _ (by omega)).trans ((jrow_ne _ _ (by omega)).trans ((X4_init_iS_old _ _ _ (by omega)).trans ((jrow_ne _ _ (by omega)).trans ((X4_init_iS_old _ _ _ (by omega)).trans ((jrow_ne _ _ (by omega)).trans ((X4_init_iS_old _ _ _ (by omega)).trans ((jrow_ne _ _ (by omega)).trans hs))))))))))))))))))) dX6_init_84 ?_
  refine J_eqr (y := (n + 144)) ((congrFun (jup_ne _ _ (by omega)) 5).trans ((congrFun (X3_init_iR_old _ _ _ _ (by omega) (by omega)) 5).trans ((congrFun (jup_ne _ _ (by omega)) 5).trans ((congrFun (X3_init_iR_old _ _ _ _ (by omega) (by omega)) 5).trans ((congrFun (jup_ne _ _ (by omega)) 5).trans ((congrFun (X3_init_iR_old _ _ _ _ (by omega) (by omega)) 5).trans ((congrFun (jup_ne _ _ (by omega)) 5).trans ((congrFun (X3_init_iR_old _ _ _ _ (by omega) (by omega)) 5).trans ((jup_ot _ _ _ (by decide)).trans ((jup_ot _ _ _ (by decide)).trans (jup_at _ _ _ _))))))))))) ?_
  refine J_iload_n (pc := 87) hX 0 rfl dX6_init_87 ?_
  refine J_new (pc := 88) (n := n + 154) hX hz (ci := 3) (T := TX3) (N := 4) (ty0 := tyX3) rfl inX3 tyX3_ok (by decide) n_X6_29 (by decide +kernel) ((jup_ne _ _ (by omega)).trans ((X3_init_iR_new _ _ _ (by omega) _ (by omega)).trans ((jup_ne _ _ (by omega)).trans ((X3_init_iR_new _ _ _ (by omega) _ (by omega)).trans ((jup_ne _ _ (by omega)).trans ((X3_init_iR_new _ _ _ (by omega) _ (by omega)).trans ((jup_ne _ _ (by omega)).trans ((X3_init_iR_new _ _ _ (by omega) _ (by omega)).trans ((jup_ne _ _ (by omega)).trans ((jup_ne _ _ (by omega)).trans ((jup_ne _ _ (by omega)).trans ((jup_ne _ _ (by omega)).trans ((X5_init_iR_new _ _ _ (by omega) _ (by omega)).trans ((jup_ne _ _ (by omega)).trans ((X4_init_iR_new _ _ _ (by omega) _ (by omega)).trans ((jup_ne _ _ (by omega)).trans ((X4_init_iR_new _ _ _ (by omega) _ (by omega)).trans ((jup_ne _ _ (by omega)).trans ((X4_init_iR_new _ _ _ (by omega) _ (by omega)).trans (hzr (n + 155) (by omega)).1))))))))))))))))))) ((X3_init_iI_new _ _ _ (by omega) _ (by omega)).trans ((X3_init_iI_new _ _ _ (by omega) _ (by omega)).trans ((X3_init_iI_new _ _ _ (by omega) _ (by omega)).trans ((X3_init_iI_new _ _ _ (by omega) _ (by omega)).trans ((X5_init_iI_new _ _ _ (by omega) _ (by omega)).trans ((X4_init_iI_new _ _ _ (by omega) _ (by omega)).trans ((X4_init_iI_new _ _ _ (by omega) _ (by omega)).trans ((X4_init_iI_new _ _ _ (by omega) _ (by omega)).trans (hzr (n + 155) (by omega)).2.1)))))))) ⟨by decide, by decide⟩ dX6_init_88 ?_
  refine J_dup (pc := 91) hX rfl dX6_init_91 ?_
  refine jrun_c (pc := 92) (mc := 1) (ms := 40) (n' := n + 156) (jRunIN hX s_X6_42 (As := []) (rest := [jr (n + 155), ji (4 : Int32), jr (n + 144)]) (K_X3_init Y hz (n + 155) (n + 155) (jrow (X3_init_iS (n + 153) (n + 153) (jrow (X3_init_iS (n + 151) (n + 151) (jrow (X3_init_iS (n + 149) (n + 149) (jrow (X3_init_iS (n + 147) (n + 147) (jrow (jrow (jrow (jrow (X5_init_iS (n + 139) (n + 139) (jrow (X4_init_iS (n + 93) (n + 93) (jrow (X4_init_iS (n + 47) (n + 47) (jrow (X4_init_iS (n + 1) (n + 1) (jrow sh (n + 1) 5)) (n + 47) 5)) (n + 93) 5)) (n + 139) 6)) (n + 144) 5008) (n + 145) 1005) (n + 146) 1040) (n + 147) 4)) (n + 149) 4)) (n + 151) 4)) (n + 153) 4)) (n + 155) 4) (jup (X3_init_iR (n + 153) (n + 153) (jup (X3_init_iR (n + 151) (n + 151) (jup (X3_init_iR (n + 149) (n + 149) (jup (X3_init_iR (n + 147) (n + 147) (jup (jup (jup (jup (X5_init_iR (n + 139) (n + 139) (jup (X4_init_iR (n + 93) (n + 93) (jup (X4_init_iR (n + 47) (n + 47) (jup (X4_init_iR (n + 1) (n + 1) rf) t 0 (n + 1))) t 1 (n + 47))) t 2 (n + 93))) t 4 (n + 139)) t 5 (n + 144)) t 6 (n + 145)) t 7 (n + 146))) (n + 144) 0 (n + 147))) (n + 144) 1 (n + 149))) (n + 144) 2 (n + 151))) (n + 144) 3 (n + 153)) (X3_init_iI (n + 153) (n + 153) (X3_init_iI (n + 151) (n + 151) (X3_init_iI (n + 149) (n + 149) (X3_init_iI (n + 147) (n + 147) (X5_init_iI (n + 139) (n + 139) (X4_init_iI (n + 93) (n + 93) (X4_init_iI (n + 47) (n + 47) (X4_init_iI (n + 1) (n + 1) I)))))))) L (jrow_self _ _ _) (by omega) (fun a ha => ⟨((jup_ne _ _ (by omega)).trans ((X3_init_iR_new _ _ _ (by omega) _ (by omega)).trans ((jup_ne _ _ (by omega)).trans ((X3_init_iR_new _ _ _ (by omega) _ (by omega)).trans ((jup_ne _ _ (by omega)).trans ((X3_init_iR_new _ _ _ (by omega) _ (by omega)).trans ((jup_ne _ _ (by omega)).trans ((X3_init_iR_new _ _ _ (by omega) _ (by omega)).trans ((jup_ne _ _ (by omega)).trans ((jup_ne _ _ (by omega)).trans ((jup_ne _ _ (by omega)).trans ((jup_ne _ _ (by omega)).trans ((X5_init_iR_new _ _ _ (by omega) _ (by omega)).trans ((jup_ne _ _ (by omega)).trans ((X4_init_iR_new _ _ _ (by omega) _ (by omega)).trans ((jup_ne _ _ (by omega)).trans ((X4_init_iR_new _ _ _ (by omega) _ (by omega)).trans ((jup_ne _ _ (by omega)).trans ((X4_init_iR_new _ _ _ (by omega) _ (by omega)).trans (hzr a (by omega)).1))))))))))))))))))), ((X3_init_iI_new _ _ _ (by omega) _ (by omega)).trans ((X3_init_iI_new _ _ _ (by omega) _ (by omega)).trans ((X3_init_iI_new _ _ _ (by omega) _ (by omega)).trans ((X3_init_iI_new _ _ _ (by omega) _ (by omega)).trans ((X5_init_iI_new _ _ _ (by omega) _ (by omega)).trans ((X4_init_iI_new _ _ _ (by omega) _ (by omega)).trans ((X4_init_iI_new _ _ _ (by omega) _ (by omega)).trans ((X4_init_iI_new _ _ _ (by omega) _ (by omega)).trans (hzr a (by omega)).2.1)))))))), (hzr a (by omega)).2.2⟩)) (by rw [(jrow_self _ _ _)]; decide) rfl rfl ⟨by decide, by decide⟩ ⟨by decide, by decide⟩ (Nat.le_of_ble_eq_true rfl) dX6_init_92) ?_
  refine J_aastC (pc := 95) hX (N := 8) (t := 1) (ci := 3) (j := 4) ((X3_init_iS_old _ _ _ (by omega)).trans ((jrow_ne _ _ (by omega)).trans ((X3_init_iS_old _ _ _ (by omega)).trans ((jrow_ne _ _ (by omega)).trans ((X3_init_iS_old _ _ _ (by omega)).trans ((jrow_ne _ _ (by omega)).trans ((X3_init_iS_old _ _ _ (by omega)).trans ((jrow_ne _ _ (by omega)).trans ((X3_init_iS_old _ _ _ (by omega)).trans ((jrow_ne _ _ (by omega)).trans ((jrow_ne _ _ (by omega)).trans ((jrow_ne _ _ (by omega)).trans (jrow_self _ _ _))))))))))))) (by decide) ((X3_init_iS_old _ _ _ (by omega)).trans (jrow_self _ _ _)) (by decide) rfl rfl (by decide) (by decide) dX6_init_95 ?_
  refine J_iinc (pc := 96) hX (v := (5 : Int32)) (lo' := [(1, ji (5 : Int32)), (0, jr t)]) 0 rfl (by decide) (by decide) rfl dX6_init_96 ?_
  refine J_goto (pc := 99) hX (tgt := 74) (by decide) dX6_init_99 ?_
  refine J_iload_n (pc := 74) hX 0 rfl dX6_init_74 ?_
  refine J_aload_n (pc := 75) hX 1 rfl dX6_init_75 ?_
  refine g_X6_31 (pc := 76) hX ((X3_init_iS_old _ _ _ (by omega)).trans ((jrow_ne _ _ (by omega)).trans ((X3_init_iS_old _ _ _ (by omega)).trans ((jrow_ne _ _ (by omega)).trans ((X3_init_iS_old _ _ _ (by omega)).trans ((jrow_ne _ _ (by omega)).trans ((X3_init_iS_old _ _ _ (by omega)).trans ((jrow_ne _ _ (by omega)).trans ((X3_init_iS_old _ _ _ (by omega)).trans ((jrow_ne _ _ (by omega)).trans ((jrow_ne _ _ (by omega)).trans ((jrow_ne _ _ (by omega)).trans ((jrow_ne _ _ (by omega)).trans ((X5_init_iS_old _ _ _ (by omega)).trans ((jrow_ne _ _ (by omega)).trans ((X4_init_iS_old _ _ _ (by omega)).trans ((jrow_ne _ _ (by omega)).trans ((X4_init_iS_old _ _ _ (by omega)).trans ((jrow_ne _ _ (by omega)).trans ((X4_init_iS_old _ _ _ (by omega)).trans ((jrow_ne _ _ (by omega)).trans hs))))))))))))))))))))) dX6_init_76 ?_
  refine J_eqr (y := (n + 144)) ((congrFun (jup_ne _ _ (by omega)) 5).trans ((congrFun (X3_init_iR_old _ _ _ _ (by omega) (by omega)) 5).trans ((congrFun (jup_ne _ _ (by omega)) 5).trans ((congrFun (X3_init_iR_old _ _ _ _ (by omega) (by omega)) 5).trans ((congrFun (jup_ne _ _ (by omega)) 5).trans ((congrFun (X3_init_iR_old _ _ _ _ (by omega) (by omega)) 5).trans ((congrFun (jup_ne _ _ (by omega)) 5).trans ((congrFun (X3_init_iR_old _ _ _ _ (by omega) (by omega)) 5).trans ((congrFun (jup_ne _ _ (by omega)) 5).trans ((congrFun (X3_init_iR_old _ _ _ _ (by omega) (by omega)) 5).trans ((jup_ot _ _ _ (by decide)).trans ((jup_ot _ _ _ (by decide)).trans (jup_at _ _ _ _))))))))))))) ?_
  refine J_alen (pc := 79) hX (v := (8 : Int32)) ((X3_init_iS_old _ _ _ (by omega)).trans ((jrow_ne _ _ (by omega)).trans ((X3_init_iS_old _ _ _ (by omega)).trans ((jrow_ne _ _ (by omega)).trans ((X3_init_iS_old _ _ _ (by omega)).trans ((jrow_ne _ _ (by omega)).trans ((X3_init_iS_old _ _ _ (by omega)).trans ((jrow_ne _ _ (by omega)).trans ((X3_init_iS_old _ _ _ (by omega)).trans ((jrow_ne _ _ (by omega)).trans ((jrow_ne _ _ (by omega)).trans ((jrow_ne _ _ (by omega)).trans (jrow_self _ _ _))))))))))))) (by decide) dX6_init_79 ?_
  refine J_icmp_ge_f (pc := 80) hX (tgt := 102) (by decide) (by decide) dX6_init_80 ?_
  refine J_aload_n (pc := 83) hX 1 rfl dX6_init_83 ?_
  refine g_X6_31 (pc := 84) hX ((X3_init_iS_old _ _ _ (by omega)).trans ((jrow_ne _ _ (by omega)).trans ((X3_init_iS_old _ _ _ (by omega)).trans ((jrow_ne _ _ (by omega)).trans ((X3_init_iS_old _ _ _ (by omega)).trans ((jrow_ne _ _ (by omega)).trans ((X3_init_iS_old _ _ _ (by omega)).trans ((jrow_ne _ _ (by omega)).trans ((X3_init_iS_old _ _ _ (by omega)).trans ((jrow_ne _ _ (by omega)).trans ((jrow_ne _ _ (by omega)).trans ((jrow_ne _ _ (by omega)).trans ((jrow_ne _ _ (by omega)).trans ((X5_init_iS_old _ _ _ (by omega)).trans ((jrow_ne _ _ (by omega)).trans ((X4_init_iS_old _ _ _ (by omega)).trans ((jrow_ne _ _ (by omega)).trans ((X4_init_iS_old _ _ _ (by omega)).trans ((jrow_ne _ _ (by omega)).trans ((X4_init_iS_old _ _ _ (by omega)).trans ((jrow_ne _ _ (by omega)).trans hs))))))))))))))))))))) dX6_init_84 ?_
  refine J_eqr (y := (n + 144)) ((congrFun (jup_ne _ _ (by omega)) 5).trans ((congrFun (X3_init_iR_old _ _ _ _ (by omega) (by omega)) 5).trans ((congrFun (jup_ne _ _ (by omega)) 5).trans ((congrFun (X3_init_iR_old _ _ _ _ (by omega) (by omega)) 5).trans ((congrFun (jup_ne _ _ (by omega)) 5).trans ((congrFun (X3_init_iR_old _ _ _ _ (by omega) (by omega)) 5).trans ((congrFun (jup_ne _ _ (by omega)) 5).trans ((congrFun (X3_init_iR_old _ _ _ _ (by omega) (by omega)) 5).trans ((congrFun (jup_ne _ _ (by omega)) 5).trans ((congrFun (X3_init_iR_old _ _ _ _ (by omega) (by omega)) 5).trans ((jup_ot _ _ _ (by decide)).trans ((jup_ot _ _ _ (by decide)).trans (jup_at _ _ _ _))))))))))))) ?_
  refine J_iload_n (pc := 87) hX 0 rfl dX6_init_87 ?_
  refine J_new (pc := 88) (n := n + 156) hX hz (ci := 3) (T := TX3) (N := 4) (ty0 := tyX3) rfl inX3 tyX3_ok (by decide) n_X6_29 (by decide +kernel) ((jup_ne _ _ (by omega)).trans ((X3_init_iR_new _ _ _ (by omega) _ (by omega)).trans ((jup_ne _ _ (by omega)).trans ((X3_init_iR_new _ _ _ (by omega) _ (by omega)).trans ((jup_ne _ _ (by omega)).trans ((X3_init_iR_new _ _ _ (by omega) _ (by omega)).trans ((jup_ne _ _ (by omega)).trans ((X3_init_iR_new _ _ _ (by omega) _ (by omega)).trans ((jup_ne _ _ (by omega)).trans ((X3_init_iR_new _ _ _ (by omega) _ (by omega)).trans ((jup_ne _ _ (by omega)).trans ((jup_ne _ _ (by omega)).trans ((jup_ne _ _ (by omega)).trans ((jup_ne _ _ (by omega)).trans ((X5_init_iR_new _ _ _ (by omega) _ (by omega)).trans ((jup_ne _ _ (by omega)).trans ((X4_init_iR_new _ _ _ (by omega) _ (by omega)).trans ((jup_ne _ _ (by omega)).trans ((X4_init_iR_new _ _ _ (by omega) _ (by omega)).trans ((jup_ne _ _ (by omega)).trans ((X4_init_iR_new _ _ _ (by omega) _ (by omega)).trans (hzr (n + 157) (by omega)).1))))))))))))))))))))) ((X3_init_iI_new _ _ _ (by omega) _ (by omega)).trans ((X3_init_iI_new _ _ _ (by omega) _ (by omega)).trans ((X3_init_iI_new _ _ _ (by omega) _ (by omega)).trans ((X3_init_iI_new _ _ _ (by omega) _ (by omega)).trans ((X3_init_iI_new _ _ _ (by omega) _ (by omega)).trans ((X5_init_iI_new _ _ _ (by omega) _ (by omega)).trans ((X4_init_iI_new _ _ _ (by omega) _ (by omega)).trans ((X4_init_iI_new _ _ _ (by omega) _ (by omega)).trans ((X4_init_iI_new _ _ _ (by omega) _ (by omega)).trans (hzr (n + 157) (by omega)).2.1))))))))) ⟨by decide, by decide⟩ dX6_init_88 ?_
  refine J_dup (pc := 91) hX rfl dX6_init_91 ?_
  refine jrun_c (pc := 92) (mc := 1) (ms := 40) (n' := n + 158) (jRunIN hX s_X6_42 (As := []) (rest := [jr (n + 157), ji (5 : Int32), jr (n + 144)]) (K_X3_init Y hz (n + 157) (n + 157) (jrow (X3_init_iS (n + 155) (n + 155) (jrow (X3_init_iS (n + 153) (n + 153) (jrow (X3_init_iS (n + 151) (n + 151) (jrow (X3_init_iS (n + 149) (n + 149) (jrow (X3_init_iS (n + 147) (n + 147) (jrow (jrow (jrow (jrow (X5_init_iS (n + 139) (n + 139) (jrow (X4_init_iS (n + 93) (n + 93) (jrow (X4_init_iS (n + 47) (n + 47) (jrow (X4_init_iS (n + 1) (n + 1) (jrow sh (n + 1) 5)) (n + 47) 5)) (n + 93) 5)) (n + 139) 6)) (n + 144) 5008) (n + 145) 1005) (n + 146) 1040) (n + 147) 4)) (n + 149) 4)) (n + 151) 4)) (n + 153) 4)) (n + 155) 4)) (n + 157) 4) (jup (X3_init_iR (n + 155) (n + 155) (jup (X3_init_iR (n + 153) (n + 153) (jup (X3_init_iR (n + 151) (n + 151) (jup (X3_init_iR (n + 149) (n + 149) (jup (X3_init_iR (n + 147) (n + 147) (jup (jup (jup (jup (X5_init_iR (n + 139) (n + 139) (jup (X4_init_iR (n + 93) (n + 93) (jup (X4_init_iR (n + 47) (n + 47) (jup (X4_init_iR (n + 1) (n + 1) rf) t 0 (n + 1))) t 1 (n + 47))) t 2 (n + 93))) t 4 (n + 139)) t 5 (n + 144)) t 6 (n + 145)) t 7 (n + 146))) (n + 144) 0 (n + 147))) (n + 144) 1 (n + 149))) (n + 144) 2 (n + 151))) (n + 144) 3 (n + 153))) (n + 144) 4 (n + 155)) (X3_init_iI (n + 155) (n + 155) (X3_init_iI (n + 153) (n + 153) (X3_init_iI (n + 151) (n + 151) (X3_init_iI (n + 149) (n + 149) (X3_init_iI (n + 147) (n + 147) (X5_init_iI (n + 139) (n + 139) (X4_init_iI (n + 93) (n + 93) (X4_init_iI (n + 47) (n + 47) (X4_init_iI (n + 1) (n + 1) I))))))))) L (jrow_self _ _ _) (by omega) (fun a ha => ⟨((jup_ne _ _ (by omega)).trans ((X3_init_iR_new _ _ _ (by omega) _ (by omega)).trans ((jup_ne _ _ (by omega)).trans ((X3_init_iR_new _ _ _ (by omega) _ (by omega)).trans ((jup_ne _ _ (by omega)).trans ((X3_init_iR_new _ _ _ (by omega) _ (by omega)).trans ((jup_ne _ _ (by omega)).trans ((X3_init_iR_new _ _ _ (by omega) _ (by omega)).trans ((jup_ne _ _ (by omega)).trans ((X3_init_iR_new _ _ _ (by omega) _ (by omega)).trans ((jup_ne _ _ (by omega)).trans ((jup_ne _ _ (by omega)).trans ((jup_ne _ _ (by omega)).trans ((jup_ne _ _ (by omega)).trans ((X5_init_iR_new _ _ _ (by omega) _ (by omega)).trans ((jup_ne _ _ (by omega)).trans ((X4_init_iR_new _ _ _ (by omega) _ (by omega)).trans ((jup_ne _ _ (by omega)).trans ((X4_init_iR_new _ _ _ (by omega) _ (by omega)).trans ((jup_ne _ _ (by omega)).trans ((X4_init_iR_new _ _ _ (by omega) _ (by omega)).trans (hzr a (by omega)).1))))))))))))))))))))), ((X3_init_iI_new _ _ _ (by omega) _ (by omega)).trans ((X3_init_iI_new _ _ _ (by omega) _ (by omega)).trans ((X3_init_iI_new _ _ _ (by omega) _ (by omega)).trans ((X3_init_iI_new _ _ _ (by omega) _ (by omega)).trans ((X3_init_iI_new _ _ _ (by omega) _ (by omega)).trans ((X5_init_iI_new _ _ _ (by omega) _ (by omega)).trans ((X4_init_iI_new _ _ _ (by omega) _ (by omega)).trans ((X4_init_iI_new _ _ _ (by omega) _ (by omega)).trans ((X4_init_iI_new _ _ _ (by omega) _ (by omega)).trans (hzr a (by omega)).2.1))))))))), (hzr a (by omega)).2.2⟩)) (by rw [(jrow_self _ _ _)]; decide) rfl rfl ⟨by decide, by decide⟩ ⟨by decide, by decide⟩ (Nat.le_of_ble_eq_true rfl) dX6_init_92) ?_
  refine J_aastC (pc := 95) hX (N := 8) (t := 1) (ci := 3) (j := 5) ((X3_init_iS_old _ _ _ (by omega)).trans ((jrow_ne _ _ (by omega)).trans ((X3_init_iS_old _ _ _ (by omega)).trans ((jrow_ne _ _ (by omega)).trans ((X3_init_iS_old _ _ _ (by omega)).trans ((jrow_ne _ _ (by omega)).trans ((X3_init_iS_old _ _ _ (by omega)).trans ((jrow_ne _ _ (by omega)).trans ((X3_init_iS_old _ _ _ (by omega)).trans ((jrow_ne _ _ (by omega)).trans ((X3_init_iS_old _ _ _ (by omega)).trans ((jrow_ne _ _ (by omega)).trans ((jrow_ne _ _ (by omega)).trans ((jrow_ne _ _ (by omega)).trans (jrow_self _ _ _))))))))))))))) (by decide) ((X3_init_iS_old _ _ _ (by omega)).trans (jrow_self _ _ _)) (by decide) rfl rfl (by decide) (by decide) dX6_init_95 ?_
  refine J_iinc (pc := 96) hX (v := (6 : Int32)) (lo' := [(1, ji (6 : Int32)), (0, jr t)]) 0 rfl (by decide) (by decide) rfl dX6_init_96 ?_
  refine J_goto (pc := 99) hX (tgt := 74) (by decide) dX6_init_99 ?_
  refine J_iload_n (pc := 74) hX 0 rfl dX6_init_74 ?_
  refine J_aload_n (pc := 75) hX 1 rfl dX6_init_75 ?_
  refine g_X6_31 (pc := 76) hX ((X3_init_iS_old _ _ _ (by omega)).trans ((jrow_ne _ _ (by omega)).trans ((X3_init_iS_old _ _ _ (by omega)).trans ((jrow_ne _ _ (by omega)).trans ((X3_init_iS_old _ _ _ (by omega)).trans ((jrow_ne _ _ (by omega)).trans ((X3_init_iS_old _ _ _ (by omega)).trans ((jrow_ne _ _ (by omega)).trans ((X3_init_iS_old _ _ _ (by omega)).trans ((jrow_ne _ _ (by omega)).trans ((X3_init_iS_old _ _ _ (by omega)).trans ((jrow_ne _ _ (by omega)).trans ((jrow_ne _ _ (by omega)).trans ((jrow_ne _ _ (by omega)).trans ((jrow_ne _ _ (by omega)).trans ((X5_init_iS_old _ _ _ (by omega)).trans ((jrow_ne _ _ (by omega)).trans ((X4_init_iS_old _ _ _ (by omega)).trans ((jrow_ne _ _ (by omega)).trans ((X4_init_iS_old _ _ _ (by omega)).trans ((jrow_ne _ _ (by omega)).trans ((X4_init_iS_old _ _ _ (by omega)).trans ((jrow_ne _ _ (by omega)).trans hs))))))))))))))))))))))) dX6_init_76 ?_
  refine J_eqr (y := (n + 144)) ((congrFun (jup_ne _ _ (by omega)) 5).trans ((congrFun (X3_init_iR_old _ _ _ _ (by omega) (by omega)) 5).trans ((congrFun (jup_ne _ _ (by omega)) 5).trans ((congrFun (X3_init_iR_old _ _ _ _ (by omega) (by omega)) 5).trans ((congrFun (jup_ne _ _ (by omega)) 5).trans ((congrFun (X3_init_iR_old _ _ _ _ (by omega) (by omega)) 5).trans ((congrFun (jup_ne _ _ (by omega)) 5).trans ((congrFun (X3_init_iR_old _ _ _ _ (by omega) (by omega)) 5).trans ((congrFun (jup_ne _ _ (by omega)) 5).trans ((congrFun (X3_init_iR_old _ _ _ _ (by omega) (by omega)) 5).trans ((congrFun (jup_ne _ _ (by omega)) 5).trans ((congrFun (X3_init_iR_old _ _ _ _ (by omega) (by omega)) 5).trans ((jup_ot _ _ _ (by decide)).trans ((jup_ot _ _ _ (by decide)).trans (jup_at _ _ _ _))))))))))))))) ?_
  refine J_alen (pc := 79) hX (v := (8 : Int32)) ((X3_init_iS_old _ _ _ (by omega)).trans ((jrow_ne _ _ (by omega)).trans ((X3_init_iS_old _ _ _ (by omega)).trans ((jrow_ne _ _ (by omega)).trans ((X3_init_iS_old _ _ _ (by omega)).trans ((jrow_ne _ _ (by omega)).trans ((X3_init_iS_old _ _ _ (by omega)).trans ((jrow_ne _ _ (by omega)).trans ((X3_init_iS_old _ _ _ (by omega)).trans ((jrow_ne _ _ (by omega)).trans ((X3_init_iS_old _ _ _ (by omega)).trans ((jrow_ne _ _ (by omega)).trans ((jrow_ne _ _ (by omega)).trans ((jrow_ne _ _ (by omega)).trans (jrow_self _ _ _))))))))))))))) (by decide) dX6_init_79 ?_
  refine J_icmp_ge_f (pc := 80) hX (tgt := 102) (by decide) (by decide) dX6_init_80 ?_
  refine J_aload_n (pc := 83) hX 1 rfl dX6_init_83 ?_
  refine g_X6_31 (pc := 84) hX ((X3_init_iS_old _ _ _ (by omega)).trans ((jrow_ne _ _ (by omega)).trans ((X3_init_iS_old _ _ _ (by omega)).trans ((jrow_ne _ _ (by omega)).trans ((X3_init_iS_old _ _ _ (by omega)).trans ((jrow_ne _ _ (by omega)).trans ((X3_init_iS_old _ _ _ (by omega)).trans ((jrow_ne _ _ (by omega)).trans ((X3_init_iS_old _ _ _ (by omega)).trans ((jrow_ne _ _ (by omega)).trans ((X3_init_iS_old _ _ _ (by omega)).trans ((jrow_ne _ _ (by omega)).trans ((jrow_ne _ _ (by omega)).trans ((jrow_ne _ _ (by omega)).trans ((jrow_ne _ _ (by omega)).trans ((X5_init_iS_old _ _ _ (by omega)).trans ((jrow_ne _ _ (by omega)).trans ((X4_init_iS_old _ _ _ (by omega)).trans ((jrow_ne _ _ (by omega)).trans ((X4_init_iS_old _ _ _ (by omega)).trans ((jrow_ne _ _ (by omega)).trans ((X4_init_iS_old _ _ _ (by omega)).trans ((jrow_ne _ _ (by omega)).trans hs))))))))))))))))))))))) dX6_init_84 ?_
  refine J_eqr (y := (n + 144)) ((congrFun (jup_ne _ _ (by omega)) 5).trans ((congrFun (X3_init_iR_old _ _ _ _ (by omega) (by omega)) 5).trans ((congrFun (jup_ne _ _ (by omega)) 5).trans ((congrFun (X3_init_iR_old _ _ _ _ (by omega) (by omega)) 5).trans ((congrFun (jup_ne _ _ (by omega)) 5).trans ((congrFun (X3_init_iR_old _ _ _ _ (by omega) (by omega)) 5).trans ((congrFun (jup_ne _ _ (by omega)) 5).trans ((congrFun (X3_init_iR_old _ _ _ _ (by omega) (by omega)) 5).trans ((congrFun (jup_ne _ _ (by omega)) 5).trans ((congrFun (X3_init_iR_old _ _ _ _ (by omega) (by omega)) 5).trans ((congrFun (jup_ne _ _ (by omega)) 5).trans ((congrFun (X3_init_iR_old _ _ _ _ (by omega) (by omega)) 5).trans ((jup_ot _ _ _ (by decide)).trans ((jup_ot _ _ _ (by decide)).trans (jup_at _ _ _ _))))))))))))))) ?_
  refine J_iload_n (pc := 87) hX 0 rfl dX6_init_87 ?_
  refine J_new (pc := 88) (n := n + 158) hX hz (ci := 3) (T := TX3) (N := 4) (ty0 := tyX3) rfl inX3 tyX3_ok (by decide) n_X6_29 (by decide +kernel) ((jup_ne _ _ (by omega)).trans ((X3_init_iR_new _ _ _ (by omega) _ (by omega)).trans ((jup_ne _ _ (by omega)).trans ((X3_init_iR_new _ _ _ (by omega) _ (by omega)).trans ((jup_ne _ _ (by omega)).trans ((X3_init_iR_new _ _ _ (by omega) _ (by omega)).trans ((jup_ne _ _ (by omega)).trans ((X3_init_iR_new _ _ _ (by omega) _ (by omega)).trans ((jup_ne _ _ (by omega)).trans ((X3_init_iR_new _ _ _ (by omega) _ (by omega)).trans ((jup_ne _ _ (by omega)).trans ((X3_init_iR_new _ _ _ (by omega) _ (by omega)).trans ((jup_ne _ _ (by omega)).trans ((jup_ne _ _ (by omega)).trans ((jup_ne _ _ (by omega)).trans ((jup_ne _ _ (by omega)).trans ((X5_init_iR_new _ _ _ (by omega) _ (by omega)).trans ((jup_ne _ _ (by omega)).trans ((X4_init_iR_new _ _ _ (by omega) _ (by omega)).trans ((jup_ne _ _ (by omega)).trans ((X4_init_iR_new _ _ _ (by omega) _ (by omega)).trans ((jup_ne _ _ (by omega)).trans ((X4_init_iR_new _ _ _ (by omega) _ (by omega)).trans (hzr (n + 159) (by omega)).1))))))))))))))))))))))) ((X3_init_iI_new _ _ _ (by omega) _ (by omega)).trans ((X3_init_iI_new _ _ _ (by omega) _ (by omega)).trans ((X3_init_iI_new _ _ _ (by omega) _ (by omega)).trans ((X3_init_iI_new _ _ _ (by omega) _ (by omega)).trans ((X3_init_iI_new _ _ _ (by omega) _ (by omega)).trans ((X3_init_iI_new _ _ _ (by omega) _ (by omega)).trans ((X5_init_iI_new _ _ _ (by omega) _ (by omega)).trans ((X4_init_iI_new _ _ _ (by omega) _ (by omega)).trans ((X4_init_iI_new _ _ _ (by omega) _ (by omega)).trans ((X4_init_iI_new _ _ _ (by omega) _ (by omega)).trans (hzr (n + 159) (by omega)).2.1)))))))))) ⟨by decide, by decide⟩ dX6_init_88 ?_
  refine J_dup (pc := 91) hX rfl dX6_init_91 ?_
  refine jrun_c (pc := 92) (mc := 1) (ms := 40) (n' := n + 160) (jRunIN hX s_X6_42 (As := []) (rest := [jr (n + 159), ji (6 : Int32), jr (n + 144)]) (K_X3_init Y hz (n + 159) (n + 159) (jrow (X3_init_iS (n + 157) (n + 157) (jrow (X3_init_iS (n + 155) (n + 155) (jrow (X3_init_iS (n + 153) (n + 153) (jrow (X3_init_iS (n + 151) (n + 151) (jrow (X3_init_iS (n + 149) (n + 149) (jrow (X3_init_iS (n + 147) (n + 147) (jrow (jrow (jrow (jrow (X5_init_iS (n + 139) (n + 139) (jrow (X4_init_iS (n + 93) (n + 93) (jrow (X4_init_iS (n + 47) (n + 47) (jrow (X4_init_iS (n + 1) (n + 1) (jrow sh (n + 1) 5)) (n + 47) 5)) (n + 93) 5)) (n + 139) 6)) (n + 144) 5008) (n + 145) 1005) (n + 146) 1040) (n + 147) 4)) (n + 149) 4)) (n + 151) 4)) (n + 153) 4)) (n + 155) 4)) (n + 157) 4)) (n + 159) 4) (jup (X3_init_iR (n + 157) (n + 157) (jup (X3_init_iR (n + 155) (n + 155) (jup (X3_init_iR (n + 153) (n + 153) (jup (X3_init_iR (n + 151) (n + 151) (jup (X3_init_iR (n + 149) (n + 149) (jup (X3_init_iR (n + 147) (n + 147) (jup (jup (jup (jup (X5_init_iR (n + 139) (n + 139) (jup (X4_init_iR (n + 93) (n + 93) (jup (X4_init_iR (n + 47) (n + 47) (jup (X4_init_iR (n + 1) (n + 1) rf) t 0 (n + 1))) t 1 (n + 47))) t 2 (n + 93))) t 4 (n + 139)) t 5 (n + 144)) t 6 (n + 145)) t 7 (n + 146))) (n + 144) 0 (n + 147))) (n + 144) 1 (n + 149))) (n + 144) 2 (n + 151))) (n + 144) 3 (n + 153))) (n + 144) 4 (n + 155))) (n + 144) 5 (n + 157)) (X3_init_iI (n + 157) (n + 157) (X3_init_iI (n + 155) (n + 155) (X3_init_iI (n + 153) (n + 153) (X3_init_iI (n + 151) (n + 151) (X3_init_iI (n + 149) (n + 149) (X3_init_iI (n + 147) (n + 147) (X5_init_iI (n + 139) (n + 139) (X4_init_iI (n + 93) (n + 93) (X4_init_iI (n + 47) (n + 47) (X4_init_iI (n + 1) (n + 1) I)))))))))) L (jrow_self _ _ _) (by omega) (fun a ha => ⟨((jup_ne _ _ (by omega)).trans ((X3_init_iR_new _ _ _ (by omega) _ (by omega)).trans ((jup_ne _ _ (by omega)).trans ((X3_init_iR_new _ _ _ (by omega) _ (by omega)).trans ((jup_ne _ _ (by omega)).trans ((X3_init_iR_new _ _ _ (by omega) _ (by omega)).trans ((jup_ne _ _ (by omega)).trans ((X3_init_iR_new _ _ _ (by omega) _ (by omega)).trans ((jup_ne _ _ (by omega)).trans ((X3_init_iR_new _ _ _ (by omega) _ (by omega)).trans ((jup_ne _ _ (by omega)).trans ((X3_init_iR_new _ _ _ (by omega) _ (by omega)).trans ((jup_ne _ _ (by omega)).trans ((jup_ne _ _ (by omega)).trans ((jup_ne _ _ (by omega)).trans ((jup_ne _ _ (by omega)).trans ((X5_init_iR_new _ _ _ (by omega) _ (by omega)).trans ((jup_ne _ _ (by omega)).trans ((X4_init_iR_new _ _ _ (by omega) _ (by omega)).trans ((jup_ne _ _ (by omega)).trans ((X4_init_iR_new _ _ _ (by omega) _ (by omega)).trans ((jup_ne _ _ (by omega)).trans ((X4_init_iR_new _ _ _ (by omega) _ (by omega)).trans (hzr a (by omega)).1))))))))))))))))))))))), ((X3_init_iI_new _ _ _ (by omega) _ (by omega)).trans ((X3_init_iI_new _ _ _ (by omega) _ (by omega)).trans ((X3_init_iI_new _ _ _ (by omega) _ (by omega)).trans ((X3_init_iI_new _ _ _ (by omega) _ (by omega)).trans ((X3_init_iI_new _ _ _ (by omega) _ (by omega)).trans ((X3_init_iI_new _ _ _ (by omega) _ (by omega)).trans ((X5_init_iI_new _ _ _ (by omega) _ (by omega)).trans ((X4_init_iI_new _ _ _ (by omega) _ (by omega)).trans ((X4_init_iI_new _ _ _ (by omega) _ (by omega)).trans ((X4_init_iI_new _ _ _ (by omega) _ (by omega)).trans (hzr a (by omega)).2.1)))))))))), (hzr a (by omega)).2.2⟩)) (by rw [(jrow_self _ _ _)]; decide) rfl rfl ⟨by decide, by decide⟩ ⟨by decide, by decide⟩ (Nat.le_of_ble_eq_true rfl) dX6_init_92) ?_
  refine J_aastC (pc := 95) hX (N := 8) (t := 1) (ci := 3) (j := 6) ((X3_init_iS_old _ _ _ (by omega)).trans ((jrow_ne _ _ (by omega)).trans ((X3_init_iS_old _ _ _ (by omega)).trans ((jrow_ne _ _ (by omega)).trans ((X3_init_iS_old _ _ _ (by omega)).trans ((jrow_ne _ _ (by omega)).trans ((X3_init_iS_old _ _ _ (by omega)).trans ((jrow_ne _ _ (by omega)).trans ((X3_init_iS_old _ _ _ (by omega)).trans ((jrow_ne _ _ (by omega)).trans ((X3_init_iS_old _ _ _ (by omega)).trans ((jrow_ne _ _ (by omega)).trans ((X3_init_iS_old _ _ _ (by omega)).trans ((jrow_ne _ _ (by omega)).trans ((jrow_ne _ _ (by omega)).trans ((jrow_ne _ _ (by omega)).trans (jrow_self _ _ _))))))))))))))))) (by decide) ((X3_init_iS_old _ _ _ (by omega)).trans (jrow_self _ _ _)) (by decide) rfl rfl (by decide) (by decide) dX6_init_95 ?_
  refine J_iinc (pc := 96) hX (v := (7 : Int32)) (lo' := [(1, ji (7 : Int32)), (0, jr t)]) 0 rfl (by decide) (by decide) rfl dX6_init_96 ?_
  refine J_goto (pc := 99) hX (tgt := 74) (by decide) dX6_init_99 ?_
  refine J_iload_n (pc := 74) hX 0 rfl dX6_init_74 ?_
  refine J_aload_n (pc := 75) hX 1 rfl dX6_init_75 ?_
  refine g_X6_31 (pc := 76) hX ((X3_init_iS_old _ _ _ (by omega)).trans ((jrow_ne _ _ (by omega)).trans ((X3_init_iS_old _ _ _ (by omega)).trans ((jrow_ne _ _ (by omega)).trans ((X3_init_iS_old _ _ _ (by omega)).trans ((jrow_ne _ _ (by omega)).trans ((X3_init_iS_old _ _ _ (by omega)).trans ((jrow_ne _ _ (by omega)).trans ((X3_init_iS_old _ _ _ (by omega)).trans ((jrow_ne _ _ (by omega)).trans ((X3_init_iS_old _ _ _ (by omega)).trans ((jrow_ne _ _ (by omega)).trans ((X3_init_iS_old _ _ _ (by omega)).trans ((jrow_ne _ _ (by omega)).trans ((jrow_ne _ _ (by omega)).trans ((jrow_ne _ _ (by omega)).trans ((jrow_ne _ _ (by omega)).trans ((X5_init_iS_old _ _ _ (by omega)).trans ((jrow_ne _ _ (by omega)).trans ((X4_init_iS_old _ _ _ (by omega)).trans ((jrow_ne _ _ (by omega)).trans ((X4_init_iS_old _ _ _ (by omega)).trans ((jrow_ne _ _ (by omega)).trans ((X4_init_iS_old _ _ _ (by omega)).trans ((jrow_ne _ _ (by omega)).trans hs))))))))))))))))))))))))) dX6_init_76 ?_
  refine J_eqr (y := (n + 144)) ((congrFun (jup_ne _ _ (by omega)) 5).trans ((congrFun (X3_init_iR_old _ _ _ _ (by omega) (by omega)) 5).trans ((congrFun (jup_ne _ _ (by omega)) 5).trans ((congrFun (X3_init_iR_old _ _ _ _ (by omega) (by omega)) 5).trans ((congrFun (jup_ne _ _ (by omega)) 5).trans ((congrFun (X3_init_iR_old _ _ _ _ (by omega) (by omega)) 5).trans ((congrFun (jup_ne _ _ (by omega)) 5).trans ((congrFun (X3_init_iR_old _ _ _ _ (by omega) (by omega)) 5).trans ((congrFun (jup_ne _ _ (by omega)) 5).trans ((congrFun (X3_init_iR_old _ _ _ _ (by omega) (by omega)) 5).trans ((congrFun (jup_ne _ _ (by omega)) 5).trans ((congrFun (X3_init_iR_old _ _ _ _ (by omega) (by omega)) 5).trans ((congrFun (jup_ne _ _ (by omega)) 5).trans ((congrFun (X3_init_iR_old _ _ _ _ (by omega) (by omega)) 5).trans ((jup_ot _ _ _ (by decide)).trans ((jup_ot _ _ _ (by decide)).trans (jup_at _ _ _ _))))))))))))))))) ?_
  refine J_alen (pc := 79) hX (v := (8 : Int32)) ((X3_init_iS_old _ _ _ (by omega)).trans ((jrow_ne _ _ (by omega)).trans ((X3_init_iS_old _ _ _ (by omega)).trans ((jrow_ne _ _ (by omega)).trans ((X3_init_iS_old _ _ _ (by omega)).trans ((jrow_ne _ _ (by omega)).trans ((X3_init_iS_old _ _ _ (by omega)).trans ((jrow_ne _ _ (by omega)).trans ((X3_init_iS_old _ _ _ (by omega)).trans ((jrow_ne _ _ (by omega)).trans ((X3_init_iS_old _ _ _ (by omega)).trans ((jrow_ne _ _ (by omega)).trans ((X3_init_iS_old _ _ _ (by omega)).trans ((jrow_ne _ _ (by omega)).trans ((jrow_ne _ _ (by omega)).trans ((jrow_ne _ _ (by omega)).trans (jrow_self _ _ _))))))))))))))))) (by decide) dX6_init_79 ?_
  refine J_icmp_ge_f (pc := 80) hX (tgt := 102) (by decide) (by decide) dX6_init_80 ?_
  refine J_aload_n (pc := 83) hX 1 rfl dX6_init_83 ?_
  refine g_X6_31 (pc := 84) hX ((X3_init_iS_old _ _ _ (by omega)).trans ((jrow_ne _ _ (by omega)).trans ((X3_init_iS_old _ _ _ (by omega)).trans ((jrow_ne _ _ (by omega)).trans ((X3_init_iS_old _ _ _ (by omega)).trans ((jrow_ne _ _ (by omega)).trans ((X3_init_iS_old _ _ _ (by omega)).trans ((jrow_ne _ _ (by omega)).trans ((X3_init_iS_old _ _ _ (by omega)).trans ((jrow_ne _ _ (by omega)).trans ((X3_init_iS_old _ _ _ (by omega)).trans ((jrow_ne _ _ (by omega)).trans ((X3_init_iS_old _ _ _ (by omega)).trans ((jrow_ne _ _ (by omega)).trans ((jrow_ne _ _ (by omega)).trans ((jrow_ne _ _ (by omega)).trans ((jrow_ne _ _ (by omega)).trans ((X5_init_iS_old _ _ _ (by omega)).trans ((jrow_ne _ _ (by omega)).trans ((X4_init_iS_old _ _ _ (by omega)).trans ((jrow_ne _ _ (by omega)).trans ((X4_init_iS_old _ _ _ (by omega)).trans ((jrow_ne _ _ (by omega)).trans ((X4_init_iS_old _ _ _ (by omega)).trans ((jrow_ne _ _ (by omega)).trans hs))))))))))))))))))))))))) dX6_init_84 ?_
  refine J_eqr (y := (n + 144)) ((congrFun (jup_ne _ _ (by omega)) 5).trans ((congrFun (X3_init_iR_old _ _ _ _ (by omega) (by omega)) 5).trans ((congrFun (jup_ne _ _ (by omega)) 5).trans ((congrFun (X3_init_iR_old _ _ _ _ (by omega) (by omega)) 5).trans ((congrFun (jup_ne _ _ (by omega)) 5).trans ((congrFun (X3_init_iR_old _ _ _ _ (by omega) (by omega)) 5).trans ((congrFun (jup_ne _ _ (by omega)) 5).trans ((congrFun (X3_init_iR_old _ _ _ _ (by omega) (by omega)) 5).trans ((congrFun (jup_ne _ _ (by omega)) 5).trans ((congrFun (X3_init_iR_old _ _ _ _ (by omega) (by omega)) 5).trans ((congrFun (jup_ne _ _ (by omega)) 5).trans ((congrFun (X3_init_iR_old _ _ _ _ (by omega) (by omega)) 5).trans ((congrFun (jup_ne _ _ (by omega)) 5).trans ((congrFun (X3_init_iR_old _ _ _ _ (by omega) (by omega)) 5).trans ((jup_ot _ _ _ (by decide)).trans ((jup_ot _ _ _ (by decide)).trans (jup_at _ _ _ _))))))))))))))))) ?_
  refine J_iload_n (pc := 87) hX 0 rfl dX6_init_87 ?_
  refine J_new (pc := 88) (n := n + 160) hX hz (ci := 3) (T := TX3) (N := 4) (ty0 := tyX3) rfl inX3 tyX3_ok (by decide) n_X6_29 (by decide +kernel) ((jup_ne _ _ (by omega)).trans ((X3_init_iR_new _ _ _ (by omega) _ (by omega)).trans ((jup_ne _ _ (by omega)).trans ((X3_init_iR_new _ _ _ (by omega) _ (by omega)).trans ((jup_ne _ _ (by omega)).trans ((X3_init_iR_new _ _ _ (by omega) _ (by omega)).trans ((jup_ne _ _ (by omega)).trans ((X3_init_iR_new _ _ _ (by omega) _ (by omega)).trans ((jup_ne _ _ (by omega)).trans ((X3_init_iR_new _ _ _ (by omega) _ (by omega)).trans ((jup_ne _ _ (by omega)).trans ((X3_init_iR_new _ _ _ (by omega) _ (by omega)).trans ((jup_ne _ _ (by omega)).trans ((X3_init_iR_new _ _ _ (by omega) _ (by omega)).trans ((jup_ne _ _ (by omega)).trans ((jup_ne _ _ (by omega)).trans ((jup_ne _ _ (by omega)).trans ((jup_ne _ _ (by omega)).trans ((X5_init_iR_new _ _ _ (by omega) _ (by omega)).trans ((jup_ne _ _ (by omega)).trans ((X4_init_iR_new _ _ _ (by omega) _ (by omega)).trans ((jup_ne _ _ (by omega)).trans ((X4_init_iR_new _ _ _ (by omega) _ (by omega)).trans ((jup_ne _ _ (by omega)).trans ((X4_init_iR_new _ _ _ (by omega) _ (by omega)).trans (hzr (n + 161) (by omega)).1))))))))))))))))))))))))) ((X3_init_iI_new _ _ _ (by omega) _ (by omega)).trans ((X3_init_iI_new _ _ _ (by omega) _ (by omega)).trans ((X3_init_iI_new _ _ _ (by omega) _ (by omega)).trans ((X3_init_iI_new _ _ _ (by omega) _ (by omega)).trans ((X3_init_iI_new _ _ _ (by omega) _ (by omega)).trans ((X3_init_iI_new _ _ _ (by omega) _ (by omega)).trans ((X3_init_iI_new _ _ _ (by omega) _ (by omega)).trans ((X5_init_iI_new _ _ _ (by omega) _ (by omega)).trans ((X4_init_iI_new _ _ _ (by omega) _ (by omega)).trans ((X4_init_iI_new _ _ _ (by omega) _ (by omega)).trans ((X4_init_iI_new _ _ _ (by omega) _ (by omega)).trans (hzr (n + 161) (by omega)).2.1))))))))))) ⟨by decide, by decide⟩ dX6_init_88 ?_
  refine J_dup (pc := 91) hX rfl dX6_init_91 ?_
  refine jrun_c (pc := 92) (mc := 1) (ms := 40) (n' := n + 162) (jRunIN hX s_X6_42 (As := []) (rest := [jr (n + 161), ji (7 : Int32), jr (n + 144)]) (K_X3_init Y hz (n + 161) (n + 161) (jrow (X3_init_iS (n + 159) (n + 159) (jrow (X3_init_iS (n + 157) (n + 157) (jrow (X3_init_iS (n + 155) (n + 155) (jrow (X3_init_iS (n + 153) (n + 153) (jrow (X3_init_iS (n + 151) (n + 151) (jrow (X3_init_iS (n + 149) (n + 149) (jrow (X3_init_iS (n + 147) (n + 147) (jrow (jrow (jrow (jrow (X5_init_iS (n + 139) (n + 139) (jrow (X4_init_iS (n + 93) (n + 93) (jrow (X4_init_iS (n + 47) (n + 47) (jrow (X4_init_iS (n + 1) (n + 1) (jrow sh (n + 1) 5)) (n + 47) 5)) (n + 93) 5)) (n + 139) 6)) (n + 144) 5008) (n + 145) 1005) (n + 146) 1040) (n + 147) 4)) (n + 149) 4)) (n + 151) 4)) (n + 153) 4)) (n + 155) 4)) (n + 157) 4)) (n + 159) 4)) (n + 161) 4) (jup (X3_init_iR (n + 159) (n + 159) (jup (X3_init_iR (n + 157) (n + 157) (jup (X3_init_iR (n + 155) (n + 155) (jup (X3_init_iR (n + 153) (n + 153) (jup (X3_init_iR (n + 151) (n + 151) (jup (X3_init_iR (n + 149) (n + 149) (jup (X3_init_iR (n + 147) (n + 147) (jup (jup (jup (jup (X5_init_iR (n + 139) (n + 139) (jup (X4_init_iR (n + 93) (n + 93) (jup (X4_init_iR (n + 47) (n + 47) (jup (X4_init_iR (n + 1) (n + 1) rf) t 0 (n + 1))) t 1 (n + 47))) t 2 (n + 93))) t 4 (n + 139)) t 5 (n + 144)) t 6 (n + 145)) t 7 (n + 146))) (n + 144) 0 (n + 147))) (n + 144) 1 (n + 149))) (n + 144) 2 (n + 151))) (n + 144) 3 (n + 153))) (n + 144) 4 (n + 155))) (n + 144) 5 (n + 157))) (n + 144) 6 (n + 159)) (X3_init_iI (n + 159) (n + 159) (X3_init_iI (n + 157) (n + 157) (X3_init_iI (n + 155) (n + 155) (X3_init_iI (n + 153) (n + 153) (X3_init_iI (n + 151) (n + 151) (X3_init_iI (n + 149) (n + 149) (X3_init_iI (n + 147) (n + 147) (X5_init_iI (n + 139) (n + 139) (X4_init_iI (n + 93) (n + 93) (X4_init_iI (n + 47) (n + 47) (X4_init_iI (n + 1) (n + 1) I))))))))))) L (jrow_self _ _ _) (by omega) (fun a ha => ⟨((jup_ne _ _ (by omega)).trans ((X3_init_iR_new _ _ _ (by omega) _ (by omega)).trans ((jup_ne _ _ (by omega)).trans ((X3_init_iR_new _ _ _ (by omega) _ (by omega)).trans ((jup_ne _ _ (by omega)).trans ((X3_init_iR_new _ _ _ (by omega) _ (by omega)).trans ((jup_ne _ _ (by omega)).trans ((X3_init_iR_new _ _ _ (by omega) _ (by omega)).trans ((jup_ne _ _ (by omega)).trans ((X3_init_iR_new _ _ _ (by omega) _ (by omega)).trans ((jup_ne _ _ (by omega)).trans ((X3_init_iR_new _ _ _ (by omega) _ (by omega)).trans ((jup_ne _ _ (by omega)).trans ((X3_init_iR_new _ _ _ (by omega) _ (by omega)).trans ((jup_ne _ _ (by omega)).trans ((jup_ne _ _ (by omega)).trans ((jup_ne _ _ (by omega)).trans ((jup_ne _ _ (by omega)).trans ((X5_init_iR_new _ _ _ (by omega) _ (by omega)).trans ((jup_ne _ _ (by omega)).trans ((X4_init_iR_new _ _ _ (by omega) _ (by omega)).trans ((jup_ne _ _ (by omega)).trans ((X4_init_iR_new _ _ _ (by omega) _ (by omega)).trans ((jup_ne _ _ (by omega)).trans ((X4_init_iR_new _ _ _ (by omega) _ (by omega)).trans (hzr a (by omega)).1))))))))))))))))))))))))), ((X3_init_iI_new _ _ _ (by omega) _ (by omega)).trans ((X3_init_iI_new _ _ _ (by omega) _ (by omega)).trans ((X3_init_iI_new _ _ _ (by omega) _ (by omega)).trans ((X3_init_iI_new _ _ _ (by omega) _ (by omega)).trans ((X3_init_iI_new _ _ _ (by omega) _ (by omega)).trans ((X3_init_iI_new _ _ _ (by omega) _ (by omega)).trans ((X3_init_iI_new _ _ _ (by omega) _ (by omega)).trans ((X5_init_iI_new _ _ _ (by omega) _ (by omega)).trans ((X4_init_iI_new _ _ _ (by omega) _ (by omega)).trans ((X4_init_iI_new _ _ _ (by omega) _ (by omega)).trans ((X4_init_iI_new _ _ _ (by omega) _ (by omega)).trans (hzr a (by omega)).2.1))))))))))), (hzr a (by omega)).2.2⟩)) (by rw [(jrow_self _ _ _)]; decide) rfl rfl ⟨by decide, by decide⟩ ⟨by decide, by decide⟩ (Nat.le_of_ble_eq_true rfl) dX6_init_92) ?_
  refine J_aastC (pc := 95) hX (N := 8) (t := 1) (ci := 3) (j := 7) ((X3_init_iS_old _ _ _ (by omega)).trans ((jrow_ne _ _ (by omega)).trans ((X3_init_iS_old _ _ _ (by omega)).trans ((jrow_ne _ _ (by omega)).trans ((X3_init_iS_old _ _ _ (by omega)).trans ((jrow_ne _ _ (by omega)).trans ((X3_init_iS_old _ _ _ (by omega)).trans ((jrow_ne _ _ (by omega)).trans ((X3_init_iS_old _ _ _ (by omega)).trans ((jrow_ne _ _ (by omega)).trans ((X3_init_iS_old _ _ _ (by omega)).trans ((jrow_ne _ _ (by omega)).trans ((X3_init_iS_old _ _ _ (by omega)).trans ((jrow_ne _ _ (by omega)).trans ((X3_init_iS_old _ _ _ (by omega)).trans ((jrow_ne _ _ (by omega)).trans ((jrow_ne _ _ (by omega)).trans ((jrow_ne _ _ (by omega)).trans (jrow_self _ _ _))))))))))))))))))) (by decide) ((X3_init_iS_old _ _ _ (by omega)).trans (jrow_self _ _ _)) (by decide) rfl rfl (by decide) (by decide) dX6_init_95 ?_
  refine J_iinc (pc := 96) hX (v := (8 : Int32)) (lo' := [(1, ji (8 : Int32)), (0, jr t)]) 0 rfl (by decide) (by decide) rfl dX6_init_96 ?_
  refine J_goto (pc := 99) hX (tgt := 74) (by decide) dX6_init_99 ?_
  refine J_iload_n (pc := 74) hX 0 rfl dX6_init_74 ?_
  refine J_aload_n (pc := 75) hX 1 rfl dX6_init_75 ?_
  refine g_X6_31 (pc := 76) hX ((X3_init_iS_old _ _ _ (by omega)).trans ((jrow_ne _ _ (by omega)).trans ((X3_init_iS_old _ _ _ (by omega)).trans ((jrow_ne _ _ (by omega)).trans ((X3_init_iS_old _ _ _ (by omega)).trans ((jrow_ne _ _ (by omega)).trans ((X3_init_iS_old _ _ _ (by omega)).trans ((jrow_ne _ _ (by omega)).trans ((X3_init_iS_old _ _ _ (by omega)).trans ((jrow_ne _ _ (by omega)).trans ((X3_init_iS_old _ _ _ (by omega)).trans ((jrow_ne _ _ (by omega)).trans ((X3_init_iS_old _ _ _ (by omega)).trans ((jrow_ne _ _ (by omega)).trans ((X3_init_iS_old _ _ _ (by omega)).trans ((jrow_ne _ _ (by omega)).trans ((jrow_ne _ _ (by omega)).trans ((jrow_ne _ _ (by omega)).trans ((jrow_ne _ _ (by omega)).trans ((X5_init_iS_old _ _ _ (by omega)).trans ((jrow_ne _ _ (by omega)).trans ((X4_init_iS_old _ _ _ (by omega)).trans ((jrow_ne _ _ (by omega)).trans ((X4_init_iS_old _ _ _ (by omega)).trans ((jrow_ne _ _ (by omega)).trans ((X4_init_iS_old _ _ _ (by omega)).trans ((jrow_ne _ _ (by omega)).trans hs))))))))))))))))))))))))))) dX6_init_76 ?_
  refine J_eqr (y := (n + 144)) ((congrFun (jup_ne _ _ (by omega)) 5).trans ((congrFun (X3_init_iR_old _ _ _ _ (by omega) (by omega)) 5).trans ((congrFun (jup_ne _ _ (by omega)) 5).trans ((congrFun (X3_init_iR_old _ _ _ _ (by omega) (by omega)) 5).trans ((congrFun (jup_ne _ _ (by omega)) 5).trans ((congrFun (X3_init_iR_old _ _ _ _ (by omega) (by omega)) 5).trans ((congrFun (jup_ne _ _ (by omega)) 5).trans ((congrFun (X3_init_iR_old _ _ _ _ (by omega) (by omega)) 5).trans ((congrFun (jup_ne _ _ (by omega)) 5).trans ((congrFun (X3_init_iR_old _ _ _ _ (by omega) (by omega)) 5).trans ((congrFun (jup_ne _ _ (by omega)) 5).trans ((congrFun (X3_init_iR_old _ _ _ _ (by omega) (by omega)) 5).trans ((congrFun (jup_ne _ _ (by omega)) 5).trans ((congrFun (X3_init_iR_old _ _ _ _ (by omega) (by omega)) 5).trans ((congrFun (jup_ne _ _ (by omega)) 5).trans ((congrFun (X3_init_iR_old _ _ _ _ (by omega) (by omega)) 5).trans ((jup_ot _ _ _ (by decide)).trans ((jup_ot _ _ _ (by decide)).trans (jup_at _ _ _ _))))))))))))))))))) ?_
  refine J_alen (pc := 79) hX (v := (8 : Int32)) ((X3_init_iS_old _ _ _ (by omega)).trans ((jrow_ne _ _ (by omega)).trans ((X3_init_iS_old _ _ _ (by omega)).trans ((jrow_ne _ _ (by omega)).trans ((X3_init_iS_old _ _ _ (by omega)).trans ((jrow_ne _ _ (by omega)).trans ((X3_init_iS_old _ _ _ (by omega)).trans ((jrow_ne _ _ (by omega)).trans ((X3_init_iS_old _ _ _ (by omega)).trans ((jrow_ne _ _ (by omega)).trans ((X3_init_iS_old _ _ _ (by omega)).trans ((jrow_ne _ _ (by omega)).trans ((X3_init_iS_old _ _ _ (by omega)).trans ((jrow_ne _ _ (by omega)).trans ((X3_init_iS_old _ _ _ (by omega)).trans ((jrow_ne _ _ (by omega)).trans ((jrow_ne _ _ (by omega)).trans ((jrow_ne _ _ (by omega)).trans (jrow_self _ _ _))))))))))))))))))) (by decide) dX6_init_79 ?_
  refine J_icmp_ge_t (pc := 80) hX (tgt := 102) (by decide) (by decide) dX6_init_80 ?_
  exact J_vret (pc := 102) hX hQ dX6_init_102
def X7_init_iS (t n : Nat) (sh : jS) : jS := (jrow (jrow (jrow (jrow (jrow (jrow (jrow (jrow (jrow (jrow (jrow sh (n + 1) 1784) (n + 2) 1784) (n + 3) 1784) (n + 4) 1005) (n + 5) 1250) (n + 6) 1008) (n + 7) 1008) (n + 8) 3320) (n + 9) 3040) (n + 10) 2064) (n + 11) 1016)
def X7_init_iR (t n : Nat) (rf : jR) : jR := (jup (jup (jup (jup (jup (jup (jup (jup (jup (jup (jup rf t 0 (n + 1)) t 1 (n + 2)) t 2 (n + 3)) t 4 (n + 4)) t 7 (n + 5)) t 11 (n + 6)) t 12 (n + 7)) t 13 (n + 8)) t 14 (n + 9)) t 15 (n + 10)) t 19 (n + 11))
def X7_init_iI (t n : Nat) (I : jI) : jI := (jup (jup (jup (jup (jup (jup (jup (jup (jup (jup (jup (jup I (n + 6) 0 (-1 : Int32)) (n + 6) 1 (-1 : Int32)) (n + 6) 2 (-1 : Int32)) (n + 6) 3 (-1 : Int32)) (n + 6) 4 (-1 : Int32)) (n + 6) 5 (-1 : Int32)) (n + 6) 6 (-1 : Int32)) (n + 6) 7 (-1 : Int32)) (n + 1) 692 (50 : Int32)) (n + 1) 695 (-9 : Int32)) (n + 1) 699 (1 : Int32)) (n + 1) 701 (-1 : Int32))
theorem X7_init_iS_old (t n : Nat) (sh : jS) {r : Nat} (h : r ≤ n) : X7_init_iS t n sh r = sh r := by
  unfold X7_init_iS
  rw [jrow_ne _ _ (by omega)]
  rw [jrow_ne _ _ (by omega)]
  rw [jrow_ne _ _ (by omega)]
  rw [jrow_ne _ _ (by omega)]
  rw [jrow_ne _ _ (by omega)]
  rw [jrow_ne _ _ (by omega)]
  rw [jrow_ne _ _ (by omega)]
  rw [jrow_ne _ _ (by omega)]
  rw [jrow_ne _ _ (by omega)]
  rw [jrow_ne _ _ (by omega)]
  rw [jrow_ne _ _ (by omega)]

theorem X7_init_iS_new (t n : Nat) (sh : jS) {r : Nat} (h : n + 11 < r) : X7_init_iS t n sh r = sh r := by
  unfold X7_init_iS
  rw [jrow_ne _ _ (by omega)]
  rw [jrow_ne _ _ (by omega)]
  rw [jrow_ne _ _ (by omega)]
  rw [jrow_ne _ _ (by omega)]
  rw [jrow_ne _ _ (by omega)]
  rw [jrow_ne _ _ (by omega)]
  rw [jrow_ne _ _ (by omega)]
  rw [jrow_ne _ _ (by omega)]
  rw [jrow_ne _ _ (by omega)]
  rw [jrow_ne _ _ (by omega)]
  rw [jrow_ne _ _ (by omega)]

theorem X7_init_iR_big (t n : Nat) (rf : jR) (h : ∀ a k, 20 ≤ k → rf a k = 0) : ∀ a k, 20 ≤ k → X7_init_iR t n rf a k = 0 := (jup_big (jup_big (jup_big (jup_big (jup_big (jup_big (jup_big (jup_big (jup_big (jup_big (jup_big h (by decide)) (by decide)) (by decide)) (by decide)) (by decide)) (by decide)) (by decide)) (by decide)) (by decide)) (by decide)) (by decide))
theorem X7_init_iR_old (t n : Nat) (rf : jR) (a : Nat) (h : a ≠ t) (h2 : a ≤ n) : X7_init_iR t n rf a = rf a := by
  unfold X7_init_iR
  rw [jup_ne _ _ (by omega)]
  rw [jup_ne _ _ (by omega)]
  rw [jup_ne _ _ (by omega)]
  rw [jup_ne _ _ (by omega)]
  rw [jup_ne _ _ (by omega)]
  rw [jup_ne _ _ (by omega)]
  rw [jup_ne _ _ (by omega)]
  rw [jup_ne _ _ (by omega)]
  rw [jup_ne _ _ (by omega)]
  rw [jup_ne _ _ (by omega)]
  rw [jup_ne _ _ (by omega)]

theorem X7_init_iR_new (t n : Nat) (rf : jR) (ht : t ≤ n) (a : Nat) (h : n + 11 < a) : X7_init_iR t n rf a = rf a := by
  unfold X7_init_iR
  rw [jup_ne _ _ (by omega)]
  rw [jup_ne _ _ (by omega)]
  rw [jup_ne _ _ (by omega)]
  rw [jup_ne _ _ (by omega)]
  rw [jup_ne _ _ (by omega)]
  rw [jup_ne _ _ (by omega)]
  rw [jup_ne _ _ (by omega)]
  rw [jup_ne _ _ (by omega)]
  rw [jup_ne _ _ (by omega)]
  rw [jup_ne _ _ (by omega)]
  rw [jup_ne _ _ (by omega)]

theorem X7_init_iI_old (t n : Nat) (I : jI) (a : Nat) (h : a ≠ t) (h2 : a ≤ n) : X7_init_iI t n I a = I a := by
  unfold X7_init_iI
  rw [jup_ne _ _ (by omega)]
  rw [jup_ne _ _ (by omega)]
  rw [jup_ne _ _ (by omega)]
  rw [jup_ne _ _ (by omega)]
  rw [jup_ne _ _ (by omega)]
  rw [jup_ne _ _ (by omega)]
  rw [jup_ne _ _ (by omega)]
  rw [jup_ne _ _ (by omega)]
  rw [jup_ne _ _ (by omega)]
  rw [jup_ne _ _ (by omega)]
  rw [jup_ne _ _ (by omega)]
  rw [jup_ne _ _ (by omega)]

theorem X7_init_iI_new (t n : Nat) (I : jI) (ht : t ≤ n) (a : Nat) (h : n + 11 < a) : X7_init_iI t n I a = I a := by
  unfold X7_init_iI
  rw [jup_ne _ _ (by omega)]
  rw [jup_ne _ _ (by omega)]
  rw [jup_ne _ _ (by omega)]
  rw [jup_ne _ _ (by omega)]
  rw [jup_ne _ _ (by omega)]
  rw [jup_ne _ _ (by omega)]
  rw [jup_ne _ _ (by omega)]
  rw [jup_ne _ _ (by omega)]
  rw [jup_ne _ _ (by omega)]
  rw [jup_ne _ _ (by omega)]
  rw [jup_ne _ _ (by omega)]
  rw [jup_ne _ _ (by omega)]

set_option maxRecDepth 20000 in
set_option maxHeartbeats 8000000 in
theorem K_X7_init (Y : jY) (hz : Y.zf = true) (t n : Nat) (sh : jS) (rf : jR) (I : jI) (L : jL) (hs : sh t = 8) (htn : t ≤ n) (hzr : ∀ a, n < a → rf a = (fun _ => 0) ∧ I a = (fun _ => 0) ∧ L a = (fun _ => 0)) : jMet Y yX7_init cX7_init 1 none 1 80 11 3063 [jr t] n sh rf I L none (n + 11) (X7_init_iS t n sh) (X7_init_iR t n rf) (X7_init_iI t n I) L := by
  refine jmet_of (some ()) () rfl (fun Z _ => jQ Y Z 11 3063 none (n + 11) (X7_init_iS t n sh) (X7_init_iR t n rf) (X7_init_iI t n I) L) (fun _ => rfl) (by decide) (Nat.le_of_ble_eq_true rfl) (fun Z hX => ?_)
  have hX : jOK Y Z RX7 cX7_init 1 "<init>" none 1 80 11 3063 := hX
  obtain ⟨Qf, hQ⟩ : ∃ Qf : Unit → State → Prop, Qf () = jQ Y Z 11 3063 none (n + 11) (X7_init_iS t n sh) (X7_init_iR t n rf) (X7_init_iI t n I) L := ⟨fun _ => _, rfl⟩
  have hQ2 : (fun _ : Unit => jQ Y Z 11 3063 none (n + 11) (X7_init_iS t n sh) (X7_init_iR t n rf) (X7_init_iI t n I) L) = Qf := by funext u; exact hQ.symm
  show J Y Z 1 (fun _ : Unit => jQ Y Z 11 3063 none (n + 11) (X7_init_iS t n sh) (X7_init_iR t n rf) (X7_init_iI t n I) L) (some ()) 0 [(0, jr t)] [] 0 0 n sh rf I L
  rw [hQ2]
  clear hQ2
  refine J_aload_n (pc := 0) hX 0 rfl dX7_init_0 ?_
  refine J_objInit (pc := 1) hX (by rw [hs]; decide) o_X7_1 ⟨by decide, by decide⟩ (Nat.le_of_ble_eq_true rfl) dX7_init_1 ?_
  refine J_aload_n (pc := 4) hX 0 rfl dX7_init_4 ?_
  refine J_sipush (pc := 5) hX (v := (784 : Int32)) (by decide) dX7_init_5 ?_
  refine J_newa (pc := 8) (n := n) hX hz (t := 0) (N := 784) (atype := .int) (Or.inl ⟨rfl, rfl⟩) ⟨by decide, by decide, by decide⟩ n_arr0 (hzr (n + 1) (by omega)).2.1 (hzr (n + 1) (by omega)).2.2 ⟨by decide, by decide⟩ dX7_init_8 ?_
  refine pr_X7_7 (pc := 10) hX ((jrow_ne _ _ (by omega)).trans hs) (by rw [(jrow_self _ _ _)]; decide) dX7_init_10 ?_
  refine J_aload_n (pc := 13) hX 0 rfl dX7_init_13 ?_
  refine J_sipush (pc := 14) hX (v := (784 : Int32)) (by decide) dX7_init_14 ?_
  refine J_newa (pc := 17) (n := n + 1) hX hz (t := 0) (N := 784) (atype := .int) (Or.inl ⟨rfl, rfl⟩) ⟨by decide, by decide, by decide⟩ n_arr0 (hzr (n + 2) (by omega)).2.1 (hzr (n + 2) (by omega)).2.2 ⟨by decide, by decide⟩ dX7_init_17 ?_
  refine pr_X7_13 (pc := 19) hX ((jrow_ne _ _ (by omega)).trans ((jrow_ne _ _ (by omega)).trans hs)) (by rw [(jrow_self _ _ _)]; decide) dX7_init_19 ?_
  refine J_aload_n (pc := 22) hX 0 rfl dX7_init_22 ?_
  refine J_sipush (pc := 23) hX (v := (784 : Int32)) (by decide) dX7_init_23 ?_
  refine J_newa (pc := 26) (n := n + 2) hX hz (t := 0) (N := 784) (atype := .int) (Or.inl ⟨rfl, rfl⟩) ⟨by decide, by decide, by decide⟩ n_arr0 (hzr (n + 3) (by omega)).2.1 (hzr (n + 3) (by omega)).2.2 ⟨by decide, by decide⟩ dX7_init_26 ?_
  refine pr_X7_16 (pc := 28) hX ((jrow_ne _ _ (by omega)).trans ((jrow_ne _ _ (by omega)).trans ((jrow_ne _ _ (by omega)).trans hs))) (by rw [(jrow_self _ _ _)]; decide) dX7_init_28 ?_
  refine J_aload_n (pc := 31) hX 0 rfl dX7_init_31 ?_
  refine J_iconst (pc := 32) hX (v := (5 : Int32)) (by decide) dX7_init_32 ?_
  refine J_newa (pc := 33) (n := n + 3) hX hz (t := 0) (N := 5) (atype := .int) (Or.inl ⟨rfl, rfl⟩) ⟨by decide, by decide, by decide⟩ n_arr0 (hzr (n + 4) (by omega)).2.1 (hzr (n + 4) (by omega)).2.2 ⟨by decide, by decide⟩ dX7_init_33 ?_
  refine pr_X7_19 (pc := 35) hX ((jrow_ne _ _ (by omega)).trans ((jrow_ne _ _ (by omega)).trans ((jrow_ne _ _ (by omega)).trans ((jrow_ne _ _ (by omega)).trans hs)))) (by rw [(jrow_self _ _ _)]; decide) dX7_init_35 ?_
  refine J_aload_n (pc := 38) hX 0 rfl dX7_init_38 ?_
  refine J_sipush (pc := 39) hX (v := (250 : Int32)) (by decide) dX7_init_39 ?_
  refine J_newa (pc := 42) (n := n + 4) hX hz (t := 0) (N := 250) (atype := .int) (Or.inl ⟨rfl, rfl⟩) ⟨by decide, by decide, by decide⟩ n_arr0 (hzr (n + 5) (by omega)).2.1 (hzr (n + 5) (by omega)).2.2 ⟨by decide, by decide⟩ dX7_init_42 ?_
  refine pr_X7_22 (pc := 44) hX ((jrow_ne _ _ (by omega)).trans ((jrow_ne _ _ (by omega)).trans ((jrow_ne _ _ (by omega)).trans ((jrow_ne _ _ (by omega)).trans ((jrow_ne _ _ (by omega)).trans hs))))) (by rw [(jrow_self _ _ _)]; decide) dX7_init_44 ?_
  refine J_aload_n (pc := 47) hX 0 rfl dX7_init_47 ?_
  refine J_bipush (pc := 48) hX (v := (8 : Int32)) (by decide) dX7_init_48 ?_
  refine J_newa (pc := 50) (n := n + 5) hX hz (t := 0) (N := 8) (atype := .int) (Or.inl ⟨rfl, rfl⟩) ⟨by decide, by decide, by decide⟩ n_arr0 (hzr (n + 6) (by omega)).2.1 (hzr (n + 6) (by omega)).2.2 ⟨by decide, by decide⟩ dX7_init_50 ?_
  refine J_dup (pc := 52) hX rfl dX7_init_52 ?_
  refine J_iconst (pc := 53) hX (v := (0 : Int32)) (by decide) dX7_init_53 ?_
  refine J_iconst (pc := 54) hX (v := (-1 : Int32)) (by decide) dX7_init_54 ?_
  refine J_iastC (pc := 55) hX (N := 8) (j := 0) (jrow_self _ _ _) (by decide) (by decide) (by decide) dX7_init_55 ?_
  refine J_dup (pc := 56) hX rfl dX7_init_56 ?_
  refine J_iconst (pc := 57) hX (v := (1 : Int32)) (by decide) dX7_init_57 ?_
  refine J_iconst (pc := 58) hX (v := (-1 : Int32)) (by decide) dX7_init_58 ?_
  refine J_iastC (pc := 59) hX (N := 8) (j := 1) (jrow_self _ _ _) (by decide) (by decide) (by decide) dX7_init_59 ?_
  refine J_dup (pc := 60) hX rfl dX7_init_60 ?_
  refine J_iconst (pc := 61) hX (v := (2 : Int32)) (by decide) dX7_init_61 ?_
  refine J_iconst (pc := 62) hX (v := (-1 : Int32)) (by decide) dX7_init_62 ?_
  refine J_iastC (pc := 63) hX (N := 8) (j := 2) (jrow_self _ _ _) (by decide) (by decide) (by decide) dX7_init_63 ?_
  refine J_dup (pc := 64) hX rfl dX7_init_64 ?_
  refine J_iconst (pc := 65) hX (v := (3 : Int32)) (by decide) dX7_init_65 ?_
  refine J_iconst (pc := 66) hX (v := (-1 : Int32)) (by decide) dX7_init_66 ?_
  refine J_iastC (pc := 67) hX (N := 8) (j := 3) (jrow_self _ _ _) (by decide) (by decide) (by decide) dX7_init_67 ?_
  refine J_dup (pc := 68) hX rfl dX7_init_68 ?_
  refine J_iconst (pc := 69) hX (v := (4 : Int32)) (by decide) dX7_init_69 ?_
  refine J_iconst (pc := 70) hX (v := (-1 : Int32)) (by decide) dX7_init_70 ?_
  refine J_iastC (pc := 71) hX (N := 8) (j := 4) (jrow_self _ _ _) (by decide) (by decide) (by decide) dX7_init_71 ?_
  refine J_dup (pc := 72) hX rfl dX7_init_72 ?_
  refine J_iconst (pc := 73) hX (v := (5 : Int32)) (by decide) dX7_init_73 ?_
  refine J_iconst (pc := 74) hX (v := (-1 : Int32)) (by decide) dX7_init_74 ?_
  refine J_iastC (pc := 75) hX (N := 8) (j := 5) (jrow_self _ _ _) (by decide) (by decide) (by decide) dX7_init_75 ?_
  refine J_dup (pc := 76) hX rfl dX7_init_76 ?_
  refine J_bipush (pc := 77) hX (v := (6 : Int32)) (by decide) dX7_init_77 ?_
  refine J_iconst (pc := 79) hX (v := (-1 : Int32)) (by decide) dX7_init_79 ?_
  refine J_iastC (pc := 80) hX (N := 8) (j := 6) (jrow_self _ _ _) (by decide) (by decide) (by decide) dX7_init_80 ?_
  refine J_dup (pc := 81) hX rfl dX7_init_81 ?_
  refine J_bipush (pc := 82) hX (v := (7 : Int32)) (by decide) dX7_init_82 ?_
  refine J_iconst (pc := 84) hX (v := (-1 : Int32)) (by decide) dX7_init_84 ?_
  refine J_iastC (pc := 85) hX (N := 8) (j := 7) (jrow_self _ _ _) (by decide) (by decide) (by decide) dX7_init_85 ?_
  refine pr_X7_25 (pc := 86) hX ((jrow_ne _ _ (by omega)).trans ((jrow_ne _ _ (by omega)).trans ((jrow_ne _ _ (by omega)).trans ((jrow_ne _ _ (by omega)).trans ((jrow_ne _ _ (by omega)).trans ((jrow_ne _ _ (by omega)).trans hs)))))) (by rw [(jrow_self _ _ _)]; decide) dX7_init_86 ?_
  refine J_aload_n (pc := 89) hX 0 rfl dX7_init_89 ?_
  refine J_bipush (pc := 90) hX (v := (8 : Int32)) (by decide) dX7_init_90 ?_
  refine J_newa (pc := 92) (n := n + 6) hX hz (t := 0) (N := 8) (atype := .int) (Or.inl ⟨rfl, rfl⟩) ⟨by decide, by decide, by decide⟩ n_arr0 ((jup_ne _ _ (by omega)).trans ((jup_ne _ _ (by omega)).trans ((jup_ne _ _ (by omega)).trans ((jup_ne _ _ (by omega)).trans ((jup_ne _ _ (by omega)).trans ((jup_ne _ _ (by omega)).trans ((jup_ne _ _ (by omega)).trans ((jup_ne _ _ (by omega)).trans (hzr (n + 7) (by omega)).2.1)))))))) (hzr (n + 7) (by omega)).2.2 ⟨by decide, by decide⟩ dX7_init_92 ?_
  refine pr_X7_28 (pc := 94) hX ((jrow_ne _ _ (by omega)).trans ((jrow_ne _ _ (by omega)).trans ((jrow_ne _ _ (by omega)).trans ((jrow_ne _ _ (by omega)).trans ((jrow_ne _ _ (by omega)).trans ((jrow_ne _ _ (by omega)).trans ((jrow_ne _ _ (by omega)).trans hs))))))) (by rw [(jrow_self _ _ _)]; decide) dX7_init_94 ?_
  refine J_aload_n (pc := 97) hX 0 rfl dX7_init_97 ?_
  refine J_sipush (pc := 98) hX (v := (320 : Int32)) (by decide) dX7_init_98 ?_
  refine J_newa (pc := 101) (n := n + 7) hX hz (t := 2) (N := 320) (atype := .long) (Or.inr (Or.inr ⟨rfl, rfl⟩)) ⟨by decide, by decide, by decide⟩ n_arr2 ((jup_ne _ _ (by omega)).trans ((jup_ne _ _ (by omega)).trans ((jup_ne _ _ (by omega)).trans ((jup_ne _ _ (by omega)).trans ((jup_ne _ _ (by omega)).trans ((jup_ne _ _ (by omega)).trans ((jup_ne _ _ (by omega)).trans ((jup_ne _ _ (by omega)).trans (hzr (n + 8) (by omega)).2.1)))))))) (hzr (n + 8) (by omega)).2.2 ⟨by decide, by decide⟩ dX7_init_101 ?_
  refine pr_X7_31 (pc := 103) hX ((jrow_ne _ _ (by omega)).trans ((jrow_ne _ _ (by omega)).trans ((jrow_ne _ _ (by omega)).trans ((jrow_ne _ _ (by omega)).trans ((jrow_ne _ _ (by omega)).trans ((jrow_ne _ _ (by omega)).trans ((jrow_ne _ _ (by omega)).trans ((jrow_ne _ _ (by omega)).trans hs)))))))) (by rw [(jrow_self _ _ _)]; decide) dX7_init_103 ?_
  refine J_aload_n (pc := 106) hX 0 rfl dX7_init_106 ?_
  refine J_bipush (pc := 107) hX (v := (40 : Int32)) (by decide) dX7_init_107 ?_
  refine J_newa (pc := 109) (n := n + 8) hX hz (t := 2) (N := 40) (atype := .long) (Or.inr (Or.inr ⟨rfl, rfl⟩)) ⟨by decide, by decide, by decide⟩ n_arr2 ((jup_ne _ _ (by omega)).trans ((jup_ne _ _ (by omega)).trans ((jup_ne _ _ (by omega)).trans ((jup_ne _ _ (by omega)).trans ((jup_ne _ _ (by omega)).trans ((jup_ne _ _ (by omega)).trans ((jup_ne _ _ (by omega)).trans ((jup_ne _ _ (by omega)).trans (hzr (n + 9) (by omega)).2.1)))))))) (hzr (n + 9) (by omega)).2.2 ⟨by decide, by decide⟩ dX7_init_109 ?_
  refine pr_X7_35 (pc := 111) hX ((jrow_ne _ _ (by omega)).trans ((jrow_ne _ _ (by omega)).trans ((jrow_ne _ _ (by omega)).trans ((jrow_ne _ _ (by omega)).trans ((jrow_ne _ _ (by omega)).trans ((jrow_ne _ _ (by omega)).trans ((jrow_ne _ _ (by omega)).trans ((jrow_ne _ _ (by omega)).trans ((jrow_ne _ _ (by omega)).trans hs))))))))) (by rw [(jrow_self _ _ _)]; decide) dX7_init_111 ?_
  refine J_aload_n (pc := 114) hX 0 rfl dX7_init_114 ?_
  refine J_bipush (pc := 115) hX (v := (64 : Int32)) (by decide) dX7_init_115 ?_
  refine J_newa (pc := 117) (n := n + 9) hX hz (t := 1) (N := 64) (atype := .boolean) (Or.inr (Or.inl ⟨rfl, rfl⟩)) ⟨by decide, by decide, by decide⟩ n_arr1 ((jup_ne _ _ (by omega)).trans ((jup_ne _ _ (by omega)).trans ((jup_ne _ _ (by omega)).trans ((jup_ne _ _ (by omega)).trans ((jup_ne _ _ (by omega)).trans ((jup_ne _ _ (by omega)).trans ((jup_ne _ _ (by omega)).trans ((jup_ne _ _ (by omega)).trans (hzr (n + 10) (by omega)).2.1)))))))) (hzr (n + 10) (by omega)).2.2 ⟨by decide, by decide⟩ dX7_init_117 ?_
  refine pr_X7_38 (pc := 119) hX ((jrow_ne _ _ (by omega)).trans ((jrow_ne _ _ (by omega)).trans ((jrow_ne _ _ (by omega)).trans ((jrow_ne _ _ (by omega)).trans ((jrow_ne _ _ (by omega)).trans ((jrow_ne _ _ (by omega)).trans ((jrow_ne _ _ (by omega)).trans ((jrow_ne _ _ (by omega)).trans ((jrow_ne _ _ (by omega)).trans ((jrow_ne _ _ (by omega)).trans hs)))))))))) (by rw [(jrow_self _ _ _)]; decide) dX7_init_119 ?_
  refine J_aload_n (pc := 122) hX 0 rfl dX7_init_122 ?_
  refine J_bipush (pc := 123) hX (v := (16 : Int32)) (by decide) dX7_init_123 ?_
  refine J_newa (pc := 125) (n := n + 10) hX hz (t := 0) (N := 16) (atype := .int) (Or.inl ⟨rfl, rfl⟩) ⟨by decide, by decide, by decide⟩ n_arr0 ((jup_ne _ _ (by omega)).trans ((jup_ne _ _ (by omega)).trans ((jup_ne _ _ (by omega)).trans ((jup_ne _ _ (by omega)).trans ((jup_ne _ _ (by omega)).trans ((jup_ne _ _ (by omega)).trans ((jup_ne _ _ (by omega)).trans ((jup_ne _ _ (by omega)).trans (hzr (n + 11) (by omega)).2.1)))))))) (hzr (n + 11) (by omega)).2.2 ⟨by decide, by decide⟩ dX7_init_125 ?_
  refine pr_X7_42 (pc := 127) hX ((jrow_ne _ _ (by omega)).trans ((jrow_ne _ _ (by omega)).trans ((jrow_ne _ _ (by omega)).trans ((jrow_ne _ _ (by omega)).trans ((jrow_ne _ _ (by omega)).trans ((jrow_ne _ _ (by omega)).trans ((jrow_ne _ _ (by omega)).trans ((jrow_ne _ _ (by omega)).trans ((jrow_ne _ _ (by omega)).trans ((jrow_ne _ _ (by omega)).trans ((jrow_ne _ _ (by omega)).trans hs))))))))))) (by rw [(jrow_self _ _ _)]; decide) dX7_init_127 ?_
  refine J_aload_n (pc := 130) hX 0 rfl dX7_init_130 ?_
  refine g_X7_7 (pc := 131) hX ((jrow_ne _ _ (by omega)).trans ((jrow_ne _ _ (by omega)).trans ((jrow_ne _ _ (by omega)).trans ((jrow_ne _ _ (by omega)).trans ((jrow_ne _ _ (by omega)).trans ((jrow_ne _ _ (by omega)).trans ((jrow_ne _ _ (by omega)).trans ((jrow_ne _ _ (by omega)).trans ((jrow_ne _ _ (by omega)).trans ((jrow_ne _ _ (by omega)).trans ((jrow_ne _ _ (by omega)).trans hs))))))))))) dX7_init_131 ?_
  refine J_eqr (y := (n + 1)) ((jup_ot _ _ _ (by decide)).trans ((jup_ot _ _ _ (by decide)).trans ((jup_ot _ _ _ (by decide)).trans ((jup_ot _ _ _ (by decide)).trans ((jup_ot _ _ _ (by decide)).trans ((jup_ot _ _ _ (by decide)).trans ((jup_ot _ _ _ (by decide)).trans ((jup_ot _ _ _ (by decide)).trans ((jup_ot _ _ _ (by decide)).trans ((jup_ot _ _ _ (by decide)).trans (jup_at _ _ _ _))))))))))) ?_
  refine J_sipush (pc := 134) hX (v := (692 : Int32)) (by decide) dX7_init_134 ?_
  refine J_bipush (pc := 137) hX (v := (50 : Int32)) (by decide) dX7_init_137 ?_
  refine J_iastC (pc := 139) hX (N := 784) (j := 692) ((jrow_ne _ _ (by omega)).trans ((jrow_ne _ _ (by omega)).trans ((jrow_ne _ _ (by omega)).trans ((jrow_ne _ _ (by omega)).trans ((jrow_ne _ _ (by omega)).trans ((jrow_ne _ _ (by omega)).trans ((jrow_ne _ _ (by omega)).trans ((jrow_ne _ _ (by omega)).trans ((jrow_ne _ _ (by omega)).trans ((jrow_ne _ _ (by omega)).trans (jrow_self _ _ _))))))))))) (by decide) (by decide) (by decide) dX7_init_139 ?_
  refine J_aload_n (pc := 140) hX 0 rfl dX7_init_140 ?_
  refine g_X7_7 (pc := 141) hX ((jrow_ne _ _ (by omega)).trans ((jrow_ne _ _ (by omega)).trans ((jrow_ne _ _ (by omega)).trans ((jrow_ne _ _ (by omega)).trans ((jrow_ne _ _ (by omega)).trans ((jrow_ne _ _ (by omega)).trans ((jrow_ne _ _ (by omega)).trans ((jrow_ne _ _ (by omega)).trans ((jrow_ne _ _ (by omega)).trans ((jrow_ne _ _ (by omega)).trans ((jrow_ne _ _ (by omega)).trans hs))))))))))) dX7_init_141 ?_
  refine J_eqr (y := (n + 1)) ((jup_ot _ _ _ (by decide)).trans ((jup_ot _ _ _ (by decide)).trans ((jup_ot _ _ _ (by decide)).trans ((jup_ot _ _ _ (by decide)).trans ((jup_ot _ _ _ (by decide)).trans ((jup_ot _ _ _ (by decide)).trans ((jup_ot _ _ _ (by decide)).trans ((jup_ot _ _ _ (by decide)).trans ((jup_ot _ _ _ (by decide)).trans ((jup_ot _ _ _ (by decide)).trans (jup_at _ _ _ _))))))))))) ?_
  refine J_sipush (pc := 144) hX (v := (695 : Int32)) (by decide) dX7_init_144 ?_
  refine J_bipush (pc := 147) hX (v := (-9 : Int32)) (by decide) dX7_init_147 ?_
  refine J_iastC (pc := 149) hX (N := 784) (j := 695) ((jrow_ne _ _ (by omega)).trans ((jrow_ne _ _ (by omega)).trans ((jrow_ne _ _ (by omega)).trans ((jrow_ne _ _ (by omega)).trans ((jrow_ne _ _ (by omega)).trans ((jrow_ne _ _ (by omega)).trans ((jrow_ne _ _ (by omega)).trans ((jrow_ne _ _ (by omega)).trans ((jrow_ne _ _ (by omega)).trans ((jrow_ne _ _ (by omega)).trans (jrow_self _ _ _))))))))))) (by decide) (by decide) (by decide) dX7_init_149 ?_
  refine J_aload_n (pc := 150) hX 0 rfl dX7_init_150 ?_
  refine g_X7_7 (pc := 151) hX ((jrow_ne _ _ (by omega)).trans ((jrow_ne _ _ (by omega)).trans ((jrow_ne _ _ (by omega)).trans ((jrow_ne _ _ (by omega)).trans ((jrow_ne _ _ (by omega)).trans ((jrow_ne _ _ (by omega)).trans ((jrow_ne _ _ (by omega)).trans ((jrow_ne _ _ (by omega)).trans ((jrow_ne _ _ (by omega)).trans ((jrow_ne _ _ (by omega)).trans ((jrow_ne _ _ (by omega)).trans hs))))))))))) dX7_init_151 ?_
  refine J_eqr (y := (n + 1)) ((jup_ot _ _ _ (by decide)).trans ((jup_ot _ _ _ (by decide)).trans ((jup_ot _ _ _ (by decide)).trans ((jup_ot _ _ _ (by decide)).trans ((jup_ot _ _ _ (by decide)).trans ((jup_ot _ _ _ (by decide)).trans ((jup_ot _ _ _ (by decide)).trans ((jup_ot _ _ _ (by decide)).trans ((jup_ot _ _ _ (by decide)).trans ((jup_ot _ _ _ (by decide)).trans (jup_at _ _ _ _))))))))))) ?_
  refine J_sipush (pc := 154) hX (v := (699 : Int32)) (by decide) dX7_init_154 ?_
  refine J_iconst (pc := 157) hX (v := (1 : Int32)) (by decide) dX7_init_157 ?_
  refine J_iastC (pc := 158) hX (N := 784) (j := 699) ((jrow_ne _ _ (by omega)).trans ((jrow_ne _ _ (by omega)).trans ((jrow_ne _ _ (by omega)).trans ((jrow_ne _ _ (by omega)).trans ((jrow_ne _ _ (by omega)).trans ((jrow_ne _ _ (by omega)).trans ((jrow_ne _ _ (by omega)).trans ((jrow_ne _ _ (by omega)).trans ((jrow_ne _ _ (by omega)).trans ((jrow_ne _ _ (by omega)).trans (jrow_self _ _ _))))))))))) (by decide) (by decide) (by decide) dX7_init_158 ?_
  refine J_aload_n (pc := 159) hX 0 rfl dX7_init_159 ?_
  refine g_X7_7 (pc := 160) hX ((jrow_ne _ _ (by omega)).trans ((jrow_ne _ _ (by omega)).trans ((jrow_ne _ _ (by omega)).trans ((jrow_ne _ _ (by omega)).trans ((jrow_ne _ _ (by omega)).trans ((jrow_ne _ _ (by omega)).trans ((jrow_ne _ _ (by omega)).trans ((jrow_ne _ _ (by omega)).trans ((jrow_ne _ _ (by omega)).trans ((jrow_ne _ _ (by omega)).trans ((jrow_ne _ _ (by omega)).trans hs))))))))))) dX7_init_160 ?_
  refine J_eqr (y := (n + 1)) ((jup_ot _ _ _ (by decide)).trans ((jup_ot _ _ _ (by decide)).trans ((jup_ot _ _ _ (by decide)).trans ((jup_ot _ _ _ (by decide)).trans ((jup_ot _ _ _ (by decide)).trans ((jup_ot _ _ _ (by decide)).trans ((jup_ot _ _ _ (by decide)).trans ((jup_ot _ _ _ (by decide)).trans ((jup_ot _ _ _ (by decide)).trans ((jup_ot _ _ _ (by decide)).trans (jup_at _ _ _ _))))))))))) ?_
  refine J_sipush (pc := 163) hX (v := (701 : Int32)) (by decide) dX7_init_163 ?_
  refine J_iconst (pc := 166) hX (v := (-1 : Int32)) (by decide) dX7_init_166 ?_
  refine J_iastC (pc := 167) hX (N := 784) (j := 701) ((jrow_ne _ _ (by omega)).trans ((jrow_ne _ _ (by omega)).trans ((jrow_ne _ _ (by omega)).trans ((jrow_ne _ _ (by omega)).trans ((jrow_ne _ _ (by omega)).trans ((jrow_ne _ _ (by omega)).trans ((jrow_ne _ _ (by omega)).trans ((jrow_ne _ _ (by omega)).trans ((jrow_ne _ _ (by omega)).trans ((jrow_ne _ _ (by omega)).trans (jrow_self _ _ _))))))))))) (by decide) (by decide) (by decide) dX7_init_167 ?_
  exact J_vret (pc := 168) hX hQ dX7_init_168
