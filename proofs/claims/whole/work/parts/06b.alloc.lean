section ALLOC
variable {ρ : Type} {Y : jY} {Z : jZ} {nL : Nat} {Qf : ρ → State → Prop} {k : Option ρ} {pc : Nat} {lo lo' : List (Nat × jV)} {st rest : List jV} {cs ss n : Nat} {sh : jS} {rf : jR} {I : jI} {L : jL} {own nm : String} {cc : ByteArray} {ret : Option FieldType} {fr lw mcX msX : Nat}
/-- a world with one cell more behind it -/
theorem jW.push {D : va_G} {tc : Nat → ClassId} {b n : Nat} {sh : jS} {rf : jR} {I : jI} {L : jL} {H H1 : Heap} (h : jW D tc b n sh rf I L H) (hz : H.size = b + 1 + n) {c : Nat} (hc : c ≠ 0) (ho : ∀ q, q < H.size → H1[q]? = H[q]?)
    (hn : va_at D vwCl (b + (n + 1), jcell tc b c (rf (n + 1)) (I (n + 1)) (L (n + 1))) H1) : jW D tc b (n + 1) (jrow sh (n + 1) c) rf I L H1 := by
  refine ⟨fun r => ?_, fun r hr => ?_⟩
  · unfold jrow
    split
    · next e => subst e; exact ⟨fun _ => ⟨by omega, by omega⟩, fun _ => hc⟩
    · next e => rw [h.1 r]; omega
  · by_cases e : r = n + 1
    · subst e
      rw [jrow_self]
      exact hn
    · rw [jrow_ne _ _ e] at hr ⊢
      exact (h.2 r hr).kept (ho _ (by have := (h.1 r).mp hr; show b + r < H.size; omega))
theorem jfs_zero (b ci : Nat) : jfs b ci (fun _ => 0) (fun _ => 0) = (List.range (jfn ci)).map (fun k => if jfr ci k = true then Value.null else .int 0) := by
  unfold jfs
  apply List.map_congr_left
  intro k _
  split <;> rfl
theorem J_new {idx ci N : Nat} {C : String} {T : u_T} {ty0 : Nat → FieldType} (hX : jOK Y Z own cc nL nm ret fr lw mcX msX) (hz : Y.zf = true) (hc : vwCl[ci]? = some (C, T, N)) (hin : ∀ w ∈ u_ws C T N, w ∈ wsU) (hty : ∀ k, k < N → parseFieldDescriptor (T k).2.2.1 = some (ty0 k)) (hci : ci + 1 < 1000)
    (hw : Cond.classLink own idx C ∈ wsU ∧ Cond.instantiable C N ∈ wsU ∧ Cond.initialized C ∈ wsU) (hfs : ∀ j, j < N → defaultValue (ty0 j) = vp_V ((List.range (jfn ci)).map (fun k => if jfr ci k = true then Value.null else .int 0)) j) (hR : rf (n + 1) = fun _ => 0) (hI : I (n + 1) = fun _ => 0) (hcel : cs + 1 ≤ mcX ∧ ss + N ≤ msX) (hd : decode cc pc = .ok (.new idx, 3))
    (kk : J Y Z nL Qf k (pc + 3) lo (jr (n + 1) :: rest) (cs + 1) (ss + N) (n + 1) (jrow sh (n + 1) (ci + 1)) rf I L) : J Y Z nL Qf k pc lo rest cs ss n sh rf I L := by
  intro r hr ls H locs hl hW
  have h := fun H1 hH => kk r hr ls H1 locs hl hH
  obtain ⟨hx, hb, hml, hown, hts, -, -, -, hK, hU, hb1, hfr, hlw, hmc, hms⟩ := hX
  have hKn := hK.1 ci _ hc
  have hsz := hW.2.2 hz
  refine W.newcK hx hb hown (hts _ hw.1) (hts _ hw.2.1) (hts _ hw.2.2) rfl hd (Nat.le_trans hcel.1 hmc) (Nat.le_trans hcel.2 hms) hKn.2.1 rfl fun H1 kC hkC e1 z1 o1 => ?_
  have e0 : jref Y.b (n + 1) = .ref H.size := by rw [jref_nz _ (Nat.succ_ne_zero n), show H.size = Y.b + (n + 1) by omega]
  have h2 := h H1 ⟨hW.1.push hsz (c := ci + 1) (by omega) o1 ?_, ⟨Nat.le_trans hW.2.1.1 (by omega), fun q g1 g2 => (o1 q (Nat.lt_of_lt_of_le g1 hW.2.1.1)).trans (hW.2.1.2.1 q g1 g2), hW.2.1.2.2⟩, fun _ => by omega⟩
  · have e3 : (jr (n + 1) :: rest).map (jval Y.b) = Value.ref H.size :: rest.map (jval Y.b) := by rw [← e0]; rfl
    rw [e3] at h2
    exact h2
  · rw [jcell_o hci, hR, hI]
    have e4 : Y.b + (n + 1) = H.size := by omega
    rw [e4]
    refine ⟨_, hc, ?_⟩
    have h9 := (u_born ty0 hts hin hKn hkC e1 hty).to hfs
    show t_OB H.size (Y.D.1 ci) N (Y.D.2 ci) H1 (vp_V (jfs Y.b ci (fun _ => 0) (fun _ => 0)))
    rw [jfs_zero]
    exact h9
theorem jarr_zero (cA : ClassId) (N : Nat) : arrV cA N (fun _ => defaultValue .int) = vp_cell cA (N, .inl (fun _ => 0)) := rfl
theorem J_newa {t N : Nat} {i : Int32} {atype : ArrayType} (hX : jOK Y Z own cc nL nm ret fr lw mcX msX) (hz : Y.zf = true) (ht : (atype = .int ∧ t = 0) ∨ (atype = .boolean ∧ t = 1) ∨ (atype = .long ∧ t = 2)) (hi : i.toNatClampNeg = N ∧ ¬ i < 0 ∧ N < 1000) (hw : Cond.arrayClass (newarray.typeOf atype) ∈ wsU) (hI : I (n + 1) = fun _ => 0) (hL : L (n + 1) = fun _ => 0) (hcel : cs + 1 ≤ mcX ∧ ss + N ≤ msX) (hd : decode cc pc = .ok (.newarray atype, 2))
    (kk : J Y Z nL Qf k (pc + 2) lo (jr (n + 1) :: rest) (cs + 1) (ss + N) (n + 1) (jrow sh (n + 1) (1000 * (t + 1) + N)) rf I L) : J Y Z nL Qf k pc lo (ji i :: rest) cs ss n sh rf I L := by
  intro r hr ls H locs hl hW
  have h := fun H1 hH => kk r hr ls H1 locs hl hH
  obtain ⟨hx, hb, hml, hown, hts, -, -, -, hK, hU, hb1, hfr, hlw, hmc, hms⟩ := hX
  have hsz := hW.2.2 hz
  refine va_newaK hx hb (hts _ hw) rfl hd rfl hi.2.1 hi.1 (by rcases ht with ⟨rfl, -⟩ | ⟨rfl, -⟩ | ⟨rfl, -⟩ <;> (simp only [newarray.typeOf, componentBytes]; omega)) (Nat.le_trans hcel.1 hmc) (Nat.le_trans hcel.2 hms) rfl fun H1 cA e1 z1 o1 hAr hNm => ?_
  have e0 : jref Y.b (n + 1) = .ref H.size := by rw [jref_nz _ (Nat.succ_ne_zero n), show H.size = Y.b + (n + 1) by omega]
  have h2 := h H1 ⟨hW.1.push hsz (c := 1000 * (t + 1) + N) (by omega) o1 ?_, ⟨Nat.le_trans hW.2.1.1 (by omega), fun q g1 g2 => (o1 q (Nat.lt_of_lt_of_le g1 hW.2.1.1)).trans (hW.2.1.2.1 q g1 g2), hW.2.1.2.2⟩, fun _ => by omega⟩
  · have e3 : (jr (n + 1) :: rest).map (jval Y.b) = Value.ref H.size :: rest.map (jval Y.b) := by rw [← e0]; rfl
    rw [e3] at h2
    exact h2
  · have e4 : Y.b + (n + 1) = H.size := by omega
    rw [e4]
    have hm : (1000 * (t + 1) + N) % 1000 = N := by omega
    have hd1 : (1000 * (t + 1) + N) / 1000 = t + 1 := by omega
    rcases ht with ⟨rfl, rfl⟩ | ⟨rfl, rfl⟩ | ⟨rfl, rfl⟩
    · rw [jcell_i hd1, hm, hI]
      have hcA : cA = Y.tc 0 := Option.some.inj (hNm.symm.trans (hK.2 0 _ rfl).2)
      subst hcA
      exact e1
    · rw [jcell_z hd1, hm, hI]
      have hcA : cA = Y.tc 1 := Option.some.inj (hNm.symm.trans (hK.2 1 _ rfl).2)
      subst hcA
      exact e1
    · rw [jcell_l hd1, hm, hL]
      have hcA : cA = Y.tc 2 := Option.some.inj (hNm.symm.trans (hK.2 2 _ rfl).2)
      subst hcA
      exact e1
theorem J_anew {idx t N : Nat} {i : Int32} {C : String} (hX : jOK Y Z own cc nL nm ret fr lw mcX msX) (hz : Y.zf = true) (ht : (jtys Y.tc)[t + 3]? = some (Y.tc (t + 3), .object C)) (hi : i.toNatClampNeg = N ∧ ¬ i < 0 ∧ N < 1000) (hw : Cond.classLink own idx C ∈ wsU) (hover : ∀ {U : State} {H : Heap}, jU Y U H → va_AO C U) (hR : rf (n + 1) = fun _ => 0) (hcel : cs + 1 ≤ mcX ∧ ss + N ≤ msX) (hd : decode cc pc = .ok (.anewarray idx, 3))
    (kk : J Y Z nL Qf k (pc + 3) lo (jr (n + 1) :: rest) (cs + 1) (ss + N) (n + 1) (jrow sh (n + 1) (1000 * (t + 4) + N)) rf I L) : J Y Z nL Qf k pc lo (ji i :: rest) cs ss n sh rf I L := by
  intro r hr ls H locs hl hW
  have h := fun H1 hH => kk r hr ls H1 locs hl hH
  obtain ⟨hx, hb, hml, hown, hts, -, -, -, hK, hU, hb1, hfr, hlw, hmc, hms⟩ := hX
  have hsz := hW.2.2 hz
  obtain ⟨hi1, hi2, hi3⟩ := hi
  subst hi1
  refine W.anew hx hb hown (hts _ hw) (va_AO.use (hover hU)) rfl hd rfl hi2 (by omega) (Nat.le_trans hcel.1 hmc) (Nat.le_trans hcel.2 hms) fun cA kA comp f1 f2 f3 f4 => ?_
  generalize hH1 : H.push ({ cls := cA, slots := Array.replicate i.toNatClampNeg .null, vm := .none } : Cell) = H1
  have z1 : H1.size = H.size + 1 := by rw [← hH1, Array.size_push]
  have e1 : H1[H.size]? = some (arrV cA i.toNatClampNeg (fun _ => .null)) := by rw [← hH1, Array.getElem?_push_size, ← arrV_new]
  have o1 : ∀ q : Nat, q < H.size → H1[q]? = H[q]? := fun q hq => by rw [← hH1, Array.getElem?_push, if_neg (Nat.ne_of_lt hq)]
  have e0 : jref Y.b (n + 1) = .ref H.size := by rw [jref_nz _ (Nat.succ_ne_zero n), show H.size = Y.b + (n + 1) by omega]
  have h2 := h H1 ⟨hW.1.push hsz (c := 1000 * (t + 4) + i.toNatClampNeg) (by omega) o1 ?_, ⟨Nat.le_trans hW.2.1.1 (by omega), fun q g1 g2 => (o1 q (Nat.lt_of_lt_of_le g1 hW.2.1.1)).trans (hW.2.1.2.1 q g1 g2), hW.2.1.2.2⟩, fun _ => by omega⟩
  · have e3 : (jr (n + 1) :: rest).map (jval Y.b) = Value.ref H.size :: rest.map (jval Y.b) := by rw [← e0]; rfl
    rw [e3] at h2
    exact h2
  · have e4 : Y.b + (n + 1) = H.size := by omega
    rw [e4]
    have hm : (1000 * (t + 4) + i.toNatClampNeg) % 1000 = i.toNatClampNeg := by omega
    have hd1 : (1000 * (t + 4) + i.toNatClampNeg) / 1000 = t + 4 := by omega
    rw [jcell_q t hd1, hm, hR]
    obtain ⟨kA2, comp2, g1, g2, g3, g4⟩ := (hK.2 (t + 3) _ ht).2
    have hcA : cA = Y.tc (t + 3) := Option.some.inj (f1.symm.trans g4)
    subst hcA
    exact e1
theorem J_aast {r c N t x ci : Nat} {i : Int32} {q : vw_C} (hX : jOK Y Z own cc nL nm ret fr lw mcX msX) (hs : sh r = c) (hc : c / 1000 = t + 4 ∧ c % 1000 = N) (hx0 : sh x = ci + 1) (hci : ci + 1 < 1000) (hcl : vwCl[ci]? = some q) (ht : (jtys Y.tc)[t + 3]? = some (Y.tc (t + 3), .object q.1)) (hi : jin i N) (hd : decode cc pc = .ok (.aastore, 1))
    (kk : J Y Z nL Qf k (pc + 1) lo rest cs ss n sh (jup rf r i.toNatClampNeg x) I L) : J Y Z nL Qf k pc lo (jr x :: ji i :: jr r :: rest) cs ss n sh rf I L := by
  intro r' hr ls H locs hl hW
  have h := fun H1 locs1 hH => kk r' hr ls H1 locs1 hl hH
  obtain ⟨hx, hb, hml, hown, hts, -, -, -, hK, hU, hb1, hfr, hlw, hmc, hms⟩ := hX
  have hr0 : sh r ≠ 0 := by omega
  have hxx : sh x ≠ 0 := by omega
  have hat := hW.1.2 r hr0
  rw [hs, jcell_q t hc.1, hc.2] at hat
  have hat : H[Y.b + r]? = some (vp_cell (Y.tc (t + 3)) (N, .inr (.inr (.inr (.inr (jopt Y.b (rf r))))))) := hat
  have hav := hW.1.2 x hxx
  rw [hx0, jcell_o hci] at hav
  obtain ⟨rr, hrr, cellV, g1, g2, g3, -⟩ := hav
  have hrb := (hW.1.1 r).mp hr0
  have hxb := (hW.1.1 x).mp hxx
  have hcls := (hK.1 ci q hcl).2
  obtain ⟨kA, comp, k1, k2, k3, -⟩ := (hK.2 (t + 3) _ ht).2
  have hcomp : comp = Y.D.1 ci := Option.some.inj (k3.symm.trans hcls.1)
  subst hcomp
  obtain ⟨kC, hkC, -⟩ := hcls.2
  show W Z.p Y.l Z.e Z.R Z.s Z.m Z.a Z.w Z.meth Z.c H locs cs ss (Qf r') (F0 Z.m pc ls (jref Y.b x :: .int i :: jref Y.b r :: rest.map (jval Y.b)))
  rw [jref_nz _ (show r ≠ 0 by omega), jref_nz _ (show x ≠ 0 by omega)]
  refine W.aast hx hb hat (fun q h => by cases h) (fun h => by cases h) k1 k2 rfl hkC ⟨fun z => (jin_vp hi) (Or.inl z), by show _ < (arrV _ _ _).slots.size; rw [arrV_size]; exact jin_lt hi⟩ g1 (fun q h => by rw [g3] at h; cases h) (by rw [g2]; exact hkC) (by rw [g2]; exact va_assign hcls) rfl rfl hd fun H1 e z oq => ?_
  refine h H1 _ ⟨hW.1.put (r := r) ?_ oq (fun a ha => ⟨jup_ne _ _ ha, rfl, rfl⟩), hW.2.1.put z oq (by show Y.b + 1 ≤ Y.b + r; omega), fun zz => by rw [z]; exact hW.2.2 zz⟩
  rw [hs, jcell_q t hc.1, hc.2, jup_self]
  show H1[Y.b + r]? = some (vp_cell _ _)
  rw [e, vp_cell_q, vp_cell_q, arrV_store]
  congr 2
  funext q
  by_cases hq : q = i.toNatClampNeg
  · subst hq
    have hx9 : x ≠ 0 := by omega
    simp [updV, ju1, jopt, va_rf, hx9]
  · simp [updV, ju1, jopt, hq]
theorem J_zf {cs2 : Nat} (kk : J (Y.1, Y.2.1, Y.2.2.1, Y.2.2.2.1, Y.2.2.2.2.1, false) Z nL Qf k pc lo st cs ss n sh rf I L) : J Y Z nL Qf k pc lo st cs ss n sh rf I L := by
  intro r hr ls H locs hl hW
  exact kk r hr ls H locs hl ⟨hW.1, hW.2.1, fun z => by cases z⟩
theorem J_objInit {idx r : Nat} (hX : jOK Y Z own cc nL nm ret fr lw mcX msX) (hs : sh r ≠ 0) (hw : Cond.methodLink own idx objectInit ∈ wsU ∧ Cond.instanceMethod objectInit ∈ wsU ∧ Cond.code objectInit ⟨#[0xb1]⟩ 1 none ∈ wsU) (hroom : 1 ≤ fr ∧ 20 ≤ lw) (hcat : (rest.map jcat).sum ≤ 8) (hd : decode cc pc = .ok (.invokespecial idx, 3)) (kk : J Y Z nL Qf k (pc + 3) lo rest cs ss n sh rf I L) : J Y Z nL Qf k pc lo (jr r :: rest) cs ss n sh rf I L := by
  intro r' hr ls H locs hl hW
  have h := kk r' hr ls H locs hl hW
  obtain ⟨hx, hb, hml, hown, hts, -, -, -, hK, hU, hb1, hfr, hlw, hmc, hms⟩ := hX
  show W Z.p Y.l Z.e Z.R Z.s Z.m Z.a Z.w Z.meth Z.c H locs cs ss (Qf r') (F0 Z.m pc ls (jref Y.b r :: rest.map (jval Y.b)))
  rw [jref_nz _ (hW.1.pos rfl hs)]
  refine W.objInit hx hb hown (hts _ hw.1) (hts _ hw.2.1) (hts _ hw.2.2) rfl (by rw [hml]; exact hl.1) rfl hd (Nat.le_trans hroom.1 hfr) ?_ (W.eq rfl h)
  have e : ((rest.map (jval Y.b)).map fun v => v.category).sum ≤ 8 := by rw [jcat_sum]; exact hcat
  have e2 := lv_room (m := Z.m) (pc := pc) (ls := ls) (rest := Value.ref (Y.b + r) :: rest.map (jval Y.b)) e
  show 2 * (F0 Z.m pc ls (Value.ref (Y.b + r) :: rest.map (jval Y.b))).monitorRoom + _ + 12 ≤ _
  omega
end ALLOC
