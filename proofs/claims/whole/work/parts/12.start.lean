theorem jOK_mono {Y : jY} {Z : jZ} {own nm : String} {cc : ByteArray} {nL : Nat} {ret : Option FieldType} {fr lw mc ms fr2 lw2 : Nat} (h : jOK Y Z own cc nL nm ret fr lw mc ms) (h1 : fr2 ≤ fr) (h2 : lw2 ≤ lw) : jOK Y Z own cc nL nm ret fr2 lw2 mc ms := by
  obtain ⟨a1, a2, a3, a4, a5, a6, a7, a8, a9, a10, a11, a12, a13, a14⟩ := h
  exact ⟨a1, a2, a3, a4, a5, a6, a7, a8, a9, a10, a11, Nat.le_trans h1 a12, Nat.le_trans h2 a13, a14⟩
def sh0 : jS := fun _ => 0
def rf0 : jR := fun _ _ => 0
def I00 : jI := fun _ _ => 0
def L00 : jL := fun _ _ => 0
def sh1 : jS := jrow sh0 1 7
def sh2 : jS := jrow (X6_init_iS 1 1 sh1) 164 8
def sh3 : jS := X7_init_iS 164 164 sh2
def rf1 : jR := X6_init_iR 1 1 rf0
def rf2 : jR := X7_init_iR 164 164 rf1
def I01 : jI := X6_init_iI 1 1 I00
/-- the ints behind the constructors -/
def I02 : jI := X7_init_iI 164 164 I01
set_option maxRecDepth 20000 in
theorem sh3_C : sh3 = shC := by
  funext r
  by_cases h : r < 176
  · exact (by decide +kernel : ∀ r, r < 176 → sh3 r = shC r) r h
  · rw [shC_out (by unfold NC; omega)]
    unfold sh3 sh2 sh1
    rw [X7_init_iS_new _ _ _ (by omega), jrow_ne _ _ (by omega), X6_init_iS_new _ _ _ (by omega), jrow_ne _ _ (by omega)]
    rfl
set_option maxRecDepth 20000 in
theorem rf2_C : rf2 = rfC := by
  funext r k
  by_cases h : r < 176
  · by_cases hk : k < 20
    · exact (by decide +kernel : ∀ r, r < 176 → ∀ k, k < 20 → rf2 r k = rfC r k) r h k hk
    · have h1 : rf2 r k = 0 := X7_init_iR_big _ _ _ (X6_init_iR_big _ _ _ (fun _ _ _ => rfl)) r k (by omega)
      have h2 : rfC r k = 0 := by
        unfold rfC
        rw [List.getD_eq_getElem?_getD, List.getElem?_eq_none ?_]
        · rfl
        · have := (by decide +kernel : ∀ r, r < 176 → (rfL.getD r []).length ≤ 20) r h
          omega
      rw [h1, h2]
  · have h1 : rf2 r = rf0 r := (X7_init_iR_new _ _ _ (by omega) r (by omega)).trans (X6_init_iR_new _ _ _ (by omega) r (by omega))
    rw [h1]
    have h2 : rfL.getD r [] = [] := by
      rw [List.getD_eq_getElem?_getD, List.getElem?_eq_none (by rw [show rfL.length = 176 from by decide +kernel]; omega)]
      rfl
    unfold rfC
    rw [h2]
    rfl
theorem s_L_9 : jSiteI RL 9 yX6_init cX6_init 2 0 := ⟨⟨(jm 87 (by decide +kernel) (by decide +kernel)), (jm 88 (by decide +kernel) (by decide +kernel)), (jm 73 (by decide +kernel) (by decide +kernel)), (jm 89 (by decide +kernel) (by decide +kernel))⟩, rfl, by decide +kernel, by decide +kernel, by decide +kernel⟩
theorem s_L_12 : jSiteI RL 12 yX7_init cX7_init 1 0 := ⟨⟨(jm 957 (by decide +kernel) (by decide +kernel)), (jm 958 (by decide +kernel) (by decide +kernel)), (jm 80 (by decide +kernel) (by decide +kernel)), (jm 959 (by decide +kernel) (by decide +kernel))⟩, rfl, by decide +kernel, by decide +kernel, by decide +kernel⟩
set_option maxRecDepth 40000 in
set_option maxHeartbeats 8000000 in
theorem start_of (pure : ∀ (len : Nat) (xs : Nat → Int32), len ≤ 3072 → L_law0 len xs I02 L00 = some ()) {p : Program} {e : Env} {s : State} {m : MethodId} {below : List Frame} {meth : Method} {c : Code} (l : Launch) {b L : Nat} {xs : Nat → Int32} (hL : L ≤ 3072) (C0 : lw_At p s m meth c b L xs) : W p l e room_1 s m #[Value.ref b] below meth c s.heap [] 0 0 (lw_Z below #[Value.ref b] s) (entryFrame m ([Value.ref b] : List Value).toArray 4) := by
  obtain ⟨hx, hb, hr, hml, hown, hts, hX, hbl, hlocks, hgv⟩ := C0
  have htsU : ∀ w ∈ wsU, w.before #[Value.ref b] s = true := fun w hw => hts w (List.mem_filter.mp hw).1
  have hs := flat_of_before _ hgv
  obtain ⟨base, hbase⟩ : ∃ base, s.heap.size = base + 1 := ⟨s.heap.size - 1, by omega⟩
  obtain ⟨c0, i0, k0⟩ := u_known (C := RX0) (T := TX0) (N := 2) (n := 2) htsU inX0 (htsU _ (jm 102 (by decide +kernel) (by decide +kernel)))
  obtain ⟨c1, i1, k1⟩ := u_known (C := RX1) (T := TX1) (N := 5) (n := 5) htsU inX1 (htsU _ (jm 117 (by decide +kernel) (by decide +kernel)))
  obtain ⟨c2, i2, k2⟩ := u_known (C := RX2) (T := TX2) (N := 19) (n := 19) htsU inX2 (htsU _ (jm 138 (by decide +kernel) (by decide +kernel)))
  obtain ⟨c3, i3, k3⟩ := u_known (C := RX3) (T := TX3) (N := 4) (n := 4) htsU inX3 (htsU _ (jm 315 (by decide +kernel) (by decide +kernel)))
  obtain ⟨c4, i4, k4⟩ := u_known (C := RX4) (T := TX4) (N := 18) (n := 18) htsU inX4 (htsU _ (jm 94 (by decide +kernel) (by decide +kernel)))
  obtain ⟨c5, i5, k5⟩ := u_known (C := RX5) (T := TX5) (N := 8) (n := 8) htsU inX5 (htsU _ (jm 281 (by decide +kernel) (by decide +kernel)))
  obtain ⟨c6, i6, k6⟩ := u_known (C := RX6) (T := TX6) (N := 8) (n := 8) htsU inX6 (htsU _ (jm 86 (by decide +kernel) (by decide +kernel)))
  obtain ⟨c7, i7, k7⟩ := u_known (C := RX7) (T := TX7) (N := 20) (n := 20) htsU inX7 (htsU _ (jm 956 (by decide +kernel) (by decide +kernel)))
  obtain ⟨dC, dI, hKc⟩ : ∃ (dC : Nat → ClassId) (dI : Nat → Nat → Nat), ∀ (k : Nat) (q : vw_C), vwCl[k]? = some q → u_Kn s q.1 q.2.1 q.2.2 (dC k) (dI k) := by
    refine ⟨fun k => ([c0, c1, c2, c3, c4, c5, c6, c7] : List ClassId).getD k c0, fun k => ([i0, i1, i2, i3, i4, i5, i6, i7] : List (Nat → Nat)).getD k i0, ?_⟩
    intro k q hq
    match k, hq with
    | 0, hq => cases hq; exact k0
    | 1, hq => cases hq; exact k1
    | 2, hq => cases hq; exact k2
    | 3, hq => cases hq; exact k3
    | 4, hq => cases hq; exact k4
    | 5, hq => cases hq; exact k5
    | 6, hq => cases hq; exact k6
    | 7, hq => cases hq; exact k7
    | k + 8, hq => simp [vwCl] at hq
  obtain ⟨tI, kI, pI, u1, u2, u3⟩ := Cond.arrayClass_spec (type := .int) (htsU _ (jm 115 (by decide +kernel) (by decide +kernel)))
  obtain ⟨tZ, kZ, pZ, v1, v2, v3⟩ := Cond.arrayClass_spec (type := .boolean) (htsU _ (jm 210 (by decide +kernel) (by decide +kernel)))
  obtain ⟨tJ, kJ, pJ, w1, w2, w3⟩ := Cond.arrayClass_spec (type := .long) (htsU _ (jm 336 (by decide +kernel) (by decide +kernel)))
  have oL : (Cond.arrayOver (.object RX2)).before #[Value.ref b] s = true := (hts _ (List.mem_of_getElem? (i := 100) (by decide +kernel)))
  have oS : (Cond.arrayOver (.object RX3)).before #[Value.ref b] s = true := (hts _ (List.mem_of_getElem? (i := 314) (by decide +kernel)))
  obtain ⟨pL, tL, kL, x1, -, x3, x4, x5⟩ := Cond.arrayOver_spec oL
  obtain ⟨pS, tS, kS, y1, -, y3, y4, y5⟩ := Cond.arrayOver_spec oS
  obtain ⟨tc, htc⟩ : ∃ tc : Nat → ClassId, tc 0 = tI ∧ tc 1 = tZ ∧ tc 2 = tJ ∧ tc 3 = tL ∧ tc 4 = tS := ⟨fun k => ([tI, tZ, tJ, tL, tS] : List ClassId).getD k tI, rfl, rfl, rfl, rfl, rfl⟩
  have hK : va_K (dC, dI) vwCl (jtys tc) s := by
    refine ⟨hKc, fun k q h => ?_⟩
    obtain ⟨h0, h1, h2, h3, h4⟩ := htc
    match k, h with
    | 0, h => cases h; rw [h0]; exact ⟨fun n z => ⟨(fun k h => by cases h), kI, u2, pI, u3⟩, u1⟩
    | 1, h => cases h; rw [h1]; exact ⟨fun n z => ⟨(fun k h => by cases h), kZ, v2, pZ, v3⟩, v1⟩
    | 2, h => cases h; rw [h2]; exact ⟨fun n z => ⟨(fun k h => by cases h), kJ, w2, pJ, w3⟩, w1⟩
    | 3, h => cases h; rw [h3]; exact ⟨fun n z => ⟨(fun k h => by cases h), kL, x3, pL, x4⟩, kL, pL, x3, x4, x1, x5⟩
    | 4, h => cases h; rw [h4]; exact ⟨fun n z => ⟨(fun k h => by cases h), kS, y3, pS, y4⟩, kS, pS, y3, y4, y1, y5⟩
    | k + 5, h => simp [jtys] at h
  have hA0 : ∀ a : Nat, a < s.heap.size → ¬ jA base a := fun a h1 h2 => by have h2 : base + 1 ≤ a := h2; omega
  obtain ⟨ut, hut, hT⟩ := va_Tof (N := 9) (f := jUf) (A := jA base) (tm := .static "PageLevels" "UNDER" "[I") (ty := .int) (by decide) (hs _ (by decide +kernel)) (va_eqt (hs (.eq (.length (.static "PageLevels" "UNDER" "[I")) (.int 9)) (by decide +kernel))) (fun j hj => by
    match j, hj with
    | 0, _ => exact va_eqt (hs (.eq (.elem (.static "PageLevels" "UNDER" "[I") (.int 0)) (.int (-1))) (by decide +kernel))
    | 1, _ => exact va_eqt (hs (.eq (.elem (.static "PageLevels" "UNDER" "[I") (.int 1)) (.int (0))) (by decide +kernel))
    | 2, _ => exact va_eqt (hs (.eq (.elem (.static "PageLevels" "UNDER" "[I") (.int 2)) (.int (0))) (by decide +kernel))
    | 3, _ => exact va_eqt (hs (.eq (.elem (.static "PageLevels" "UNDER" "[I") (.int 3)) (.int (1))) (by decide +kernel))
    | 4, _ => exact va_eqt (hs (.eq (.elem (.static "PageLevels" "UNDER" "[I") (.int 4)) (.int (1))) (by decide +kernel))
    | 5, _ => exact va_eqt (hs (.eq (.elem (.static "PageLevels" "UNDER" "[I") (.int 5)) (.int (4))) (by decide +kernel))
    | 6, _ => exact va_eqt (hs (.eq (.elem (.static "PageLevels" "UNDER" "[I") (.int 6)) (.int (4))) (by decide +kernel))
    | 7, _ => exact va_eqt (hs (.eq (.elem (.static "PageLevels" "UNDER" "[I") (.int 7)) (.int (2))) (by decide +kernel))
    | 8, _ => exact va_eqt (hs (.eq (.elem (.static "PageLevels" "UNDER" "[I") (.int 8)) (.int (2))) (by decide +kernel))
    | j + 9, h => omega) hA0
  have hZ : va_Z RX6 "UNDER" "[I" (.ref ut) (jA base) s s.heap := va_Zref (hts _ (List.mem_of_getElem? (i := 458) (by decide +kernel))) (htsU _ (jm 73 (by decide +kernel) (by decide +kernel))) hut hA0
  have hU : jU (l, (dC, dI), tc, base, ut, true) s s.heap := by
    refine ⟨fun w hw => ?_, va_AO.of oL, va_AO.of oS, hZ, hT⟩
    obtain ⟨a1, a2, a3, a4, rfl⟩ := jNest_form w hw
    exact va_Nw.of (w := .methodLinkNest a1 a2 a3 a4) rfl (hts _ (List.mem_append_right _ (List.mem_filter.mp hw).1))
  have hOK : jOK (l, (dC, dI), tc, base, ut, true) (p, e, room_1, s, m, #[Value.ref b], below, meth, c) RL cL_law 4 meth.name (some .boolean) 2048 84000 600000 7302250 :=
    ⟨hx, hb, hml, hown, htsU, hr, hlocks, rfl, hK, hU, Nat.le_of_eq hbase.symm, Nat.le_refl _, Nat.le_refl _, Nat.le_refl _, Nat.le_refl _⟩
  have hOK0 : jOK (l, (dC, dI), tc, base, ut, false) (p, e, room_1, s, m, #[Value.ref b], below, meth, c) RL cL_law 4 meth.name (some .boolean) 2048 84000 600000 7302250 := hOK
  have hret : ∀ (pc : Nat) (lo : List (Nat × jV)) (I : jI) (L : jL), decode cL_law pc = .ok (.ireturn, 1) → J (l, (dC, dI), tc, base, ut, false) (p, e, room_1, s, m, #[Value.ref b], below, meth, c) 4 (fun _ : Unit => lw_Z below #[Value.ref b] s) (some ()) pc lo [ji (1 : Int32)] 175 6895 NC shC rfC I L := by
    intro pc lo I L hd r _ ls H locs hl hW
    refine va_forget (fun q hq => ?_) (W.widen (k := 600000) (n := 7302250) (Nat.le_of_ble_eq_true rfl) (Nat.le_of_ble_eq_true rfl) (lw_ret hx hb hr hlocks hd))
    have h1 : base + 1 ≤ q.base := hW.2.1.2.2 q hq
    show s.heap.size ≤ q.base
    omega
  have hJ : J (l, (dC, dI), tc, base, ut, true) (p, e, room_1, s, m, #[Value.ref b], below, meth, c) 4 (fun _ : Unit => lw_Z below #[Value.ref b] s) (L_law0 L xs I02 L00) 0 [(0, je b)] [] 0 0 0 sh0 rf0 I00 L00 := by
    refine J_new (pc := 0) (n := 0) hOK rfl (ci := 6) (T := TX6) (N := 8) (ty0 := tyX6) rfl inX6 tyX6_ok (by decide) ⟨(jm 85 (by decide +kernel) (by decide +kernel)), (jm 86 (by decide +kernel) (by decide +kernel)), (jm 73 (by decide +kernel) (by decide +kernel))⟩ (by decide +kernel) rfl rfl ⟨by decide, by decide⟩ dL_law_0 ?_
    refine J_dup (pc := 3) hOK rfl dL_law_3 ?_
    refine jrun_c (pc := 4) (mc := 162) (ms := 3804) (n' := 163) (jRunI hOK s_L_9 (As := []) (rest := [jr 1]) (K_X6_init _ rfl 1 1 sh1 rf0 I00 L00 (jrow_self _ _ _) (by omega) (fun _ _ => ⟨rfl, rfl, rfl⟩)) (by decide) rfl rfl ⟨by decide, by decide⟩ ⟨by decide, by decide⟩ (Nat.le_of_ble_eq_true rfl) dL_law_4) ?_
    refine J_astore_n (pc := 7) hOK (lo' := [(1, jr 1), (0, je b)]) (by decide) rfl dL_law_7 ?_
    refine J_new (pc := 8) (n := 163) hOK rfl (ci := 7) (T := TX7) (N := 20) (ty0 := tyX7) rfl inX7 tyX7_ok (by decide) ⟨(jm 955 (by decide +kernel) (by decide +kernel)), (jm 956 (by decide +kernel) (by decide +kernel)), (jm 80 (by decide +kernel) (by decide +kernel))⟩ (by decide +kernel) (X6_init_iR_new _ _ _ (by omega) _ (by omega)) (X6_init_iI_new _ _ _ (by omega) _ (by omega)) ⟨by decide, by decide⟩ dL_law_8 ?_
    refine J_dup (pc := 11) hOK rfl dL_law_11 ?_
    refine jrun_c (pc := 12) (mc := 11) (ms := 3063) (n' := 175) (jRunI hOK s_L_12 (As := []) (rest := [jr 164]) (K_X7_init _ rfl 164 164 sh2 rf1 I01 L00 (jrow_self _ _ _) (by omega) (fun a ha => ⟨X6_init_iR_new _ _ _ (by omega) a (by omega), X6_init_iI_new _ _ _ (by omega) a (by omega), rfl⟩)) (by decide +kernel) rfl rfl ⟨by decide, by decide⟩ ⟨by decide, by decide⟩ (Nat.le_of_ble_eq_true rfl) dL_law_12) ?_
    refine J_astore_n (pc := 15) hOK (lo' := [(2, jr 164), (1, jr 1), (0, je b)]) (by decide) rfl dL_law_15 ?_
    refine J_iconst (pc := 16) hOK (v := (0 : Int32)) (by decide) dL_law_16 ?_
    refine J_istore_n (pc := 17) hOK (lo' := [(3, ji (0 : Int32)), (2, jr 164), (1, jr 1), (0, je b)]) (by decide) rfl dL_law_17 ?_
    refine J_zf (cs2 := 0) ?_
    show J (l, (dC, dI), tc, base, ut, false) (p, e, room_1, s, m, #[Value.ref b], below, meth, c) 4 (fun _ : Unit => lw_Z below #[Value.ref b] s) (L_law0 L xs I02 L00) 18 [(3, ji (0 : Int32)), (2, jr 164), (1, jr 1), (0, je b)] [] 175 6895 NC sh3 rf2 I02 L00
    rw [sh3_C, rf2_C]
    exact W_law (Y := (l, (dC, dI), tc, base, ut, false)) (Z := (p, e, room_1, s, m, #[Value.ref b], below, meth, c)) rfl hX hbl (by show b < base + 1; omega) I02 L00 (jOK_mono hOK0 (by decide) (by decide)) hret
  have hl := lv_entry ([.ref b]) (n := 4) (Nat.le_of_ble_eq_true rfl)
  rw [lg_entry_eq]
  have hl : lv_has _ 4 (jlo base [(0, je b)]) := hl
  exact hJ () (pure L xs hL) _ s.heap [] hl ⟨⟨fun r => ⟨fun h => absurd rfl h, fun h => by omega⟩, fun r h => absurd rfl h⟩, va_S.rf, fun _ => hbase⟩
