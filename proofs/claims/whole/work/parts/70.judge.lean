/-! JUDGE and WOULD: on both sides -/
section JG
variable {B cnt mode T N s : Nat} {S : Nat → Nat} {I : jI} {m : Mn} {L : jL} {pg : Nat → Nat} {St : Nat → jI} {ms : Nat → Mn} {cs fs : Nat → Nat}
theorem judge_key {z : Nat} (h : TRC B cnt mode N S I m pg St ms cs fs) (ht : TOLD I L s 2 N pg) (hz : z ≤ 40) (hNz : N * 2 ≤ z) (hs : s < 8) (hsz : I (148 + 2 * s) 2 = nI z) (hel : ∀ i, i < 40 → L (149 + 2 * s) i = L 172 (40 * s + i)) (k8 : Int32 → jI → Option (Int32 × jI)) : ∀ d n i (J : jI), J 165 = ms i → i + d = N → d + 1 < n →
    ∃ r j J', j ≤ N ∧ jfx (X6_judge_F1 1 (nI s) (nI N) L) (fun _ _ => none) n (nI i) (St i) = some (r, St j) ∧ jfx (X7_judge_F1 164 (nI s) (nI N) L k8) (fun _ _ _ => none) n (-1) (nI i) J = k8 r J' ∧ SAME J J' := by
  obtain ⟨-, -, t3, t4, -⟩ := h
  intro d
  induction d with
  | zero =>
    intro n i J j1 h1 h2
    obtain ⟨n, rfl⟩ : ∃ q, n = q + 1 := ⟨n - 1, by omega⟩
    refine ⟨-1, i, J, by omega, ?_, ?_, fun _ _ _ _ => rfl⟩
    · rw [jfx_s, X6_judge_F1, if_pos (nI_le (by omega) (by omega))]
    · rw [jfx_s, X7_judge_F1, if_pos (nI_le (by omega) (by omega))]
  | succ d ih =>
    intro n i J j1 h1 h2
    obtain ⟨n, rfl⟩ : ∃ q, n = q + 1 := ⟨n - 1, by omega⟩
    obtain ⟨a0, a1, a2, a3, a4⟩ := t3 i (by omega)
    obtain ⟨y, a5⟩ := a4 J j1
    have e2i : (2 : Int32) * nI i = nI (2 * i) := by rw [show (2 : Int32) = nI 2 from rfl, pk_mul]
    have hel2 : X6_element 1 (nI s) (((2 : Int32) * nI i) + (1 : Int32)) (St (i + 1)) L = some (L 172 (40 * s + 2 * i + 1)) := by
      unfold X6_element
      rw [shelfAt_e hs, ob_some, if_neg (by omega), e2i, nI_1, elemC hs hz (by rw [t4 (i + 1) (by omega) _ (by omega)]; exact hsz) (by omega), ob_some, hel _ (by omega), Nat.add_assoc]
    have cC : jfx (X6_judge_F1 1 (nI s) (nI N) L) (fun _ _ => none) (n + 1) (nI i) (St i) = if (lg_cmp (L 172 (40 * s + 2 * i + 1)) (((nI (fs i))).toInt64)) = 0 then jfx (X6_judge_F1 1 (nI s) (nI N) L) (fun _ _ => none) n (nI (i + 1)) (St (i + 1)) else some (nI i, St (i + 1)) := by
      rw [jfx_s, X6_judge_F1, if_neg (nI_ge (by omega) (by omega)), told_e (by omega), ob_some, t4 i (by omega) 147 (by omega), (ht i (by omega)).2.1, rR.2.1, a2, jb2_some, hel2, ob_some, a3, show nI i + (1 : Int32) = nI (i + 1) from nI_1 _]
    have cM : jfx (X7_judge_F1 164 (nI s) (nI N) L k8) (fun _ _ _ => none) (n + 1) (-1) (nI i) J = jfx (X7_judge_F1 164 (nI s) (nI N) L k8) (fun _ _ _ => none) n (if (lg_cmp (L 172 (40 * s + 2 * i + 1)) (((nI (fs i))).toInt64)) = 0 then -1 else nI i) (nI (i + 1)) (Nf J (nI (cs i)) (nI (fs i)) (ms (i + 1))) := by
      have ht2 := (ht i (by omega)).2.2.1
      rw [jfx_s, X7_judge_F1, if_neg (nI_ge (by omega) (by omega)), if_neg (by decide), e2i, forty, nI_1, if_pos (jin_N (by omega) (by omega)), rMM.2.2.2.2.1, cl_N (by omega), ht2, a5, jb2_some, if_pos (jin_N (by omega) (by omega)), cl_N (by omega), Nf_6, jlet_d, show nI i + (1 : Int32) = nI (i + 1) from nI_1 _]
    rw [cC, cM]
    by_cases e : (lg_cmp (L 172 (40 * s + 2 * i + 1)) (((nI (fs i))).toInt64)) = 0
    · obtain ⟨r, j, J', b0, b1, b2, b3⟩ := ih n (i + 1) (Nf J (nI (cs i)) (nI (fs i)) (ms (i + 1))) Nf_165 (by omega) (by omega)
      refine ⟨r, j, J', b0, ?_, ?_, SAME.tr SAME.ofNf b3⟩
      · rw [if_pos e]; exact b1
      · rw [if_pos e]; exact b2
    · refine ⟨nI i, i + 1, Nf J (nI (cs i)) (nI (fs i)) (ms (i + 1)), by omega, by rw [if_neg e], ?_, SAME.ofNf⟩
      obtain ⟨n, rfl⟩ : ∃ q, n = q + 1 := ⟨n - 1, by omega⟩
      rw [if_neg e, jfx_s, X7_judge_F1]
      by_cases e2 : i + 1 = N
      · rw [if_pos (nI_le (by omega) (by omega))]
      · rw [if_neg (nI_ge (by omega) (by omega)), if_pos (nI_pos' (by omega))]
theorem t_judge (h : GG B cnt mode T S I L) (hB : B + 32768 < 1073741824) (x y : Int32) : Two B L (fun I => X6_judge 1 x y I L) (fun I => X7_judge 164 x y I L) I := by
  have refd : ∀ (r : Int32) (I9 : jI) (e : Nat), e < 5 → (-52 : Int32) - r = nI e → ¬ r = 0 → (∀ q, q ≠ 147 → I9 q = I q) → X6_judge 1 x y I L = X6_refuse 1 r I9 → (∀ J : jI, J 170 = I 170 → J 171 = I 171 → X7_wrongRow 164 x y 20 J L = some r) → Two B L (fun I => X6_judge 1 x y I L) (fun I => X7_judge 164 x y I L) I := by
    intro r I9 e he hx h0 h9 hr hw
    obtain ⟨I1, I2, a, b, g⟩ := rf_both (h.un (UN.of147 h9)) e he r hx
    have hI1 : ∀ q, q ≠ 147 → q ≠ 146 → I1 q = I q := fun q hq hq2 => by
      rw [refuse_c e he r hx I9] at a
      have := (Prod.mk.inj (Option.some.inj a)).2
      rw [← this, rT.2.2.1, jup_ne _ _ hq2, h9 q hq]
    refine ⟨r, I1, I2, hr.trans a, ?_, cnt, mode, T, S, g.mono (by omega)⟩
    show X7_judge 164 x y I1 L = _
    unfold X7_judge
    rw [hw I1 (hI1 _ (by omega) (by omega)) (hI1 _ (by omega) (by omega)), ob_some, if_neg h0, b, jb2_some]
  rcases wi_c y 0 20 0 20 rfl rfl with hy | ⟨hy, N, -, hN, -, rfl⟩
  · refine refd (-52) I 0 (by omega) rx0 (by decide) (fun _ _ => rfl) ?_ (fun J _ _ => ?_)
    · unfold X6_judge
      rw [hy, ob_some, if_pos rfl]
      exact jb2_id _
    · unfold X7_wrongRow
      rcases shelf_c x with ⟨-, e2⟩ | ⟨s, -, rfl, -, e2⟩
      · rw [e2, ob_some, if_pos rfl]
      · rw [e2, ob_some, if_neg (by decide), within_e _ 0 20 0 _ rfl rfl, hy, ob_some, if_pos rfl]
  · obtain ⟨r, I9, l1, l2, l3, l4⟩ := listen_c h x (st := 2) (N := N) (mx := 20) (M := 20) rfl (Or.inr ⟨rfl, rfl⟩) (by omega)
    have l1' : X6_listen 1 x (nI N) 2 I L = some (r, I9) := l1
    rcases l4 with hr | ⟨rfl, s, z, pg, hs, rfl, hz, hNz, hsz, hel, ht⟩
    · have hcl : X6_judge 1 x (nI N) I L = if r = 0 then X6_judge 1 x (nI N) I L else X6_refuse 1 r I9 := by
        by_cases e : r = 0
        · rw [if_pos e]
        · rw [if_neg e]
          unfold X6_judge
          rw [hy, ob_some, if_neg (by decide), l1', jb2_some, if_neg e]
          exact jb2_id _
      rcases hr with rfl | rfl | rfl
      · exact refd (-52) I9 0 (by omega) rx0 (by decide) l2 (by rw [hcl, if_neg (by decide)]) l3
      · exact refd (-53) I9 1 (by omega) rx1 (by decide) l2 (by rw [hcl, if_neg (by decide)]) l3
      · exact refd (-54) I9 2 (by omega) rx2 (by decide) l2 (by rw [hcl, if_neg (by decide)]) l3
    · have hG := h.un (UN.of147 l2)
      obtain ⟨I3, t1, t2, t3⟩ := takeS OB48 OB2 (by omega) hG.1
      have ht3 : TOLD I3 L s 2 N pg := fun j hj => by rw [t3 147 (by omega)]; exact ht j hj
      obtain ⟨St, ms, cs, fs, hT⟩ := trace t2 pg N (fun i hi => (ht i hi).1) (by omega)
      obtain ⟨p1, p2, p3, p4, -⟩ := id hT
      have hSt : ∀ j, j ≤ N → ∀ r, (r < 48 ∨ 94 ≤ r) → St j r = I9 r := fun j hj r hr => by rw [p4 j hj r hr, t3 r (by omega)]
      have hsz3 : I3 (148 + 2 * s) 2 = nI z := by rw [t3 _ (by omega), l2 _ (by omega)]; exact hsz
      -- the class's answer does not depend on the model's heap
      obtain ⟨r, j, -, b0, b1, -, -⟩ := judge_key hT ht3 hz hNz hs hsz3 hel (fun v J => some (v, J)) N 1000 0 (jrow I3 165 (ms 0)) (jrow_self _ _ _) (by omega) (by omega)
      obtain ⟨xx, q1, q2, q3⟩ := pours_e (a := 165) (b := 167) (by omega) (St j)
      obtain ⟨J1, hJ1⟩ : ∃ J1, J1 = jrow (St j) 167 xx := ⟨_, rfl⟩
      obtain ⟨r', j', J2, c0, c1, c2, c3⟩ := judge_key hT ht3 hz hNz hs hsz3 hel (fun v6 I7 => (X7_pours 167 165 I7).bind (fun (I9 : jI) => some (v6, I9))) N 1000 0 J1 (by rw [hJ1, jrow_ne _ _ (by omega), hSt j b0 165 (by omega), p2]) (by omega) (by omega)
      have hrr : r' = r := by
        rw [b1] at c1
        exact (Prod.mk.inj (Option.some.inj c1)).1.symm
      subst hrr
      obtain ⟨yy, u1, u2, u3⟩ := pours_e (a := 167) (b := 165) (by omega) J2
      have hU : UN (St j) (jrow J2 165 yy) := back_M q2 hJ1 c3 u2
      refine ⟨r', St j, jrow J2 165 yy, ?_, ?_, cnt, mode, T, S, ((hG.un (UN.of48 (hSt j b0))).un hU).mono (by omega)⟩
      · show X6_judge 1 (nI s) (nI N) I L = _
        unfold X6_judge
        rw [hy, ob_some, if_neg (by decide), l1', jb2_some, if_pos rfl, rR.1, rR.2.1, t1, ob_some, ← p1]
        exact b1
      · show X7_judge 164 (nI s) (nI N) (St j) L = _
        unfold X7_judge
        rw [l3 (St j) (by rw [hSt j b0 _ (by omega), l2 _ (by omega)]) (by rw [hSt j b0 _ (by omega), l2 _ (by omega)]), ob_some, if_pos rfl, rM0, rM2, q1, ob_some, jlet_d, ← hJ1]
        refine c2.trans ?_
        rw [u1, ob_some]
theorem flu_e {o : Nat} (ho : OB o) (h : ST B o cnt mode T S I m) : ∃ v, X4_flushedInAll o I = some v ∧ ∀ J : jI, J 165 = m → X7_flushedAll 164 J = some v := by
  have hc4 := h.1.1
  have key : ∀ d n i (a : Int32), i + d = cnt → d < n → ∃ v, jfx (X4_flushedInAll_F1 o I) (fun _ _ => none) n a (nI (i + 1)) = some v ∧ ∀ J : jI, J 165 = m → jfx (X7_flushedAll_F1 164 J) (fun _ _ => none) n a (nI i) = some v := by
    intro d
    induction d with
    | zero =>
      intro n i a h1 h2
      obtain ⟨n, rfl⟩ : ∃ q, n = q + 1 := ⟨n - 1, by omega⟩
      refine ⟨a, ?_, fun J hJ => ?_⟩
      · rw [jfx_s, X4_flushedInAll_F1, h.2.1.1, if_pos (nI_lt (by omega) (by omega))]
      · rw [jfx_s, X7_flushedAll_F1, if_pos (by decide), rM0, show ((688 : Int32)).toNatClampNeg = 688 from rfl, hJ, h.2.1.2.1, if_pos (nI_le (by omega) (by omega))]
    | succ d ih =>
      intro n i a h1 h2
      obtain ⟨n, rfl⟩ : ∃ q, n = q + 1 := ⟨n - 1, by omega⟩
      have hL := h.2.2.1 i (by omega)
      obtain ⟨v, i1, i2⟩ := ih n (i + 1) (a + m (135 + 140 * i)) (by omega) (by omega)
      refine ⟨v, ?_, fun J hJ => ?_⟩
      · rw [jfx_s, X4_flushedInAll_F1, h.2.1.1, if_neg (nI_nlt (by omega) (by omega)), levelAt_e ho I h.2.1.1 hc4 (show i < cnt by omega), ob_some, jlet_d, if_neg (LB_o ho (show i < 4 by omega)).1]
        dsimp only
        rw [jlet_d, hL.1.2.2.2.2.2.2.2.2.2.1, show nI (i + 1) + (1 : Int32) = nI (i + 1 + 1) from nI_1 _]
        exact i1
      · rw [jfx_s, X7_flushedAll_F1, if_pos (by decide), rM0, show ((688 : Int32)).toNatClampNeg = 688 from rfl, hJ, h.2.1.2.1, if_neg (nI_ge (by omega) (by omega)), of_e 7 i 7 rfl (by omega), ob_some, jlet_d, hJ, show 128 + 140 * i + 7 = 135 + 140 * i by omega, show nI i + (1 : Int32) = nI (i + 1) from nI_1 _]
        exact i2 J hJ
  exact key cnt 1000 0 0 (by omega) (by omega)
theorem were_M (h : ST B 2 cnt mode T S I m) (k : jI → Option (Int32 × jI)) : ∀ d n q (J : jI), J 165 = m → q + d = 64 → d < n → ∃ w : Mn, jfx (X7_would_F2 164 k) (fun _ _ => none) n (nI q) J = k (jrow J 174 w) ∧ (∀ p, q ≤ p → p < 64 → w p = if anyP m S cnt p = true then 1 else 0) ∧ ∀ p, p < q → w p = J 174 p := by
  intro d
  induction d with
  | zero =>
    intro n q J hJ h1 h2
    obtain ⟨n, rfl⟩ : ∃ q, n = q + 1 := ⟨n - 1, by omega⟩
    refine ⟨J 174, ?_, fun p a b => by omega, fun _ _ => rfl⟩
    rw [jfx_s, X7_would_F2, if_pos (lle (64 : Int32) 64 rfl (by omega) (by omega)), jrow_id]
  | succ d ih =>
    intro n q J hJ h1 h2
    obtain ⟨n, rfl⟩ : ∃ q, n = q + 1 := ⟨n - 1, by omega⟩
    obtain ⟨w, e1, e2, e3⟩ := ih n (q + 1) (jup J 174 q (if anyP m S cnt q = true then 1 else 0)) (by rw [jup_ne _ _ (by omega)]; exact hJ) (by omega) (by omega)
    refine ⟨w, ?_, fun p a b => ?_, fun p a => by rw [e3 p (by omega), jup_q, ju1_ne _ _ (by omega)]⟩
    · rw [jfx_s, X7_would_F2, if_neg (lge (64 : Int32) 64 rfl (by omega) (by omega)), anyWhere_e h.1.1 h.2.1.2.1 h.2.2.1 J hJ, ob_some, if_pos (jin_N (by omega) (by omega)), jlet_d, rMM.2.2.2.2.2.2.1, cl_N (by omega), jnz01 (by split <;> simp), show nI q + (1 : Int32) = nI (q + 1) from nI_1 _]
      refine Eq.trans ?_ (e1.trans ?_)
      · rfl
      · rw [jup_def, jrow_jrow]
    · by_cases e : p = q
      · subst e
        rw [e3 p (by omega), jup_q, ju1_eq]
      · exact e2 p (by omega) b
theorem gone_M {o : Nat} {m0 : Mn} {S0 : Nat → Nat} {c0 : Nat} (h : ST B o cnt mode T S I m) (k : Int32 → Option (Int32 × jI)) {J : jI} (hJ : J 165 = m) (hw : ∀ p, p < 64 → J 174 p = if anyP m0 S0 c0 p = true then 1 else 0) : jfx (X7_would_F1 164 J k) (fun _ _ => none) 1000 (0 : Int32) (0 : Int32) = k (nI (cntB (fun p => anyP m0 S0 c0 p && !anyP m S cnt p) 64)) := by
  have key : ∀ d n q, q + d = 64 → d < n → jfx (X7_would_F1 164 J k) (fun _ _ => none) n (nI (cntB (fun p => anyP m0 S0 c0 p && !anyP m S cnt p) q)) (nI q) = k (nI (cntB (fun p => anyP m0 S0 c0 p && !anyP m S cnt p) 64)) := by
    intro d
    induction d with
    | zero =>
      intro n q h1 h2
      obtain ⟨n, rfl⟩ : ∃ q, n = q + 1 := ⟨n - 1, by omega⟩
      rw [jfx_s, X7_would_F1, if_pos (lle (64 : Int32) 64 rfl (by omega) (by omega)), show q = 64 by omega]
    | succ d ih =>
      intro n q h1 h2
      obtain ⟨n, rfl⟩ : ∃ q, n = q + 1 := ⟨n - 1, by omega⟩
      have hi := ih n (q + 1) (by omega) (by omega)
      rw [cntB_s] at hi
      rw [jfx_s, X7_would_F1, if_neg (lge (64 : Int32) 64 rfl (by omega) (by omega)), if_pos (jin_N (by omega) (by omega)), jlet_d, jlet_d]
      dsimp only
      rw [jlet_d, jlet_d, rMM.2.2.2.2.2.2.1, cl_N (by omega), hw q (by omega), anyWhere_e h.1.1 h.2.1.2.1 h.2.2.1 J hJ, ob_some, show nI q + (1 : Int32) = nI (q + 1) from nI_1 _, ← hi]
      have ea : anyL m S (nI q) cnt 0 = anyP m S cnt q := rfl
      rw [ea]
      cases h0 : anyP m0 S0 c0 q with
      | false => rw [show (if (false : Bool) = true then (1 : Int32) else 0) = 0 from rfl, if_pos rfl, Bool.false_and, if_neg (by decide), nI_a0]
      | true =>
        cases h3 : anyP m S cnt q with
        | false => rw [show (if (true : Bool) = true then (1 : Int32) else 0) = 1 from rfl, if_neg (show ¬ (1 : Int32) = 0 by decide), show (if (false : Bool) = true then (1 : Int32) else 0) = 0 from rfl, if_pos rfl, if_pos (by rfl), nI_1]
        | true => rw [show (if (true : Bool) = true then (1 : Int32) else 0) = 1 from rfl, if_neg (show ¬ (1 : Int32) = 0 by decide), if_neg (show ¬ (1 : Int32) = 0 by decide), if_neg (by decide), nI_a0]
  exact key 64 1000 0 (by omega) (by omega)
theorem t_would (h : GG B cnt mode T S I L) (hB : B + 32768 < 1073741824) (x y : Int32) : Two B L (X6_would 1 x y) (X7_would 164 x y) I := by
  rcases page_c x with ⟨e1, e2⟩ | ⟨p, hp, rfl, e1, e2⟩
  · exact Two.ref h 0 (by omega) (-52) rx0 (by unfold X6_would; rw [e1, ob_some, if_pos rfl]; exact jb2_id _) (fun J _ => by unfold X7_would; rw [e2, ob_some, if_pos rfl]; exact jb2_id _)
  rcases wi_c y 0 3 0 3 rfl rfl with hy | ⟨hy, w, -, hw, -, rfl⟩
  · exact Two.ref h 0 (by omega) (-52) rx0 (by unfold X6_would; rw [e1, ob_some, if_neg (by decide), hy, ob_some, if_pos rfl]; exact jb2_id _) (fun J _ => by unfold X7_would; rw [e2, ob_some, if_neg (by decide), within_e y 0 3 0 3 rfl rfl, hy, ob_some, if_pos rfl]; exact jb2_id _)
  obtain ⟨I1, t1, t2, t3⟩ := takeS OB48 OB2 (by omega) h.1
  obtain ⟨cost, h6, I2, m2, -, a1, a2, -, a4, a5, -⟩ := access_sim OB48 t2 hp (w := 0) (v := 0) (Or.inl rfl) (by omega)
  have hI2 : ∀ r, (r < 48 ∨ 94 ≤ r) → I2 r = I r := fun r hr => by rw [a5 r (by omega), t3 r (by omega)]
  have hNow : ST B 2 cnt mode T S I2 (I 165) := h.1.congr (fun r a b => hI2 r (by omega)) (fun _ _ => rfl)
  obtain ⟨v1, f1, f2⟩ := flu_e OB2 hNow
  obtain ⟨v2, f3, f4⟩ := flu_e OB48 a4
  obtain ⟨xx, q1, q2, q3⟩ := pours_e (a := 165) (b := 167) (by omega) I2
  obtain ⟨J1, hJ1⟩ : ∃ J1, J1 = jrow I2 167 xx := ⟨_, rfl⟩
  have hJ1m : J1 165 = I 165 := by rw [hJ1, jrow_ne _ _ (by omega), hI2 165 (by omega)]
  obtain ⟨ww, -, w2, -⟩ := were_M h.1 (fun J => some (0, J)) 64 1000 0 J1 hJ1m (by omega) (by omega)
  have wE : ∀ k : jI → Option (Int32 × jI), ∃ ww : Mn, jfx (X7_would_F2 164 k) (fun _ _ => none) 1000 (0 : Int32) J1 = k (jrow J1 174 ww) ∧ ∀ p, p < 64 → ww p = if anyP (I 165) S cnt p = true then 1 else 0 := fun k => by
    obtain ⟨ww, b1, b2, -⟩ := were_M h.1 k 64 1000 0 J1 hJ1m (by omega) (by omega)
    exact ⟨ww, b1, fun p hp => b2 p (by omega) hp⟩
  have m10 : I2 2 10 = I 165 696 := hNow.2.2.2.2.2.2.2.2.2.1
  have m48 : I2 48 10 = m2 696 := a4.2.2.2.2.2.2.2.2.2.1
  obtain ⟨g, hg⟩ : ∃ g, g = cntB (fun p => anyP (I 165) S cnt p && !anyP m2 S cnt p) 64 := ⟨_, rfl⟩
  -- the four answers
  have cC : X6_would 1 (nI p) (nI w) I = some ((if nI w = 0 then nI cost else if nI w = (1 : Int32) then v2 - v1 else if nI w = (2 : Int32) then m2 696 - I 165 696 else nI g), I2) := by
    unfold X6_would
    rw [e1, ob_some, if_neg (by decide), hy, ob_some, if_neg (by decide), rR.1, rR.2.1, t1, ob_some, a1, jb2_some, f3, f1, m10, m48, pagesIn_0 OB2 hNow, pagesIn_0 OB48 a4]
    by_cases w0 : nI w = 0
    · rw [if_pos w0, if_pos w0]
    · rw [if_neg w0, if_neg w0]
      by_cases w1 : nI w = (1 : Int32)
      · rw [if_pos w1, if_pos w1, ob_some, ob_some]
      · rw [if_neg w1, if_neg w1]
        by_cases w2 : nI w = (2 : Int32)
        · rw [if_pos w2, if_pos w2]
        · rw [if_neg w2, if_neg w2, ob_some, ob_some, bitCount_b (bits_and orB_b (bits_not orB_b)), ob_some, hg]
  have cM : ∃ J4, X7_would 164 (nI p) (nI w) I2 = some ((if nI w = 0 then nI cost else if nI w = (1 : Int32) then v2 - v1 else if nI w = (2 : Int32) then m2 696 - I 165 696 else nI g), J4) ∧ UN I2 J4 := by
    unfold X7_would
    rw [e2, ob_some, if_neg (by decide), within_e _ 0 3 0 3 rfl rfl, hy, ob_some, if_neg (by decide), rM0, rM2, q1, ob_some, ← hJ1, jlet_d]
    obtain ⟨ww, b1, b2⟩ := wE (fun (I12 : jI) =>
(X7_flushedAll 164 I12).bind (fun (y14 : Int32) =>
if jin (696 : Int32) 784 then (
jlet ((I12 165 ((696 : Int32)).toNatClampNeg)) (fun (y17 : Int32) =>
jb2 (X7_reads 164 (nI p) I12) (fun (y18 : Int32) (I19 : jI) =>
jlet (fun (v21 : Int32) =>
jlet (fun (v23 : Int32) =>
(X7_pours 167 165 I19).bind (fun (I25 : jI) =>
some (v23, I25))) (fun (k24 : Int32 → Option (Int32 × jI)) =>
if nI w = 0 then (
k24 (I19 164 5))
else (
if nI w = (1 : Int32) then (
(X7_flushedAll 164 I19).bind (fun (y31 : Int32) =>
k24 (y31 - y14)))
else (
if nI w = (2 : Int32) then (
if jin (696 : Int32) 784 then (
k24 ((I19 165 ((696 : Int32)).toNatClampNeg) - y17)) else none)
else (
k24 v21))))) (fun (k22 : Int32 → Option (Int32 × jI)) =>
jfx (X7_would_F1 164 I19 k22) (fun _ _ => none) 1000 (0 : Int32) (0 : Int32))))) else none))
    obtain ⟨J3, hJ3⟩ : ∃ J3, J3 = Nf (jrow J1 174 ww) (nI cost) h6 m2 := ⟨_, rfl⟩
    obtain ⟨yy, u1, u2, u3⟩ := pours_e (a := 167) (b := 165) (by omega) J3
    have e3 : ∀ r, r ≠ 165 → r ≠ 164 → r ≠ 174 → J3 r = J1 r := fun r a b c => by rw [hJ3, NfD, jrow_ne _ _ a, jrow_ne _ _ b, jrow_ne _ _ c]
    refine ⟨jrow J3 165 yy, b1.trans ?_, ⟨fun r k hr => ?_, fun r k a b => ?_, fun i hi => ?_⟩⟩
    · have hr165 : jrow J1 174 ww 165 = I 165 := by rw [jrow_ne _ _ (by omega), hJ1m]
      rw [f2 _ hr165, ob_some, if_pos (by decide), jlet_d, a2 rfl _ hr165, jb2_some, jlet_d, ← hJ3, gone_M a4 _ (J := J3) (by rw [hJ3, Nf_165]) (fun p hp => by rw [hJ3, NfD, jrow_ne _ _ (by omega), jrow_ne _ _ (by omega), jrow_self]; exact b2 p hp), jlet_d, u1, show ((696 : Int32)).toNatClampNeg = 696 from rfl, hr165, f4 J3 (by rw [hJ3, Nf_165]), ← hg]
      rw [show J3 164 5 = nI cost by rw [hJ3, Nf_5], show J3 165 = m2 by rw [hJ3, Nf_165]]
      by_cases w0 : nI w = 0
      · rw [if_pos w0, if_pos w0]
        rfl
      · rw [if_neg w0, if_neg w0]
        by_cases w1 : nI w = (1 : Int32)
        · rw [if_pos w1, if_pos w1, ob_some]
          rfl
        · rw [if_neg w1, if_neg w1]
          by_cases w2 : nI w = (2 : Int32)
          · rw [if_pos w2, if_pos w2, if_pos (by decide)]
            rfl
          · rw [if_neg w2, if_neg w2]
            rfl
    · rw [jrow_ne _ _ (by omega)]
      by_cases e : r = 164
      · subst e
        rw [hJ3, Nf_164, ju1_ne _ _ (by omega), ju1_ne _ _ (by omega), jrow_ne _ _ (by omega), hJ1, jrow_ne _ _ (by omega)]
      · rw [e3 r (by omega) e (by omega), hJ1, jrow_ne _ _ (by omega)]
    · rw [jrow_ne _ _ (by omega), e3 r (by omega) (by omega) (by omega), hJ1, jrow_ne _ _ (by omega)]
    · rw [jrow_self, u2 i hi, e3 167 (by omega) (by omega) (by omega), hJ1, jrow_self, q2 i hi]
  obtain ⟨J4, c1, c2⟩ := cM
  exact ⟨_, I2, J4, cC, c1, cnt, mode, T, S, ((h.un (UN.of48 hI2)).un c2).mono (by omega)⟩
end JG
