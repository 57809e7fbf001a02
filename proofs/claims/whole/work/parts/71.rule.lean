/-! RULE, SIZE and MODES: on both sides -/
section KS
variable {B b l s : Nat} {I : jI} {m : Mn}
theorem LR.kind (h : LR B b I m l s) {k : Nat} (hk : 3 ≤ k ∧ k ≤ 8) : LR B b (jup I b 2 (nI k)) (ju1 m (130 + 140 * l) (nI k)) l s := by
  obtain ⟨⟨a1, ⟨a2, a2'⟩, ⟨c, a3, a3', a3''⟩, -, ⟨hd, d1, d2, d3⟩, a6, a7, a8, a9, a10, a11, a12⟩, h2, h3⟩ := h
  have em : ∀ i, i ≠ 130 + 140 * l → ju1 m (130 + 140 * l) (nI k) i = m i := fun i hi => ju1_ne _ _ hi
  have er : ∀ r, r ≠ b → jup I b 2 (nI k) r = I r := fun r hr => jup_ne _ _ hr
  have ef : ∀ f, f ≠ 2 → jup I b 2 (nI k) b f = I b f := fun f hf => by rw [jup_q, ju1_ne _ _ hf]
  refine ⟨⟨a1, ⟨by rw [ef _ (by omega)]; exact a2, by rw [em _ (by omega)]; exact a2'⟩, ⟨c, a3, by rw [ef _ (by omega)]; exact a3', by rw [em _ (by omega)]; exact a3''⟩, ⟨k, hk, by rw [jup_q, ju1_eq], ju1_eq _ _ _⟩, ⟨hd, d1, by rw [ef _ (by omega)]; exact d2, by rw [em _ (by omega)]; exact d3⟩, ?_, ?_, ?_, ?_, ?_, ?_, ?_⟩, fun j hj => ?_, fun p hp => ?_⟩
  · rw [ef _ (by omega), em _ (by omega)]; exact a6
  · rw [ef _ (by omega), em _ (by omega)]; exact a7
  · rw [ef _ (by omega), em _ (by omega)]; exact a8
  · rw [ef _ (by omega), em _ (by omega)]; exact a9
  · rw [ef _ (by omega), em _ (by omega)]; exact a10
  · rw [ef _ (by omega), em _ (by omega)]; exact a11
  · rw [ef _ (by omega), occ_congr (m := m) (fun k _ => em _ (by omega))]; exact a12
  · have := h2 j hj
    unfold SLT at this ⊢
    simp (disch := omega) only [er, em]
    exact this
  · have := h3 p hp
    unfold IDX at this ⊢
    rcases this with z | ⟨kk, z1, z2, z3⟩
    · exact Or.inl (by rw [er _ (by omega)]; exact z)
    · exact Or.inr ⟨kk, z1, by rw [er _ (by omega)]; exact z2, by rw [em _ (by omega)]; exact z3⟩
theorem LR.resize (h : LR B b I m l s) (hE : m (131 + 140 * l) = 0 ∧ ∀ k, k < 16 → m (140 + 140 * l + 7 * k) = -1) {k : Nat} (hk : 1 ≤ k ∧ k ≤ 16) : LR B b (jup I b 0 (nI k)) (ju1 m (128 + 140 * l) (nI k)) l k := by
  obtain ⟨⟨a1, ⟨a2, a2'⟩, ⟨c, a3, a3', a3''⟩, ⟨kd, e1, e2, e3⟩, ⟨hd, d1, d2, d3⟩, a6, a7, a8, a9, a10, a11, a12⟩, h2, h3⟩ := h
  have em : ∀ i, i ≠ 128 + 140 * l → ju1 m (128 + 140 * l) (nI k) i = m i := fun i hi => ju1_ne _ _ hi
  have er : ∀ r, r ≠ b → jup I b 0 (nI k) r = I r := fun r hr => jup_ne _ _ hr
  have ef : ∀ f, f ≠ 0 → jup I b 0 (nI k) b f = I b f := fun f hf => by rw [jup_q, ju1_ne _ _ hf]
  have hd0 : hd = 0 := (nI_eq (by omega) (by omega)).mp (d3.symm.trans hE.1)
  subst hd0
  refine ⟨⟨hk, ⟨by rw [jup_q, ju1_eq], ju1_eq _ _ _⟩, ⟨c, a3, by rw [ef _ (by omega)]; exact a3', by rw [em _ (by omega)]; exact a3''⟩, ⟨kd, e1, by rw [ef _ (by omega)]; exact e2, by rw [em _ (by omega)]; exact e3⟩, ⟨0, by omega, by rw [ef _ (by omega)]; exact d2, by rw [em _ (by omega)]; exact d3⟩, ?_, ?_, ?_, ?_, ?_, ?_, ?_⟩, fun j hj => ?_, fun p hp => ?_⟩
  · rw [ef _ (by omega), em _ (by omega)]; exact a6
  · rw [ef _ (by omega), em _ (by omega)]; exact a7
  · rw [ef _ (by omega), em _ (by omega)]; exact a8
  · rw [ef _ (by omega), em _ (by omega)]; exact a9
  · rw [ef _ (by omega), em _ (by omega)]; exact a10
  · rw [ef _ (by omega), em _ (by omega)]; exact a11
  · rw [ef _ (by omega), occ_congr (m := m) (fun k _ => em _ (by omega))]; exact a12
  · obtain ⟨z1, z2⟩ := h2 j hj
    have hj1 := hE.2 j hj
    refine ⟨by rw [er _ (by omega), em _ (by omega)]; exact z1, Or.inl ⟨by rw [em _ (by omega)]; exact hj1, ?_⟩⟩
    rw [er _ (by omega)]
    rcases z2 with ⟨-, z⟩ | ⟨p, hp, z, -⟩
    · exact z
    · rw [hj1] at z; exact absurd z.symm (m1_ne (by omega))
  · have := h3 p hp
    rcases this with z | ⟨kk, z1, z2, z3⟩
    · exact Or.inl (by rw [er _ (by omega)]; exact z)
    · rw [hE.2 kk (by omega)] at z3; exact absurd z3.symm (m1_ne (by omega))
end KS
section TK
variable {B o cnt mode T N s : Nat} {S : Nat → Nat} {I : jI} {m : Mn} {L : jL} {pg : Nat → Nat}
/-- a level's own field changes -/
theorem ST.lev (h : ST B o cnt mode T S I m) {l : Nat} (hl : l < cnt) {S' : Nat → Nat} (hS : ∀ j, j ≠ l → S' j = S j) (f w : Nat) (v : Int32) (hw : w = 128 ∨ w = 130) (hLR : LR B (o + 10 + 9 * l) (jup I (o + 10 + 9 * l) f v) (ju1 m (w + 140 * l) v) l (S' l)) : ST B o cnt mode T S' (jup I (o + 10 + 9 * l) f v) (ju1 m (w + 140 * l) v) := by
  obtain ⟨⟨r, a1, a2, a3⟩, a4⟩ := h.2.2.2.2.2.1
  obtain ⟨⟨g1, g1', g1''⟩, ⟨x1, x2, x3, x4, x5, x6⟩, g3, g4, g5, g6, g7⟩ := h
  have em : ∀ i, (i < 128 ∨ 688 ≤ i) → ju1 m (w + 140 * l) v i = m i := fun i hi => ju1_ne _ _ (by omega)
  have er : ∀ r, r ≠ o + 10 + 9 * l → jup I (o + 10 + 9 * l) f v r = I r := fun r hr => jup_ne _ _ hr
  refine ⟨⟨g1, g1', g1''⟩, ⟨by rw [er _ (by omega)]; exact x1, by rw [em _ (by omega)]; exact x2, by rw [er _ (by omega)]; exact x3, by rw [em _ (by omega)]; exact x4, by rw [er _ (by omega)]; exact x5, by rw [em _ (by omega)]; exact x6⟩, fun j hj => ?_, g4.congr (er _ (by omega)) (by rw [er _ (by omega)]) (by rw [er _ (by omega)]) (by rw [er _ (by omega)]) (fun i hi => em i (by omega)), fun e => (g5 e).of g1 (fun j kk _ h1 h3 => Or.inl (ju1_ne _ _ (by omega))), ⟨⟨r, a1, by rw [er _ (by omega)]; exact a2, by rw [em _ (by omega)]; exact a3⟩, by rw [er _ (by omega), em _ (by omega), em _ (by omega)]; exact a4⟩, g7.keep (fun f hf => by rw [er _ (by omega)]) (fun r k hr => by rw [er _ (by omega)]) (fun i hi => em i (by omega))⟩
  by_cases e : j = l
  · subst e; exact hLR
  · rw [hS j e]
    exact (g3 j hj).congr (fun r _ _ => er r (by omega)) (fun i _ _ => ju1_ne _ _ (by omega))
/-- a row read in thought, behind a sweep out and one change -/
theorem think (h : ST B 2 cnt mode T S I m) (ht : TOLD I L s 1 N pg) (hN : N ≤ 40) (hs : s < 8) (hB : B + 32768 < 1073741824) {F : jI → jI} {idx : Nat} (hidx : idx < 784) {v : Int32} (hF : ∀ I r, (r < 48 ∨ 94 ≤ r) → F I r = I r) (hM : ∀ I2 m', ST B 48 cnt mode T S I2 m' → EMP m' cnt → ∃ mode' S', ST B 48 cnt mode' T S' (F I2) (ju1 m' idx v)) :
    ∃ c I2 I', c ≤ 55800 ∧ X6_thinkSweptOut 1 I = some I2 ∧ I2 48 1 = nI cnt ∧ X6_costInThought 1 (nI N) (F I2) = some (nI c, I') ∧ (∀ r, (r < 48 ∨ 94 ≤ r) → I' r = I r) ∧ ∀ J : jI, J 165 = m → ∃ J', X7_costWith 164 (nI s) (nI N) (nI idx) v J L = some (nI c, J') ∧ UN J J' := by
  obtain ⟨I1, t1, t2, t3⟩ := takeS OB48 OB2 (by omega) h
  obtain ⟨I2, m2, s1, s2, s3, s4, s5⟩ := sweepOut_ST OB48 t2
  obtain ⟨mode', S', hS'⟩ := hM I2 m2 s3 s4
  have hF2 : ∀ r, (r < 48 ∨ 94 ≤ r) → F I2 r = I r := fun r hr => by rw [hF I2 r hr, s5 r (by omega), t3 r (by omega)]
  have ht2 : TOLD (F I2) L s 1 N pg := fun j hj => by rw [hF2 147 (by omega)]; exact ht j hj
  obtain ⟨St, ms, cs, fs, hT⟩ := trace hS' pg N (fun i hi => (ht i hi).1) (by omega)
  obtain ⟨p1, p2, p3, p4, -⟩ := id hT
  refine ⟨smN cs N, I2, St N, ?_, ?_, s3.2.1.1, cost_C hT ht2 hN, fun r hr => by rw [p4 N (Nat.le_refl _) r hr, hF2 r hr], fun J hJ => ?_⟩
  · have := smN_le (f := cs) (b := 1395) (n := N) (fun i hi => (p3 i hi).1)
    omega
  · unfold X6_thinkSweptOut
    rw [rR.1, rR.2.1, t1, ob_some, s1, ob_some]
  · obtain ⟨xx, q1, q2, q3⟩ := pours_e (a := 165) (b := 167) (by omega) J
    obtain ⟨J1, hJ1⟩ : ∃ J1, J1 = jrow J 167 xx := ⟨_, rfl⟩
    have hJm : J1 165 = m := by rw [hJ1, jrow_ne _ _ (by omega), hJ]
    obtain ⟨J2, r1, r2, -, -, r5⟩ := readsRow_M hT ht2 hN hs (jrow J1 165 (ju1 m2 idx v)) (jrow_self _ _ _)
    obtain ⟨yy, u1, u2, u3⟩ := pours_e (a := 167) (b := 165) (by omega) J2
    have hSm : SAME J1 J2 := SAME.tr (fun r k a _ => by rw [jrow_ne _ _ a]) r5
    refine ⟨jrow J2 165 yy, ?_, back_M q2 hJ1 hSm u2⟩
    unfold X7_costWith
    rw [rM0, rM2, q1, ob_some, ← hJ1, s2 J1 hJm, ob_some, if_pos (jin_N hidx (by omega)), jlet_d, cl_N (by omega), jrow_jup, r1, ob_some, u1, ob_some, jrow_ne _ _ (by omega), r2]
theorem ST.to9 {I9 : jI} (h : ST B 2 cnt mode T S I9 (I9 165)) {J : jI} (hI : ∀ r, (r < 48 ∨ 94 ≤ r) → I r = I9 r) (hJ : ∀ i, i < 784 → J 165 i = I9 165 i) : ST B 2 cnt mode T S I (J 165) := h.congr (fun r a b => hI r (by omega)) hJ
theorem rule_key {I9 : jI} {l : Nat} (h : ST B 2 cnt mode T S I9 (I9 165)) (ht : TOLD I9 L s 1 N pg) (hN : N ≤ 40) (hs : s < 8) (hB : B + 32768 < 1073741824) (hl : l < cnt) : ∀ d n k (cb cl mb ml : Int32) (I J : jI), k + d = 9 → 3 ≤ k → d < n → (∀ r, (r < 48 ∨ 94 ≤ r) → I r = I9 r) → (∀ i, i < 784 → J 165 i = I9 165 i) → ((k = 3 ∧ cb = -1 ∧ ml = 2147483647) ∨ (cb = mb ∧ cl = ml ∧ ¬ cb = -1)) →
    ∃ r I' J', jfx (X6_rule_F1 1 (nI (l + 1)) (nI N)) (fun _ _ _ _ => none) n cb cl (nI k) I = some (r, I') ∧ jfx (X7_rule_F1 164 (nI (l + 1)) (nI s) (nI N) L) (fun _ _ _ _ => none) n mb ml (nI k) J = some (r, J') ∧ (∀ r, (r < 48 ∨ 94 ≤ r) → I' r = I9 r) ∧ UN J J' := by
  have hc4 := h.1.1
  intro d
  induction d with
  | zero =>
    intro n k cb cl mb ml I J h1 h2 h3 hI hJ hst
    obtain ⟨n, rfl⟩ : ∃ q, n = q + 1 := ⟨n - 1, by omega⟩
    rcases hst with ⟨e, -⟩ | ⟨rfl, rfl, -⟩
    · omega
    · refine ⟨cb, I, J, ?_, ?_, hI, UN.rf⟩
      · rw [jfx_s, X6_rule_F1, if_pos (llt2 (8 : Int32) 8 rfl (by omega) (by omega))]
      · rw [jfx_s, X7_rule_F1, if_pos (lle (9 : Int32) 9 rfl (by omega) (by omega))]
  | succ d ih =>
    intro n k cb cl mb ml I J h1 h2 h3 hI hJ hst
    obtain ⟨n, rfl⟩ : ∃ q, n = q + 1 := ⟨n - 1, by omega⟩
    have hST := h.to9 hI hJ
    have htI : TOLD I L s 1 N pg := fun j hj => by rw [hI 147 (by omega)]; exact ht j hj
    have hb := LB_o OB48 (show l < 4 by omega)
    obtain ⟨c, I2, I', hc, c1, c2, c3, c4, c5⟩ := think (F := fun I2 => jup I2 (48 + 10 + 9 * l) 2 (nI k)) (idx := 130 + 140 * l) (v := nI k) hST htI hN hs hB (by omega) (fun I r hr => jup_ne _ _ (by omega)) (fun I2 m' hS _ => ⟨mode, S, hS.lev hl (fun _ _ => rfl) 2 130 (nI k) (Or.inr rfl) ((hS.2.2.1 l hl).kind ⟨by omega, by omega⟩)⟩)
    obtain ⟨J', d1, d2⟩ := c5 J rfl
    have cC : jfx (X6_rule_F1 1 (nI (l + 1)) (nI N)) (fun _ _ _ _ => none) (n + 1) cb cl (nI k) I = if cb = -1 then jfx (X6_rule_F1 1 (nI (l + 1)) (nI N)) (fun _ _ _ _ => none) n (nI k) (nI c) (nI (k + 1)) I' else if cl ≤ nI c then jfx (X6_rule_F1 1 (nI (l + 1)) (nI N)) (fun _ _ _ _ => none) n cb cl (nI (k + 1)) I' else jfx (X6_rule_F1 1 (nI (l + 1)) (nI N)) (fun _ _ _ _ => none) n (nI k) (nI c) (nI (k + 1)) I' := by
      rw [jfx_s, X6_rule_F1, if_neg (lnlt2 (8 : Int32) 8 rfl (by omega) (by omega)), c1, ob_some, rR.2.1, levelAt_e OB48 I2 c2 hc4 hl, ob_some, jlet_d, if_neg hb.1, jlet_d]
      dsimp only
      rw [show X6_costInThought 1 (nI N) (jup I2 (48 + 10 + 9 * l) 2 (nI k)) = some (nI c, I') from c3, jb2_some, jlet_d, jlet_d, show nI k + (1 : Int32) = nI (k + 1) from nI_1 _]
    have cM : jfx (X7_rule_F1 164 (nI (l + 1)) (nI s) (nI N) L) (fun _ _ _ _ => none) (n + 1) mb ml (nI k) J = jfx (X7_rule_F1 164 (nI (l + 1)) (nI s) (nI N) L) (fun _ _ _ _ => none) n (if ml ≤ nI c then mb else nI k) (jmin ml (nI c)) (nI (k + 1)) J' := by
      rw [jfx_s, X7_rule_F1, if_neg (lge (9 : Int32) 9 rfl (by omega) (by omega)), nI_pred, at_e 2 l 2 rfl, ob_some, show 128 + 140 * l + 2 = 130 + 140 * l by omega, d1, jb2_some, jlet_d, jlet_d, show nI k + (1 : Int32) = nI (k + 1) from nI_1 _]
    rw [cC, cM]
    have hI' : ∀ r, (r < 48 ∨ 94 ≤ r) → I' r = I9 r := fun r hr => by rw [c4 r hr, hI r hr]
    have hJ' : ∀ i, i < 784 → J' 165 i = I9 165 i := fun i hi => by rw [d2.2.2 i hi, hJ i hi]
    have nxt : ∀ (b q : Int32), ¬ b = -1 → ∃ r I'' J'', jfx (X6_rule_F1 1 (nI (l + 1)) (nI N)) (fun _ _ _ _ => none) n b q (nI (k + 1)) I' = some (r, I'') ∧ jfx (X7_rule_F1 164 (nI (l + 1)) (nI s) (nI N) L) (fun _ _ _ _ => none) n b q (nI (k + 1)) J' = some (r, J'') ∧ (∀ r, (r < 48 ∨ 94 ≤ r) → I'' r = I9 r) ∧ UN J J'' := fun b q hb => by
      obtain ⟨r, I'', J'', x1, x2, x3, x4⟩ := ih n (k + 1) b q b q I' J' (by omega) (by omega) (by omega) hI' hJ' (Or.inr ⟨rfl, rfl, hb⟩)
      exact ⟨r, I'', J'', x1, x2, x3, d2.tr x4⟩
    rcases hst with ⟨-, rfl, rfl⟩ | ⟨rfl, rfl, hb⟩
    · have hn : ¬ (2147483647 : Int32) ≤ nI c := lge (2147483647 : Int32) 2147483647 (by decide) (by omega) (by omega)
      rw [if_pos rfl, if_neg hn, show jmin 2147483647 (nI c) = nI c from if_pos (llt (2147483647 : Int32) 2147483647 (by decide) (by omega) (by omega))]
      exact nxt _ _ (m1_ne (by omega))
    · rw [if_neg hb]
      by_cases e : cl ≤ nI c
      · rw [if_pos e, if_pos e, show jmin cl (nI c) = cl from if_neg (fun z => by rw [Int32.le_iff_toInt_le] at e; rw [Int32.lt_iff_toInt_lt] at z; omega)]
        exact nxt _ _ hb
      · rw [if_neg e, if_neg e, show jmin cl (nI c) = nI c from if_pos (by rw [Int32.le_iff_toInt_le] at e; rw [Int32.lt_iff_toInt_lt]; omega)]
        exact nxt _ _ (m1_ne (by omega))
theorem size_key {I9 : jI} {l : Nat} (h : ST B 2 cnt mode T S I9 (I9 165)) (ht : TOLD I9 L s 1 N pg) (hN : N ≤ 40) (hs : s < 8) (hB : B + 32768 < 1073741824) (hl : l < cnt) (most : Int32) : ∀ d n k (I J : jI), k + d = 17 → 1 ≤ k → d < n → (∀ r, (r < 48 ∨ 94 ≤ r) → I r = I9 r) → (∀ i, i < 784 → J 165 i = I9 165 i) →
    ∃ r I' J', jfx (X6_size_F1 1 (nI (l + 1)) (nI N) most) (fun _ _ => none) n (nI k) I = some (r, I') ∧ jfx (X7_size_F1 164 (nI (l + 1)) (nI s) (nI N) most L) (fun _ _ => none) n (nI k) J = some (r, J') ∧ (∀ r, (r < 48 ∨ 94 ≤ r) → I' r = I9 r) ∧ UN J J' := by
  have hc4 := h.1.1
  intro d
  induction d with
  | zero =>
    intro n k I J h1 h2 h3 hI hJ
    obtain ⟨n, rfl⟩ : ∃ q, n = q + 1 := ⟨n - 1, by omega⟩
    refine ⟨-1, I, J, ?_, ?_, hI, UN.rf⟩
    · rw [jfx_s, X6_size_F1, if_pos (llt2 (16 : Int32) 16 rfl (by omega) (by omega))]
    · rw [jfx_s, X7_size_F1, if_pos (llt2 (16 : Int32) 16 rfl (by omega) (by omega))]
  | succ d ih =>
    intro n k I J h1 h2 h3 hI hJ
    obtain ⟨n, rfl⟩ : ∃ q, n = q + 1 := ⟨n - 1, by omega⟩
    have hST := h.to9 hI hJ
    have htI : TOLD I L s 1 N pg := fun j hj => by rw [hI 147 (by omega)]; exact ht j hj
    have hb := LB_o OB48 (show l < 4 by omega)
    obtain ⟨c, I2, I', hc, c1, c2, c3, c4, c5⟩ := think (F := fun I2 => jup I2 (48 + 10 + 9 * l) 0 (nI k)) (idx := 128 + 140 * l) (v := nI k) hST htI hN hs hB (by omega) (fun I r hr => jup_ne _ _ (by omega)) (fun I2 m' hS hE => ⟨mode, fun j => if j = l then k else S j, hS.lev hl (fun j hj => if_neg hj) 0 128 (nI k) (Or.inl rfl) (by rw [if_pos rfl]; exact (hS.2.2.1 l hl).resize (hE l hl) ⟨by omega, by omega⟩)⟩)
    obtain ⟨J', d1, d2⟩ := c5 J rfl
    have cC : jfx (X6_size_F1 1 (nI (l + 1)) (nI N) most) (fun _ _ => none) (n + 1) (nI k) I = if most < nI c then jfx (X6_size_F1 1 (nI (l + 1)) (nI N) most) (fun _ _ => none) n (nI (k + 1)) I' else some (nI k, I') := by
      rw [jfx_s, X6_size_F1, if_neg (lnlt2 (16 : Int32) 16 rfl (by omega) (by omega)), c1, ob_some, rR.2.1, levelAt_e OB48 I2 c2 hc4 hl, ob_some, jlet_d, if_neg hb.1, jlet_d]
      dsimp only
      rw [show X6_costInThought 1 (nI N) (jup I2 (48 + 10 + 9 * l) 0 (nI k)) = some (nI c, I') from c3, jb2_some, show nI k + (1 : Int32) = nI (k + 1) from nI_1 _]
    have cM : jfx (X7_size_F1 164 (nI (l + 1)) (nI s) (nI N) most L) (fun _ _ => none) (n + 1) (nI k) J = if most < nI c then jfx (X7_size_F1 164 (nI (l + 1)) (nI s) (nI N) most L) (fun _ _ => none) n (nI (k + 1)) J' else some (nI k, J') := by
      rw [jfx_s, X7_size_F1, if_neg (lnlt2 (16 : Int32) 16 rfl (by omega) (by omega)), nI_pred, at_e 0 l 0 rfl, ob_some, Nat.add_zero, d1, jb2_some, show nI k + (1 : Int32) = nI (k + 1) from nI_1 _]
    rw [cC, cM]
    have hI' : ∀ r, (r < 48 ∨ 94 ≤ r) → I' r = I9 r := fun r hr => by rw [c4 r hr, hI r hr]
    have hJ' : ∀ i, i < 784 → J' 165 i = I9 165 i := fun i hi => by rw [d2.2.2 i hi, hJ i hi]
    by_cases e : most < nI c
    · rw [if_pos e, if_pos e]
      obtain ⟨r, I'', J'', x1, x2, x3, x4⟩ := ih n (k + 1) I' J' (by omega) (by omega) (by omega) hI' hJ'
      exact ⟨r, I'', J'', x1, x2, x3, d2.tr x4⟩
    · rw [if_neg e, if_neg e]
      exact ⟨nI k, I', J', rfl, rfl, hI', d2⟩
theorem or_0 : ∀ i, i < 4 → (0 : Int32) ||| ((1 : Int32) <<< (nI i &&& 31)) = nI (2 ^ i) ∧ ((1 : Int32) <<< (nI i &&& 31)) = nI (2 ^ i) ∧ 2 ^ i < 16 ∧ 0 < 2 ^ i := by decide +kernel
theorem modes_key {I9 : jI} (h : ST B 2 cnt mode T S I9 (I9 165)) (ht : TOLD I9 L s 1 N pg) (hN : N ≤ 40) (hs : s < 8) (hB : B + 32768 < 1073741824) : ∀ d n k b (cl ml : Int32) (I J : jI), k + d = 3 → d < n → (∀ r, (r < 48 ∨ 94 ≤ r) → I r = I9 r) → (∀ i, i < 784 → J 165 i = I9 165 i) → ((b = 0 ∧ ml = 2147483647) ∨ (0 < b ∧ b < 16 ∧ cl = ml)) →
    ∃ r I' J', jfx (X6_modes_F1 1 (nI N)) (fun _ _ _ _ => none) n (nI b) cl (nI k) I = some (r, I') ∧ jfx (X7_modes_F1 164 (nI s) (nI N) L) (fun _ _ _ _ => none) n (nI b) ml (nI k) J = some (r, J') ∧ (∀ r, (r < 48 ∨ 94 ≤ r) → I' r = I9 r) ∧ UN J J' := by
  have hc4 := h.1.1
  intro d
  induction d with
  | zero =>
    intro n k b cl ml I J h1 h3 hI hJ hst
    obtain ⟨n, rfl⟩ : ∃ q, n = q + 1 := ⟨n - 1, by omega⟩
    refine ⟨nI b, I, J, ?_, ?_, hI, UN.rf⟩
    · rw [jfx_s, X6_modes_F1, if_pos (llt2 (2 : Int32) 2 rfl (by omega) (by omega))]
    · rw [jfx_s, X7_modes_F1, if_pos (lle (3 : Int32) 3 rfl (by omega) (by omega))]
  | succ d ih =>
    intro n k b cl ml I J h1 h3 hI hJ hst
    obtain ⟨n, rfl⟩ : ∃ q, n = q + 1 := ⟨n - 1, by omega⟩
    have hST := h.to9 hI hJ
    have htI : TOLD I L s 1 N pg := fun j hj => by rw [hI 147 (by omega)]; exact ht j hj
    obtain ⟨c, I2, I', hc, c1, c2, c3, c4, c5⟩ := think (F := fun I2 => jup I2 48 4 (nI k)) (idx := 689) (v := nI k) hST htI hN hs hB (by omega) (fun I r hr => jup_ne _ _ (by omega)) (fun I2 m' hS hE => ⟨k, S, hS.setMode hE (by omega)⟩)
    obtain ⟨J', d1, d2⟩ := c5 J rfl
    obtain ⟨o1, o2, o3, o4⟩ := or_0 k (by omega)
    have cC : jfx (X6_modes_F1 1 (nI N)) (fun _ _ _ _ => none) (n + 1) (nI b) cl (nI k) I = if nI b = 0 then jfx (X6_modes_F1 1 (nI N)) (fun _ _ _ _ => none) n (nI (2 ^ k)) (nI c) (nI (k + 1)) I' else if cl ≤ nI c then (if nI c = cl then jfx (X6_modes_F1 1 (nI N)) (fun _ _ _ _ => none) n (nI b ||| nI (2 ^ k)) cl (nI (k + 1)) I' else jfx (X6_modes_F1 1 (nI N)) (fun _ _ _ _ => none) n (nI b) cl (nI (k + 1)) I') else jfx (X6_modes_F1 1 (nI N)) (fun _ _ _ _ => none) n (nI (2 ^ k)) (nI c) (nI (k + 1)) I' := by
      rw [jfx_s, X6_modes_F1, if_neg (lnlt2 (2 : Int32) 2 rfl (by omega) (by omega)), c1, ob_some, rR.2.1, jlet_d]
      rw [show X6_costInThought 1 (nI N) (jup I2 48 4 (nI k)) = some (nI c, I') from c3, jb2_some, show nI k + (1 : Int32) = nI (k + 1) from nI_1 _]
      have o1' : (0 : Int32) ||| nI (2 ^ k) = nI (2 ^ k) := by rw [o2] at o1; exact o1
      simp only [jlet_d, eq_self_iff_true, if_true, o2, o1']
    have cM : jfx (X7_modes_F1 164 (nI s) (nI N) L) (fun _ _ _ _ => none) (n + 1) (nI b) ml (nI k) J = jfx (X7_modes_F1 164 (nI s) (nI N) L) (fun _ _ _ _ => none) n (if ml ≤ nI c then (if nI c = ml then nI b ||| nI (2 ^ k) else nI b) else nI (2 ^ k)) (jmin ml (nI c)) (nI (k + 1)) J' := by
      rw [jfx_s, X7_modes_F1, if_neg (lge (3 : Int32) 3 rfl (by omega) (by omega)), show (689 : Int32) = nI 689 from rfl, d1, jb2_some, jlet_d, jlet_d, o2, show nI k + (1 : Int32) = nI (k + 1) from nI_1 _]
    rw [cC, cM]
    have hI' : ∀ r, (r < 48 ∨ 94 ≤ r) → I' r = I9 r := fun r hr => by rw [c4 r hr, hI r hr]
    have hJ' : ∀ i, i < 784 → J' 165 i = I9 165 i := fun i hi => by rw [d2.2.2 i hi, hJ i hi]
    have nxt : ∀ (b : Nat) (q : Int32), 0 < b → b < 16 → ∃ r I'' J'', jfx (X6_modes_F1 1 (nI N)) (fun _ _ _ _ => none) n (nI b) q (nI (k + 1)) I' = some (r, I'') ∧ jfx (X7_modes_F1 164 (nI s) (nI N) L) (fun _ _ _ _ => none) n (nI b) q (nI (k + 1)) J' = some (r, J'') ∧ (∀ r, (r < 48 ∨ 94 ≤ r) → I'' r = I9 r) ∧ UN J J'' := fun b q hb hb2 => by
      obtain ⟨r, I'', J'', x1, x2, x3, x4⟩ := ih n (k + 1) b q q I' J' (by omega) (by omega) hI' hJ' (Or.inr ⟨hb, hb2, rfl⟩)
      exact ⟨r, I'', J'', x1, x2, x3, d2.tr x4⟩
    rcases hst with ⟨rfl, rfl⟩ | ⟨hb, hb2, rfl⟩
    · have hn : ¬ (2147483647 : Int32) ≤ nI c := lge (2147483647 : Int32) 2147483647 (by decide) (by omega) (by omega)
      rw [if_pos n00, if_neg hn, show jmin 2147483647 (nI c) = nI c from if_pos (llt (2147483647 : Int32) 2147483647 (by decide) (by omega) (by omega))]
      exact nxt _ _ o4 o3
    · rw [if_neg (nI_ne0 hb (by omega))]
      by_cases e : cl ≤ nI c
      · rw [if_pos e, if_pos e, show jmin cl (nI c) = cl from if_neg (fun z => by rw [Int32.le_iff_toInt_le] at e; rw [Int32.lt_iff_toInt_lt] at z; omega)]
        by_cases e2 : nI c = cl
        · obtain ⟨b1, -⟩ := bitM b hb2 k (by omega)
          have b3 := bitK b hb2 k (by omega)
          rw [o2] at b1
          rw [if_pos e2, if_pos e2, b1]
          exact nxt _ _ (Nat.pos_of_ne_zero b3.2.2) b3.2.1
        · rw [if_neg e2, if_neg e2]
          exact nxt _ _ hb hb2
      · rw [if_neg e, if_neg e, show jmin cl (nI c) = nI c from if_pos (by rw [Int32.le_iff_toInt_le] at e; rw [Int32.lt_iff_toInt_lt]; omega)]
        exact nxt _ _ o4 o3
theorem UR.of48 {I I' : jI} (h : ∀ q, (q < 48 ∨ 94 ≤ q) → I' q = I q) : UN I I' := UN.of48 h
theorem t_rule (h : GG B cnt mode T S I L) (hB : B + 32768 < 1073741824) (x y z : Int32) : Two B L (fun I => X6_rule 1 x y z I L) (fun I => X7_rule 164 x y z I L) I := by
  have hc4 := h.1.1.1
  have fin : ∀ f, (f = 0 ∨ f = 1) → X6_isWithin x 1 (I 2 1) = some f → (∀ J : jI, J 165 = I 165 → X7_isLevel 164 x J = some f) → (f = 1 → ∃ l, l < cnt ∧ x = nI (l + 1)) → Two B L (fun I => X6_rule 1 x y z I L) (fun I => X7_rule 164 x y z I L) I := by
    intro f hf hx hxM hl
    rcases hear_c h y z f hf with ⟨r, I1, I2, r0, c1, c1', c2, c3, c4, c5⟩ | ⟨rfl, s, zz, N, pg, I9, hs, rfl, rfl, hN, hz40, c1, c2, ht, hG, cM⟩
    · refine ⟨r, I1, I2, ?_, ?_, cnt, mode, T, S, c3.mono (by omega)⟩
      · show X6_rule 1 x y z I L = _
        unfold X6_rule
        rw [rR.1, hx, ob_some, c1, jb2_some, if_neg r0]
      · show X7_rule 164 x y z I1 L = _
        unfold X7_rule
        rw [hxM I1 (c1' _ (by omega) (by omega)), ob_some, jlet_d]
        rcases hf with rfl | rfl
        · rw [if_pos rfl, ← c4 rfl]
          dsimp only
          rw [if_neg r0, c2, jb2_some]
        · rw [if_neg (by decide), c5 rfl, ob_some]
          dsimp only
          rw [if_neg r0, c2, jb2_some]
    · obtain ⟨l, hlc, rfl⟩ := hl rfl
      have key := fun J hJ => rule_key (l := l) hG.1 ht (by omega) hs hB hlc 6 1000 3 (-1) 0 3 2147483647 I9 J (by omega) (by omega) (by omega) (fun _ _ => rfl) hJ (Or.inl ⟨rfl, rfl, rfl⟩)
      obtain ⟨r, I', J0, a1, -, a3, -⟩ := key I9 (fun _ _ => rfl)
      obtain ⟨r2, I2, J2, b1, b2, b3, b4⟩ := key I' (fun i _ => by rw [a3 165 (by omega)])
      have he : r2 = r := by
        rw [a1] at b1
        exact (Prod.mk.inj (Option.some.inj b1)).1.symm
      subst he
      refine ⟨r2, I', J2, ?_, ?_, cnt, mode, T, S, ((hG.un (UN.of48 a3)).un b4).mono (by omega)⟩
      · show X6_rule 1 (nI (l + 1)) (nI s) (nI N) I L = _
        unfold X6_rule
        rw [rR.1, hx, ob_some, c1, jb2_some, if_pos rfl]
        exact a1
      · show X7_rule 164 (nI (l + 1)) (nI s) (nI N) I' L = _
        unfold X7_rule
        rw [hxM I' (by rw [a3 165 (by omega), c2 165 (by omega)]), ob_some, jlet_d, if_neg (by decide), cM I' (by rw [a3 _ (by omega), c2 _ (by omega)]) (by rw [a3 _ (by omega), c2 _ (by omega)]), ob_some]
        dsimp only
        rw [if_pos rfl]
        exact b2
  rcases lev_c h x with ⟨e1, e2⟩ | ⟨l, hl, rfl, e1, e2⟩
  · exact fin 0 (Or.inl rfl) e1 e2 (fun z => absurd z (by decide))
  · exact fin 1 (Or.inr rfl) e1 e2 (fun _ => ⟨l, hl, rfl⟩)
theorem t_size (h : GG B cnt mode T S I L) (hB : B + 32768 < 1073741824) (x y z w : Int32) : Two B L (fun I => X6_size 1 x y z w I L) (fun I => X7_size 164 x y z w I L) I := by
  have hc4 := h.1.1.1
  have fin : ∀ f g, (f = 0 ∨ f = 1) → g = (if f = 0 then (0 : Int32) else (if w < 0 then (0 : Int32) else (1 : Int32))) → X6_isWithin x 1 (I 2 1) = some f → (∀ J : jI, J 165 = I 165 → X7_isLevel 164 x J = some f) → (f = 1 → ∃ l, l < cnt ∧ x = nI (l + 1)) → Two B L (fun I => X6_size 1 x y z w I L) (fun I => X7_size 164 x y z w I L) I := by
    intro f g hf hg hx hxM hl
    have hg01 : g = 0 ∨ g = 1 := by
      rw [hg]; split
      · exact Or.inl rfl
      · split
        · exact Or.inl rfl
        · exact Or.inr rfl
    have mM : ∀ (J : jI), J 165 = I 165 → ∀ r : Int32, (g = 0 → r = -52) → (g = 1 → X7_wrongRow 164 y z 40 J L = some r) → X7_size 164 x y z w J L = (if r = 0 then jfx (X7_size_F1 164 x y z w L) (fun _ _ => none) 1000 (1 : Int32) J else jb2 (X7_refuses 164 r J) (fun (y16 : Int32) (I17 : jI) => some (y16, I17))) := by
      intro J hJ r h0 h1
      unfold X7_size
      rw [hxM J hJ, ob_some, jlet_d, jlet_d]
      rcases hf with rfl | rfl
      · rw [if_pos rfl] at hg
        rw [if_pos rfl, h0 hg]
      · rw [if_neg (by decide)] at hg
        rw [if_neg (by decide)]
        by_cases hw : w < 0
        · rw [if_pos hw] at hg
          rw [if_pos hw, h0 hg]
        · rw [if_neg hw] at hg
          rw [if_neg hw, h1 hg, ob_some]
    rcases hear_c h y z g hg01 with ⟨r, I1, I2, r0, c1, c1', c2, c3, c4, c5⟩ | ⟨g1, s, zz, N, pg, I9, hs, rfl, rfl, hN, hz40, c1, c2, ht, hG, cM⟩
    · refine ⟨r, I1, I2, ?_, ?_, cnt, mode, T, S, c3.mono (by omega)⟩
      · show X6_size 1 x y z w I L = _
        unfold X6_size
        rw [rR.1, hx, ob_some, jlet_d, ← hg, c1, jb2_some, if_neg r0]
      · show X7_size 164 x y z w I1 L = _
        rw [mM I1 (c1' _ (by omega) (by omega)) r c4 c5, if_neg r0, c2, jb2_some]
    · have hf1 : f = 1 := by
        rcases hf with rfl | rfl
        · rw [if_pos rfl, g1] at hg; exact absurd hg (by decide)
        · rfl
      obtain ⟨l, hlc, rfl⟩ := hl hf1
      have key := fun J hJ => size_key (l := l) hG.1 ht (by omega) hs hB hlc w 16 1000 1 I9 J (by omega) (by omega) (by omega) (fun _ _ => rfl) hJ
      obtain ⟨r, I', J0, a1, -, a3, -⟩ := key I9 (fun _ _ => rfl)
      obtain ⟨r2, I2, J2, b1, b2, b3, b4⟩ := key I' (fun i _ => by rw [a3 165 (by omega)])
      have he : r2 = r := by
        rw [a1] at b1
        exact (Prod.mk.inj (Option.some.inj b1)).1.symm
      subst he
      refine ⟨r2, I', J2, ?_, ?_, cnt, mode, T, S, ((hG.un (UN.of48 a3)).un b4).mono (by omega)⟩
      · show X6_size 1 (nI (l + 1)) (nI s) (nI N) w I L = _
        unfold X6_size
        rw [rR.1, hx, ob_some, jlet_d, ← hg, c1, jb2_some, if_pos rfl]
        exact a1
      · show X7_size 164 (nI (l + 1)) (nI s) (nI N) w I' L = _
        rw [mM I' (by rw [a3 165 (by omega), c2 165 (by omega)]) 0 (fun z => by rw [g1] at z; exact absurd z (by decide)) (fun _ => cM I' (by rw [a3 _ (by omega), c2 _ (by omega)]) (by rw [a3 _ (by omega), c2 _ (by omega)])), if_pos rfl]
        exact b2
  rcases lev_c h x with ⟨e1, e2⟩ | ⟨l, hl, rfl, e1, e2⟩
  · exact fin 0 _ (Or.inl rfl) rfl e1 e2 (fun z => absurd z (by decide))
  · exact fin 1 _ (Or.inr rfl) rfl e1 e2 (fun _ => ⟨l, hl, rfl⟩)
theorem t_modes (h : GG B cnt mode T S I L) (hB : B + 32768 < 1073741824) (y z : Int32) : Two B L (fun I => X6_modes 1 y z I L) (fun I => X7_modes 164 y z I L) I := by
  rcases hear_c h y z 1 (Or.inr rfl) with ⟨r, I1, I2, r0, c1, c1', c2, c3, -, c5⟩ | ⟨-, s, zz, N, pg, I9, hs, rfl, rfl, hN, hz40, c1, c2, ht, hG, cM⟩
  · refine ⟨r, I1, I2, ?_, ?_, cnt, mode, T, S, c3.mono (by omega)⟩
    · show X6_modes 1 y z I L = _
      unfold X6_modes
      rw [c1, jb2_some, if_neg r0]
    · show X7_modes 164 y z I1 L = _
      unfold X7_modes
      rw [c5 rfl, ob_some, if_neg r0, c2, jb2_some]
  · have key := fun J hJ => modes_key hG.1 ht (by omega) hs hB 3 1000 0 0 0 2147483647 I9 J (by omega) (by omega) (fun _ _ => rfl) hJ (Or.inl ⟨rfl, rfl⟩)
    obtain ⟨r, I', J0, a1, -, a3, -⟩ := key I9 (fun _ _ => rfl)
    obtain ⟨r2, I2, J2, b1, b2, b3, b4⟩ := key I' (fun i _ => by rw [a3 165 (by omega)])
    have he : r2 = r := by
      rw [a1] at b1
      exact (Prod.mk.inj (Option.some.inj b1)).1.symm
    subst he
    refine ⟨r2, I', J2, ?_, ?_, cnt, mode, T, S, ((hG.un (UN.of48 a3)).un b4).mono (by omega)⟩
    · show X6_modes 1 (nI s) (nI N) I L = _
      unfold X6_modes
      rw [c1, jb2_some, if_pos rfl]
      exact a1
    · show X7_modes 164 (nI s) (nI N) I' L = _
      unfold X7_modes
      rw [cM I' (by rw [a3 _ (by omega), c2 _ (by omega)]) (by rw [a3 _ (by omega), c2 _ (by omega)]), ob_some, if_pos rfl]
      exact b2
end TK
