/-! A SWEEP of a level: on both sides -/
theorem CORE.flush {B o cnt mode T l p : Nat} {S : Nat → Nat} (ho : OB o) {I : jI} {m : Mn} (h : CORE B o cnt mode T S I m) (hl : l < cnt) (hp : p < 64) (v : Int32) :
    ∃ I' m', X4_flush o (nI (l + 1)) (nI p) v I = some I' ∧ (∀ J : jI, J 165 = m → X7_flushes 164 (nI l) (nI p) v J = some (jrow J 165 m')) ∧ CORE B o cnt mode T S I' m' ∧ KP o I I' ∧ KM m m' ∧ (∀ r, r = o + 10 + 9 * l + 1 ∨ r = o + 10 + 9 * l + 2 ∨ r = o + 10 + 9 * l + 3 → I' r = I r) ∧ (∀ i, 140 + 140 * l ≤ i → i < 268 + 140 * l → m' i = m i) := by
  obtain ⟨⟨hc4, hmode, hTB, hB1⟩, hH, hL, hD, hex⟩ := h
  obtain ⟨I', m', f1, f2, f3, f4, f5, f6, f7, f8⟩ := flush_sim ho hc4 hH.1 hH.2.1 hl hp v (fun l' _ h2 => hL l' h2) hD
  have hLl := hL l hl
  have hnum := hLl.num (f := 8) (w := 7) (x := I (o + 10 + 9 * l) 8 + 1) (y := m (135 + 140 * l) + 1) (by omega) (by rw [hLl.1.2.2.2.2.2.2.2.2.2.1])
  rw [show 128 + 140 * l + 7 = 135 + 140 * l by omega] at hnum
  refine ⟨I', m', f1, f2, ⟨⟨hc4, hmode, hTB, hB1⟩, hH.keep (fun j h1 h2 => f5 o j (by omega)) (fun i h1 h2 h3 h4 => f6 i (by omega)), fun j hj => ?_, f4, fun e => (hex e).of hc4 (fun j k _ h1 h2 => Or.inl (f8 j k (by omega) h2))⟩, f5, f6, fun r hr => ?_, fun i h1 h2 => ?_⟩
  · rcases Nat.lt_trichotomy j l with e | e | e
    · exact ((hL j hj).congr (fun r a b => jup_ne _ _ (by omega)) (fun i a b => ju1_ne _ _ (by omega))).near f7 (by omega)
    · subst e; exact hnum.near f7 (by omega)
    · exact f3 j e hj
  · rw [f7.1 r (by omega) (by omega), jup_ne _ _ (by omega)]
  · rw [f7.2 i (by omega) (by omega), ju1_ne _ _ (by omega)]
theorem sweep_key {B o cnt mode T l : Nat} {S : Nat → Nat} (ho : OB o) (hl : l < cnt) : ∀ d n k c (I : jI) (m : Mn), CORE B o cnt mode T S I m → k + d = S l → d < n →
    ∃ c' I' m', c' ≤ c + d ∧ jfx (X4_sweepLevel_F1 o (nI (l + 1)) (o + 10 + 9 * l)) (fun _ _ _ => none) n (nI c) (nI k) I = some (nI c', I') ∧ (∀ J : jI, J 165 = m → jfx (X7_sweeps_F1 164 (nI l)) (fun _ _ _ => none) n (nI c) (nI k) J = some (nI c', jrow J 165 m')) ∧ CORE B o cnt mode T S I' m' ∧ KP o I I' ∧ KM m m' := by
  intro d
  induction d with
  | zero =>
    intro n k c I m h h1 h2
    obtain ⟨n, rfl⟩ : ∃ q, n = q + 1 := ⟨n - 1, by omega⟩
    have hLl := h.2.2.1 l hl
    have hc4 := h.1.1
    have hs := hLl.1.1
    refine ⟨c, I, m, by omega, ?_, fun J hJ => ?_, h, KP.rf, KM.rf⟩
    · rw [jfx_s, X4_sweepLevel_F1, hLl.1.2.1.1, if_pos (nI_le (by omega) (by omega))]
    · rw [jfx_s, X7_sweeps_F1, of_e 0 l 0 rfl (by omega), ob_some, hJ, Nat.add_zero, hLl.1.2.1.2, if_pos (nI_le (by omega) (by omega)), ← hJ, jrow_id]
  | succ d ih =>
    intro n k c I m h h1 h2
    obtain ⟨n, rfl⟩ : ∃ q, n = q + 1 := ⟨n - 1, by omega⟩
    have hLl := h.2.2.1 l hl
    have hc4 := h.1.1
    have hs := hLl.1.1
    have hb : LB (o + 10 + 9 * l) := LB_o ho (by omega)
    have hk : k < 16 := by omega
    have hbeg : ∀ J : jI, J 165 = m → jfx (X7_sweeps_F1 164 (nI l)) (fun _ _ _ => none) (n + 1) (nI c) (nI k) J = if m (140 + 140 * l + 7 * k) < 0 then jfx (X7_sweeps_F1 164 (nI l)) (fun _ _ _ => none) n (nI c) (nI (k + 1)) J else if m (140 + 140 * l + 7 * k + 2) = 1 then (X7_flushes 164 (nI l) (m (140 + 140 * l + 7 * k)) (m (140 + 140 * l + 7 * k + 1)) J).bind (fun I21 => jfx (X7_sweeps_F1 164 (nI l)) (fun _ _ _ => none) n (nI (c + 1)) (nI (k + 1)) (jup I21 165 (140 + 140 * l + 7 * k + 2) 0)) else jfx (X7_sweeps_F1 164 (nI l)) (fun _ _ _ => none) n (nI c) (nI (k + 1)) J := by
      intro J hJ
      rw [jfx_s, X7_sweeps_F1, of_e 0 l 0 rfl (by omega), ob_some, hJ, Nat.add_zero, hLl.1.2.1.2, if_neg (nI_ge (by omega) (by omega)), note_e 0 l k 0 rfl (by omega), ob_some, hJ, Nat.add_zero, jlet_d, show nI k + (1 : Int32) = nI (k + 1) from nI_1 k, show nI c + (1 : Int32) = nI (c + 1) from nI_1 c, note_e 2 l k 2 rfl (by omega), ob_some, hJ, ob_some, note_e 1 l k 1 rfl (by omega), ob_some, hJ, slotAt_e 2 l k 2 rfl, rM0]
      by_cases c1 : m (140 + 140 * l + 7 * k) < 0
      · rw [if_pos c1, if_pos c1]
      · rw [if_neg c1, if_neg c1]
        by_cases c2 : m (140 + 140 * l + 7 * k + 2) = 1
        · rw [if_pos c2, if_pos c2]
          refine congrArg _ ?_
          funext I21
          rw [ob_some, if_pos (jin_N (by omega) (by omega)), jlet_d, cl_N (by omega)]
        · rw [if_neg c2, if_neg c2]
    have hskip : I (o + 10 + 9 * l + 3) k = 0 → (m (140 + 140 * l + 7 * k) < 0 ∨ m (140 + 140 * l + 7 * k + 2) = 0) → ∃ c' I' m', c' ≤ c + (d + 1) ∧ jfx (X4_sweepLevel_F1 o (nI (l + 1)) (o + 10 + 9 * l)) (fun _ _ _ => none) (n + 1) (nI c) (nI k) I = some (nI c', I') ∧ (∀ J : jI, J 165 = m → jfx (X7_sweeps_F1 164 (nI l)) (fun _ _ _ => none) (n + 1) (nI c) (nI k) J = some (nI c', jrow J 165 m')) ∧ CORE B o cnt mode T S I' m' ∧ KP o I I' ∧ KM m m' := by
      intro z1 z2
      obtain ⟨c', I', m', e0, e1, e2, e3⟩ := ih n (k + 1) c I m h (by omega) (by omega)
      refine ⟨c', I', m', by omega, ?_, fun J hJ => ?_, e3⟩
      · rw [jfx_s, X4_sweepLevel_F1, hLl.1.2.1.1, if_neg (nI_ge (by omega) (by omega)), isDirty_e hb hk I (Or.inl z1), ob_some, z1, jlet_d, if_pos rfl, show nI k + (1 : Int32) = nI (k + 1) from nI_1 k]
        exact e1
      · rw [hbeg J hJ]
        rcases z2 with z2 | z2
        · rw [if_pos z2]; exact e2 J hJ
        · rw [z2, if_neg (show ¬ (0 : Int32) = 1 by decide), ite_self]; exact e2 J hJ
    by_cases he : m (140 + 140 * l + 7 * k) = -1
    · rcases (hLl.2.1 k hk).2 with ⟨-, z⟩ | ⟨q, q1, q2, -⟩
      · exact hskip z (Or.inl (by rw [he]; decide))
      · rw [he] at q2; exact absurd q2.symm (m1_ne (by omega))
    · obtain ⟨q, hq, hpg, -⟩ := hLl.page hk he
      obtain ⟨-, -, u0, u1, u2⟩ := hLl.slot hk hpg hq
      rcases u2 with u2 | u2
      · exact hskip (by rw [u1, u2]) (Or.inr u2)
      · obtain ⟨I1, m1, f1, f2, f3, f4, f5, f6, f7⟩ := h.flush ho hl hq (m (140 + 140 * l + 7 * k + 1))
        have hpg1 : m1 (140 + 140 * l + 7 * k) = nI q := by rw [f7 _ (by omega) (by omega)]; exact hpg
        obtain ⟨c1, c2, c3⟩ := f3.chg hl hk hpg1 hq (m (140 + 140 * l + 7 * k + 1)) (d := 0) (Or.inl rfl)
        have hmc : mChg m1 l k (m (140 + 140 * l + 7 * k + 1)) 0 = ju1 m1 (140 + 140 * l + 7 * k + 2) 0 := by
          unfold mChg
          have : ju1 m1 (140 + 140 * l + 7 * k + 1) (m (140 + 140 * l + 7 * k + 1)) = m1 := by
            funext w
            by_cases e : w = 140 + 140 * l + 7 * k + 1
            · subst e; rw [ju1_eq, f7 _ (by omega) (by omega)]
            · rw [ju1_ne _ _ e]
          rw [this]
        obtain ⟨c', I', m', e0, e1, e2, e3, e4, e5⟩ := ih n (k + 1) (c + 1) _ _ c1 (by omega) (by omega)
        refine ⟨c', I', m', by omega, ?_, fun J hJ => ?_, e3, (f4.tr c2).tr e4, (f5.tr c3).tr e5⟩
        · have hpC : I (o + 10 + 9 * l + 1) k = nI q := by rw [(hLl.2.1 k hk).1, hpg]
          rw [jfx_s, X4_sweepLevel_F1, hLl.1.2.1.1, if_neg (nI_ge (by omega) (by omega)), isDirty_e hb hk I (Or.inr (by rw [u1, u2])), ob_some, u1, u2, jlet_d, if_neg (by decide), pageIn_e hb hk, ob_some, hpC, valueIn_e hb hk, ob_some, u0, f1, ob_some, valueIn_e hb hk, ob_some, f6 _ (by omega), u0, change_e hb hk _ 0 (Or.inl rfl), ob_some, show nI k + (1 : Int32) = nI (k + 1) from nI_1 k, show nI c + (1 : Int32) = nI (c + 1) from nI_1 c]
          exact e1
        · rw [hbeg J hJ, hpg, if_neg (nI_pos (by omega)), if_pos u2, f2 J hJ, ob_some]
          refine (e2 _ ?_).trans ?_
          · rw [jup_q, jrow_self, hmc]
          · rw [jup_def, jrow_jrow, jrow_jrow]
theorem sweep_sim {B o cnt mode T l : Nat} {S : Nat → Nat} (ho : OB o) (hl : l < cnt) {I : jI} {m : Mn} (h : CORE B o cnt mode T S I m) :
    ∃ c I' m', c ≤ 16 ∧ X4_sweepLevel o (nI (l + 1)) I = some (nI c, I') ∧ (∀ J : jI, J 165 = m → X7_sweeps 164 (nI l) J = some (nI c, jrow J 165 m')) ∧ CORE B o cnt mode T S I' m' ∧ KP o I I' ∧ KM m m' := by
  have hs := (h.2.2.1 l hl).1.1
  obtain ⟨c, I', m', e0, e1, e2, e3⟩ := sweep_key (B := B) (mode := mode) (T := T) ho hl (S l) 1000 0 0 I m h (by omega) (by omega)
  refine ⟨c, I', m', by omega, ?_, fun J hJ => e2 J hJ, e3⟩
  unfold X4_sweepLevel
  rw [levelAt_e ho I h.2.1.1 h.1.1 hl, ob_some, if_neg (LB_o ho (show l < 4 by have := h.1.1; omega)).1]
  exact e1
