/-! SWEEPING OUT all levels: on both sides -/
theorem swAll {B o cnt mode T : Nat} {S : Nat → Nat} (ho : OB o) : ∀ d n i (I : jI) (m : Mn), CORE B o cnt mode T S I m → i + d = cnt → d < n →
    ∃ I' m', (∀ kC, jfx (X4_sweepOut_F2 o kC) (fun _ _ => none) n (nI (i + 1)) I = kC I') ∧ (∀ J : jI, J 165 = m → ∀ kM, jfx (X7_sweepsOut_F3 164 kM) (fun _ _ => none) n (nI i) J = kM (jrow J 165 m')) ∧ CORE B o cnt mode T S I' m' ∧ KP o I I' ∧ KM m m' := by
  intro d
  induction d with
  | zero =>
    intro n i I m h h1 h2
    obtain ⟨n, rfl⟩ : ∃ q, n = q + 1 := ⟨n - 1, by omega⟩
    have hc4 := h.1.1
    refine ⟨I, m, fun kC => ?_, fun J hJ kM => ?_, h, KP.rf, KM.rf⟩
    · rw [jfx_s, X4_sweepOut_F2, h.2.1.1, if_pos (nI_lt (by omega) (by omega))]
    · rw [jfx_s, X7_sweepsOut_F3, if_pos (by decide), rM0, show ((688 : Int32)).toNatClampNeg = 688 from rfl, hJ, h.2.1.2.1, if_pos (nI_le (by omega) (by omega)), ← hJ, jrow_id]
  | succ d ih =>
    intro n i I m h h1 h2
    obtain ⟨n, rfl⟩ : ∃ q, n = q + 1 := ⟨n - 1, by omega⟩
    have hc4 := h.1.1
    obtain ⟨c, I1, m1, -, f1, f2, f3, f4, f5⟩ := sweep_sim ho (l := i) (by omega) h
    obtain ⟨I', m', e1, e2, e3, e4, e5⟩ := ih n (i + 1) I1 m1 f3 (by omega) (by omega)
    refine ⟨I', m', fun kC => ?_, fun J hJ kM => ?_, e3, f4.tr e4, f5.tr e5⟩
    · rw [jfx_s, X4_sweepOut_F2, h.2.1.1, if_neg (nI_nlt (by omega) (by omega)), f1, jb2_some, show nI (i + 1) + (1 : Int32) = nI (i + 1 + 1) from nI_1 _]
      exact e1 kC
    · rw [jfx_s, X7_sweepsOut_F3, if_pos (by decide), rM0, show ((688 : Int32)).toNatClampNeg = 688 from rfl, hJ, h.2.1.2.1, if_neg (nI_ge (by omega) (by omega)), f2 J hJ, jb2_some, show nI i + (1 : Int32) = nI (i + 1) from nI_1 _]
      refine (e2 _ (jrow_self _ _ _) kM).trans ?_
      rw [jrow_jrow]
def EMP (m : Mn) (n : Nat) : Prop := ∀ l, l < n → m (131 + 140 * l) = 0 ∧ ∀ k, k < 16 → m (140 + 140 * l + 7 * k) = -1
theorem emAll {B o cnt mode T : Nat} {S : Nat → Nat} (ho : OB o) : ∀ d n i (I : jI) (m : Mn), CORE B o cnt mode T S I m → EMP m i → i + d = cnt → d < n →
    ∃ I' m', jfx (X4_sweepOut_F1 o) (fun _ _ => none) n (nI (i + 1)) I = some (jup I' o 8 0) ∧ (∀ J : jI, J 165 = m → ∀ kM, jfx (X7_sweepsOut_F2 164 kM) (fun _ _ => none) n (nI i) J = kM (jrow J 165 m')) ∧ CORE B o cnt mode T S I' m' ∧ EMP m' cnt ∧ (∀ r, (r < o + 10 ∨ o + 46 ≤ r) → I' r = I r) ∧ (∀ w, (w < 128 ∨ 688 ≤ w) → m' w = m w) := by
  intro d
  induction d with
  | zero =>
    intro n i I m h hE h1 h2
    obtain ⟨n, rfl⟩ : ∃ q, n = q + 1 := ⟨n - 1, by omega⟩
    have hc4 := h.1.1
    refine ⟨I, m, ?_, fun J hJ kM => ?_, h, by rw [show cnt = i by omega]; exact hE, fun _ _ => rfl, fun _ _ => rfl⟩
    · rw [jfx_s, X4_sweepOut_F1, h.2.1.1, if_pos (nI_lt (by omega) (by omega)), jlet_d]
    · rw [jfx_s, X7_sweepsOut_F2, if_pos (by decide), rM0, show ((688 : Int32)).toNatClampNeg = 688 from rfl, hJ, h.2.1.2.1, if_pos (nI_le (by omega) (by omega)), ← hJ, jrow_id]
  | succ d ih =>
    intro n i I m h hE h1 h2
    obtain ⟨n, rfl⟩ : ∃ q, n = q + 1 := ⟨n - 1, by omega⟩
    have hc4 := h.1.1
    have hb : LB (o + 10 + 9 * i) := LB_o ho (by omega)
    obtain ⟨I1, a1, a2, a3, a4, a5, a6, a7⟩ := hn_e hb I
    obtain ⟨m1, b1, b2, b3⟩ := empM (l := i) (by omega) 16 1000 0 (ju1 m (131 + 140 * i) 0) (by omega) (by omega) (fun j hj => by omega)
    have em : ∀ w, w ≠ 131 + 140 * i → (∀ j, j < 16 → w ≠ 140 + 140 * i + 7 * j) → m1 w = m w := fun w h1 h2 => by rw [b2 w h2, ju1_ne _ _ h1]
    have em1 : m1 (131 + 140 * i) = 0 := by rw [b2 _ (fun j hj => by omega), ju1_eq]
    have hC1 : CORE B o cnt mode T S I1 m1 := by
      obtain ⟨g1, g2, g3, g4, g5⟩ := h
      refine ⟨g1, g2.keep2 (fun j _ => by rw [a2 o (by omega)]) (fun w hw => em w (by omega) (fun j hj => by omega)), fun j hj => ?_, g4.congr (a2 _ (by omega)) (by rw [a2 o (by omega)]) (by rw [a2 _ (by omega)]) (by rw [a2 o (by omega)]) (fun w hw => em w (by omega) (fun j hj => by omega)), fun e => (g5 e).of g1.1 (fun j k _ h3 h4 => ?_)⟩
      · by_cases e : j = i
        · subst e
          exact (g3 j hj).emptied a3 a4 a5 a6 a7 (fun w z1 z2 z3 => em w z3 (fun jj hjj => by omega)) em1 b3
        · exact (g3 j hj).congr (fun r x y => a2 r (by omega)) (fun w x y => em w (by omega) (fun jj hjj => by omega))
      · by_cases e : j = i
        · subst e; exact Or.inr (b3 k h4)
        · exact Or.inl (em _ (by omega) (fun jj hjj => by omega))
    obtain ⟨I', m', e1, e2, e3, e4, e5, e6⟩ := ih n (i + 1) I1 m1 hC1 (fun l hl => by
      by_cases e : l = i
      · subst e; exact ⟨em1, b3⟩
      · obtain ⟨z1, z2⟩ := hE l (by omega)
        exact ⟨by rw [em _ (by omega) (fun jj hjj => by omega)]; exact z1, fun k hk => by rw [em _ (by omega) (fun jj hjj => by omega)]; exact z2 k hk⟩) (by omega) (by omega)
    refine ⟨I', m', ?_, fun J hJ kM => ?_, e3, e4, fun r hr => by rw [e5 r hr, a2 r (by omega)], fun w hw => by rw [e6 w hw, em w (by omega) (fun jj hjj => by omega)]⟩
    · rw [jfx_s, X4_sweepOut_F1, h.2.1.1, if_neg (nI_nlt (by omega) (by omega)), levelAt_e ho I h.2.1.1 hc4 (show i < cnt by omega), ob_some, jlet_d, if_neg hb.1, a1, ob_some, show nI (i + 1) + (1 : Int32) = nI (i + 1 + 1) from nI_1 _]
      exact e1
    · rw [jfx_s, X7_sweepsOut_F2, if_pos (by decide), show ((688 : Int32)).toNatClampNeg = 688 from rfl, rM0, hJ, h.2.1.2.1, if_neg (nI_ge (by omega) (by omega)), at_e 3 i 3 rfl, ob_some, if_pos (jin_N (by omega) (by omega)), jlet_d, jlet_d, cl_N (by omega), show 128 + 140 * i + 3 = 131 + 140 * i by omega, jup_def, hJ, show nI i + (1 : Int32) = nI (i + 1) from nI_1 _]
      refine (b1 _ (jrow_self _ _ _) _).trans ?_
      rw [jrow_jrow]
      refine (e2 _ (jrow_self _ _ _) kM).trans ?_
      rw [jrow_jrow]
/-- THE SWEEP OUT, both sides -/
theorem sweepOut_sim {B o cnt mode T : Nat} {S : Nat → Nat} (ho : OB o) {I : jI} {m : Mn} (h : CORE B o cnt mode T S I m) :
    ∃ I' m', X4_sweepOut o I = some I' ∧ (∀ J : jI, J 165 = m → X7_sweepsOut 164 J = some (jrow J 165 m')) ∧ CORE B o cnt mode T S I' m' ∧ EMP m' cnt ∧ I' o 8 = 0 ∧ m' 694 = 0 ∧
      (∀ r j, (r < o ∨ o + 46 ≤ r ∨ (o + 4 ≤ r ∧ r ≤ o + 9) ∨ r = o + 1 ∨ (r = o ∧ j ≠ 8 ∧ j ≠ 11 ∧ j ≠ 13) ∨ (r = o + 3 ∧ j ≠ 0)) → I' r j = I r j) ∧ (∀ i, ((64 ≤ i ∧ i < 128) ∨ (688 ≤ i ∧ i ≠ 694 ∧ i ≠ 697 ∧ i ≠ 699 ∧ i ≠ 700)) → m' i = m i) := by
  obtain ⟨I1, m1, a1, a2, a3, a4, a5⟩ := swAll ho cnt 1000 0 I m h (by omega) (by have := h.1.1; omega)
  obtain ⟨I2, m2, b1, b2, b3, b4, b5, b6⟩ := emAll ho cnt 1000 0 I1 m1 a3 (fun l hl => by omega) (by omega) (by have := h.1.1; omega)
  have eI : ∀ r, r ≠ o → jup I2 o 8 0 r = I2 r := fun r hr => jup_ne _ _ hr
  refine ⟨jup I2 o 8 0, ju1 m2 694 0, ?_, fun J hJ => ?_, b3.congr (eI _ (by omega)) (fun r x y => eI r (by omega)) (by rw [eI _ (by omega)]) (fun f hf => by rw [jup_q, ju1_ne _ _ (by omega)]) (fun i hi => ju1_ne _ _ (by omega)), fun l hl => ?_, by rw [jup_q, ju1_eq], ju1_eq _ _ _, fun r j hr => ?_, fun i hi => ?_⟩
  · unfold X4_sweepOut
    rw [jlet_d]
    exact (a1 _).trans b1
  · unfold X7_sweepsOut
    rw [jlet_d]
    refine (a2 J hJ _).trans ?_
    rw [jlet_d]
    refine (b2 _ (jrow_self _ _ _) _).trans ?_
    rw [if_pos (by decide), jlet_d, rM0, jrow_jrow, show ((694 : Int32)).toNatClampNeg = 694 from rfl, jrow_jup]
  · have hc4 := h.1.1
    obtain ⟨z1, z2⟩ := b4 l hl
    exact ⟨by rw [ju1_ne _ _ (by omega)]; exact z1, fun k hk => by rw [ju1_ne _ _ (by omega)]; exact z2 k hk⟩
  · rw [jup_nj _ _ (by omega), b5 r (by omega), a4 r j (by omega)]
  · rw [ju1_ne _ _ (by omega), b6 i (by omega), a5 i (by omega)]
