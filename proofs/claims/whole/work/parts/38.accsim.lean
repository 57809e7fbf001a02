/-! AN ACCESS: the store and the model's row after it -/
theorem access_sim {B o cnt mode T p : Nat} {S : Nat → Nat} (ho : OB o) {I : jI} {m : Mn} (h : ST B o cnt mode T S I m) (hp : p < 64) {w v : Int32} (hw : w = 0 ∨ w = 1) (hB : B + 64 < 1073741824) :
    ∃ cost h6 I' m', cost ≤ 1395 ∧ X4_access o (nI p) w v I = some (nI cost, I') ∧ (w = 0 → ∀ J : jI, J 165 = m → X7_reads 164 (nI p) J = some (I' o 17, Nf J (nI cost) h6 m')) ∧ (w = 1 → ∀ J : jI, J 165 = m → X7_writes 164 (nI p) v J = some (nI cost, Nf J (nI cost) h6 m')) ∧ ST (B + 64) o cnt mode (T + 1) S I' m' ∧ (∀ r, (r < o ∨ o + 46 ≤ r) → I' r = I r) ∧ I' o 16 = h6 ∧ ∃ f, f ≤ 4 ∧ h6 = nI f := by
  obtain ⟨j, cost, fr, g, dd, I3, I6, mA, hAB⟩ := look_AB ho h hp (by omega)
  obtain ⟨y8, I7, mB, s1, s2, s3, s4, s5, s6⟩ := hold_sim ho hp (by omega) h.1 hAB
  obtain ⟨⟨hj, hcost, hfr, -, -⟩, hlook, hleave, -, ⟨h16, h17⟩, -, -, -, -, -, -, hrow, hfld, hmw, hmp, hrunF, hrunN⟩ := hAB
  obtain ⟨⟨hc4, hmode, hTB, hB1⟩, hH, hL, hD, hex, ⟨⟨r0, hr0, hr8, hr94⟩, hr95⟩, ⟨⟨far, hfar, hfI, hfm⟩, ⟨hwr1, hwr2⟩, ⟨a, ha, haI, ham⟩, h10, h12, ⟨dp, hdp, hdI, hdm⟩, htimes, h702, hX⟩⟩ := h
  have sC := s4.congr (m' := ju1 mB 698 (mB 698 + nI cost)) (I' := I7) rfl (fun _ _ _ => rfl) rfl (fun _ _ => rfl) (fun i hi => ju1_ne _ _ (by omega))
  have e690 : ju1 mB 698 (mB 698 + nI cost) 690 = m 690 := by rw [ju1_ne _ _ (by omega), s6 _ (by omega), hmw _ (by omega) (by omega) (by omega) (by omega) (by omega)]
  have e5 : I7 o 5 = I o 5 := by rw [s5 o 5 (by omega), hfld _ (by omega) (by omega) (by omega)]
  obtain ⟨I8, mD, hput, sD, p5, p6⟩ : ∃ I8 mD, ((w = 0 → I8 = I7 ∧ mD = ju1 mB 698 (mB 698 + nI cost)) ∧ (w = 1 → X4_putValue o (nI p) v I7 = some I8 ∧ ∀ J : jI, J 165 = ju1 mB 698 (mB 698 + nI cost) → ∀ k10, wrM (nI p) v k10 J = k10 (jrow J 165 mD))) ∧ CORE (B + 17) o cnt mode (T + 1) S I8 mD ∧ KP o I7 I8 ∧ KM (ju1 mB 698 (mB 698 + nI cost)) mD := by
    rcases hw with e | e
    · exact ⟨I7, _, ⟨fun _ => ⟨rfl, rfl⟩, fun e2 => by rw [e] at e2; exact absurd e2 (by decide)⟩, sC, KP.rf, KM.rf⟩
    · obtain ⟨I8, mD, q1, q2, q3, q4, q5⟩ := put_value ho hp v sC ⟨by rw [e5, e690]; exact hwr1, by rw [e690]; exact hwr2⟩
      exact ⟨I8, mD, ⟨fun e2 => by rw [e] at e2; exact absurd e2 (by decide), fun _ => ⟨q1, q2⟩⟩, q3, q4, q5⟩
  have f8 : ∀ f, f ≠ 7 → f ≠ 11 → f ≠ 13 → f ≠ 16 → f ≠ 17 → I8 o f = I o f := fun f h1 h2 h3 h4 h5 => by rw [p5 o f (by omega), s5 o f (by omega), hfld f h1 h4 h5]
  have m8 : ∀ i, ((64 ≤ i ∧ i < 128) ∨ (688 ≤ i ∧ i ≠ 697 ∧ i ≠ 698 ∧ i ≠ 699 ∧ i ≠ 700)) → mD i = mA i := fun i hi => by rw [p6 i (by omega), ju1_ne _ _ (by omega), s6 i (by omega)]
  have hrun : if fr = 0 then mD 695 = nI p ∧ mD 694 = (if nI r0 ≤ 0 then 1 else if nI p = I o 9 + 1 then nI r0 + 1 else 1) else mD 694 = nI r0 ∧ (mD 694 = 0 ∨ I o 9 = mD 695) := by
    rw [m8 694 (by omega), m8 695 (by omega)]
    by_cases e : j < cnt
    · rw [if_neg (by rw [hfr, if_pos e]; omega), (hrunF e).1, (hrunF e).2]
      exact ⟨hr94, hr95⟩
    · rw [if_pos (by rw [hfr, if_neg e])]
      obtain ⟨z1, z2⟩ := hrunN (by omega)
      rw [z1, z2]
      unfold runM
      rw [hr94]
      refine ⟨rfl, ?_⟩
      rcases hr95 with z | z
      · rw [hr94] at z
        rw [if_pos (by rw [z]; decide), if_pos (by rw [z]; decide)]
      · rw [z]
  obtain ⟨I9, mE, t1, t2, t3, t4, t5, t6, t7⟩ := fetch_sim (B := B + 17) (r0 := r0) (a := a) (fr := fr) (x9 := I o 9) ho hp sD (by omega) (by rw [p5 o 16 (by omega), s5 o 16 (by omega)]; exact h16) (by rw [hfr]; split <;> omega) (by rw [f8 8 (by omega) (by omega) (by omega) (by omega) (by omega)]; exact hr8) (by omega) (by rw [f8 9 (by omega) (by omega) (by omega) (by omega) (by omega)]) ha (by rw [f8 6 (by omega) (by omega) (by omega) (by omega) (by omega)]; exact haI) (by rw [m8 691 (by omega), hmw _ (by omega) (by omega) (by omega) (by omega) (by omega)]; exact ham) (by rw [f8 10 (by omega) (by omega) (by omega) (by omega) (by omega), m8 696 (by omega), hmw _ (by omega) (by omega) (by omega) (by omega) (by omega)]; exact h10) hrun
  have f9 : ∀ f, f ≠ 7 → f ≠ 8 → f ≠ 9 → f ≠ 10 → f ≠ 11 → f ≠ 13 → f ≠ 16 → f ≠ 17 → I9 o f = I o f := fun f h1 h2 h3 h4 h5 h6 h7 h8 => by rw [t4 o f (by omega), f8 f h1 h5 h6 h7 h8]
  have r9 : ∀ r k, (r < o ∨ o + 46 ≤ r ∨ (o + 4 ≤ r ∧ r ≤ o + 9) ∨ (r = o + 3 ∧ k ≠ 0)) → I9 r k = I r k := fun r k hr => by rw [t4 r k (by omega), p5 r k (by omega), s5 r k (by omega), hrow r (by omega)]
  have m9 : ∀ i, ((64 ≤ i ∧ i < 128 ∧ i ≠ 64 + p) ∨ (688 ≤ i ∧ i ≠ 693 ∧ i ≠ 694 ∧ i ≠ 695 ∧ i ≠ 696 ∧ i ≠ 697 ∧ i ≠ 698 ∧ i ≠ 699 ∧ i ≠ 700)) → mE i = m i := fun i hi => by rw [t5 i (by omega), m8 i (by omega), hmw i (by omega) (by omega) (by omega) (by omega) (by omega)]
  have m9p : mE (64 + p) = m (64 + p) + 1 := by rw [t5 _ (by omega), m8 _ (by omega), hmp]
  have m98 : mE 698 = m 698 + nI cost := by rw [t5 _ (by omega), p6 _ (by omega), ju1_eq, s6 _ (by omega), hmw _ (by omega) (by omega) (by omega) (by omega) (by omega)]
  have h97 : I9 o 7 = nI (T + 1) := t3.2.1.2.2.2.2.1
  have h916 : I9 o 16 = nI fr := by rw [t4 o 16 (by omega), p5 o 16 (by omega), s5 o 16 (by omega)]; exact h16
  have h917 : I9 o 17 = g := by rw [t4 o 17 (by omega), p5 o 17 (by omega), s5 o 17 (by omega)]; exact h17
  have hE702 : mE 702 = nI (min T 20) := by rw [m9 _ (by omega)]; exact h702
  obtain ⟨I20, hI20⟩ : ∃ I20, I20 = jup I9 o 12 (I9 o 12 + nI cost) := ⟨_, rfl⟩
  have e20 : ∀ r, r ≠ o → I20 r = I9 r := fun r hr => by rw [hI20, jup_ne _ _ hr]
  have e20o : ∀ f, f ≠ 12 → I20 o f = I9 o f := fun f hf => by rw [hI20, jup_q, ju1_ne _ _ hf]
  have eN : ∀ r, (r < o + 5 ∨ o + 10 ≤ r) → noteI o ((T + 1) % 20) p w (nI cost) (nI fr) I20 r = I20 r := fun r hr => by unfold noteI; simp (disch := omega) only [jup_ne]
  have eM : ∀ i, i < 702 → noteM mE p w (nI cost) (nI fr) (nI (min (T + 1) 20)) i = mE i := fun i hi => by
    unfold noteM
    rw [ju1_ne _ _ (by omega), ju1_ne _ _ (by omega), ju1_ne _ _ (by omega), ju1_ne _ _ (by omega), ju1_ne _ _ (by omega)]
    unfold shG
    rw [if_neg (by omega)]
  refine ⟨cost, nI fr, noteI o ((T + 1) % 20) p w (nI cost) (nI fr) I20, noteM mE p w (nI cost) (nI fr) (nI (min (T + 1) 20)), hcost, ?_, fun hw0 J hJ => ?_, fun hw1 J hJ => ?_, ⟨⟨hc4, hmode, by omega, by omega⟩, ?_⟩, fun r hr => ?_, by rw [eN o (by omega), e20o _ (by omega), h916], fr, by rw [hfr]; split <;> omega, rfl⟩
  · have hcl : ∀ K : jI → Option (Int32 × jI), K = (fun (I12 : jI) => runK o (nI p) (fun v14 I15 => jfx (X4_access_F1 o v14 (fun (I18 : jI) => jlet (jup I18 o 12 ((I18 o 12) + nI cost)) (fun (I20 : jI) => (X1_note (rfC o 15) (I20 o 7) (nI p) w (nI cost) (I20 o 16) I20).bind (fun (I21 : jI) => some (nI cost, I21))))) (fun _ _ => none) 1000 (nI p + 1) I15) I12) → K I8 = some (nI cost, noteI o ((T + 1) % 20) p w (nI cost) (nI fr) I20) := by
      intro K hK
      rw [hK]
      have e1 : nI p + (1 : Int32) = nI (p + 1) := nI_1 p
      rw [e1]
      refine (t1 _).trans ?_
      rw [jlet_d, ← hI20, e20o _ (by omega), e20o _ (by omega), h97, h916, (SB_o ho).2.2.2.1, note_eC ho (by omega) hp w _ _ hw, ob_some]
    rw [access_e, hlook, jb2_some, hleave, jb2_some, s1, ob_some, s2, jlet_d]
    rcases hw with e | e
    · obtain ⟨z1, -⟩ := hput.1 e
      rw [if_pos e, ← z1]
      exact hcl _ rfl
    · obtain ⟨z1, -⟩ := hput.2 e
      rw [if_neg (by rw [e]; decide), z1, ob_some]
      exact hcl _ rfl
  · obtain ⟨z1, z2⟩ := hput.1 hw0
    unfold X7_reads
    rw [s3 J hJ, jb2_some, ← z2, follows_e (cnt := cnt) (Nf J (nI cost) (nI fr) mD) (by rw [Nf_165]; exact sD.2.1.2.1)]
    rw [t2 _ Nf_165 Nf_6, follow_end (T := T) (m := mE) _ 0 (nI cost) (nI fr) (jrow_self _ _ _) (by rw [jrow_ne _ _ (by omega), Nf_5]) (by rw [jrow_ne _ _ (by omega), Nf_6]) hE702, ob_some, jrow_jrow, Nf_row, eN o (by omega), e20o _ (by omega), h917, hw0]
  · obtain ⟨-, z2⟩ := hput.2 hw1
    rw [writes_e, s3 J hJ, jb2_some, z2 _ Nf_165, Nf_row, follows_e (cnt := cnt) (Nf J (nI cost) (nI fr) mD) (by rw [Nf_165]; exact sD.2.1.2.1)]
    rw [t2 _ Nf_165 Nf_6, follow_end (T := T) (m := mE) _ 1 (nI cost) (nI fr) (jrow_self _ _ _) (by rw [jrow_ne _ _ (by omega), Nf_5]) (by rw [jrow_ne _ _ (by omega), Nf_6]) hE702, ob_some, jrow_jrow, Nf_row, Nf_5, hw1]
  · have hCf := (t3.congr (I' := noteI o ((T + 1) % 20) p w (nI cost) (nI fr) I20) (m' := noteM mE p w (nI cost) (nI fr) (nI (min (T + 1) 20))) (by rw [eN _ (by omega), e20 _ (by omega)]) (fun r a b => by rw [eN _ (by omega), e20 _ (by omega)]) (by rw [eN _ (by omega), e20 _ (by omega)]) (fun f hf => by rw [eN _ (by omega), e20o _ (by omega)]) (fun i hi => eM i (by omega))).mono (B' := B + 64) (by omega)
    obtain ⟨⟨r1, u1, u2, u3⟩, u4⟩ := t6
    refine ⟨hCf.2.1, hCf.2.2.1, hCf.2.2.2.1, hCf.2.2.2.2, ⟨⟨r1, by omega, ?_, ?_⟩, ?_⟩, ⟨⟨far, hfar, ?_, ?_⟩, ⟨?_, ?_⟩, ⟨a, ha, ?_, ?_⟩, ?_, ?_, ⟨dp, hdp, ?_, ?_⟩, fun q hq => ?_, ?_, ?_⟩⟩
    · rw [eN _ (by omega), e20o _ (by omega)]; exact u2
    · rw [eM _ (by omega)]; exact u3
    · rw [eN _ (by omega), e20o _ (by omega), eM 694 (by omega), eM 695 (by omega)]; exact u4
    · rw [eN _ (by omega), e20o _ (by omega), f9 _ (by omega) (by omega) (by omega) (by omega) (by omega) (by omega) (by omega) (by omega)]; exact hfI
    · rw [eM _ (by omega), m9 _ (by omega)]; exact hfm
    · rw [eN _ (by omega), e20o _ (by omega), f9 _ (by omega) (by omega) (by omega) (by omega) (by omega) (by omega) (by omega) (by omega), eM _ (by omega), m9 _ (by omega)]; exact hwr1
    · rw [eM _ (by omega), m9 _ (by omega)]; exact hwr2
    · rw [eN _ (by omega), e20o _ (by omega), f9 _ (by omega) (by omega) (by omega) (by omega) (by omega) (by omega) (by omega) (by omega)]; exact haI
    · rw [eM _ (by omega), m9 _ (by omega)]; exact ham
    · rw [eN _ (by omega), e20o _ (by omega), eM _ (by omega)]; exact t7
    · rw [eN _ (by omega), hI20, jup_q, ju1_eq, f9 _ (by omega) (by omega) (by omega) (by omega) (by omega) (by omega) (by omega) (by omega), eM _ (by omega), m98, h12]
    · rw [eN _ (by omega), e20 _ (by omega), r9 _ _ (by omega)]; exact hdI
    · rw [eM _ (by omega), m9 _ (by omega)]; exact hdm
    · rw [eM _ (by omega)]
      have hq9 : noteI o ((T + 1) % 20) p w (nI cost) (nI fr) I20 (o + 9) q = if q = p then I (o + 9) p + 1 else I (o + 9) q := by
        unfold noteI
        rw [jup_q, e20 _ (by omega), r9 _ _ (by omega)]
        by_cases e : q = p
        · subst e; rw [ju1_eq, if_pos rfl]
        · rw [ju1_ne _ _ e, if_neg e, jup_ne _ _ (by omega), jup_ne _ _ (by omega), jup_ne _ _ (by omega), jup_ne _ _ (by omega), e20 _ (by omega), r9 _ _ (by omega)]
      rw [hq9]
      by_cases e : q = p
      · subst e; rw [if_pos rfl, m9p, htimes q hq]
      · rw [if_neg e, m9 _ (by omega), htimes q hq]
    · unfold noteM; rw [ju1_eq]
    · have hX9 : HX o T I20 mE := fun i hi => by
        obtain ⟨x1, x2, x3, x4⟩ := hX i hi
        rw [e20 _ (by omega), e20 _ (by omega), e20 _ (by omega), e20 _ (by omega), r9 _ _ (by omega), r9 _ _ (by omega), r9 _ _ (by omega), r9 _ _ (by omega), m9 _ (by omega), m9 _ (by omega), m9 _ (by omega), m9 _ (by omega)]
        exact ⟨x1, x2, x3, x4⟩
      exact hX9.note
  · rw [eN r (by omega), e20 r (by omega)]
    funext k
    exact r9 r k (by omega)
